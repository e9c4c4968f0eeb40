/-! KitchenWheels$Turner.<init>(II)V -/
def X10_init_F (hp : kw_H) (x0 : Nat) (x1 : Int32) (x2 : Int32) : Option (kw_H) :=
  (kp_put hp x0 [0, 3, 4, 5, 7] 0 (.int x1)).bind fun hp1 =>
  (kp_put hp1 x0 [0, 3, 4, 5, 7] 1 (.int x2)).bind fun hp2 =>
  some (hp2)
set_option maxRecDepth 100000 in
set_option maxHeartbeats 4000000 in
theorem X10_init_c (G : kw_G) (hp : kw_H) (x0 : Nat) (x1 : Int32) (x2 : Int32) (r : kw_H) (h : X10_init_F hp x0 x1 x2 = some r) : kw_Met G mX10_init [.ref x0, .int x1, .int x2] hp (fun v h2 => v = none ∧ h2 = r) := by
  refine kw_met (L := [some (.ref x0), some (.int x1), some (.int x2)]) (r := 0) (by decide +kernel) (Nat.le_of_ble_eq_true rfl) rfl ?_
  unfold X10_init_F at h
  obtain ⟨Q, hQ⟩ : ∃ Q : Option Value → kw_H → Prop, Q = (fun v h2 => v = none ∧ h2 = r) := ⟨_, rfl⟩
  have hK : Q none r := by rw [hQ]; exact ⟨rfl, rfl⟩
  rw [← hQ]
  clear hQ
  refine kw_aload_n dX10_init_0 rfl ?_
  refine kw_obj lkX10_1 im_obj cd_obj (by decide) (by decide) (Nat.le_of_ble_eq_true rfl) dX10_init_1 ?_
  refine kw_aload_n dX10_init_4 rfl ?_
  refine kw_iload_n dX10_init_5 rfl ?_
  obtain ⟨hp1, ehp1, h⟩ := Option.bind_eq_some_iff.mp h
  refine kv_put pfX10_init_7 (fun _ => ⟨rfl, rfl⟩) dX10_init_6 ehp1 ?_
  refine kw_aload_n dX10_init_9 rfl ?_
  refine kw_iload_n dX10_init_10 rfl ?_
  obtain ⟨hp2, ehp2, h⟩ := Option.bind_eq_some_iff.mp h
  refine kv_put pfX10_init_13 (fun _ => ⟨rfl, rfl⟩) dX10_init_11 ehp2 ?_
  have h := Option.some.inj h
  subst h
  exact kw_vret rfl dX10_init_14 hK
/-! KitchenWheels$One.<init>(II)V -/
def X4_init_F (hp : kw_H) (x0 : Nat) (x1 : Int32) (x2 : Int32) : Option (kw_H) :=
  (X10_init_F hp x0 x1 x2).bind fun r1 =>
  some (r1)
set_option maxRecDepth 100000 in
set_option maxHeartbeats 4000000 in
theorem X4_init_c (G : kw_G) (hp : kw_H) (x0 : Nat) (x1 : Int32) (x2 : Int32) (r : kw_H) (h : X4_init_F hp x0 x1 x2 = some r) : kw_Met G mX4_init [.ref x0, .int x1, .int x2] hp (fun v h2 => v = none ∧ h2 = r) := by
  refine kw_met (L := [some (.ref x0), some (.int x1), some (.int x2)]) (r := 0) (by decide +kernel) (Nat.le_of_ble_eq_true rfl) rfl ?_
  unfold X4_init_F at h
  obtain ⟨Q, hQ⟩ : ∃ Q : Option Value → kw_H → Prop, Q = (fun v h2 => v = none ∧ h2 = r) := ⟨_, rfl⟩
  have hK : Q none r := by rw [hQ]; exact ⟨rfl, rfl⟩
  rw [← hQ]
  clear hQ
  refine kw_aload_n dX4_init_0 rfl ?_
  refine kw_iload_n dX4_init_1 rfl ?_
  refine kw_iload_n dX4_init_2 rfl ?_
  obtain ⟨r1, er1, h⟩ := Option.bind_eq_some_iff.mp h
  refine kw_callI (As := [.int x1, .int x2]) (S := []) cbX4_init_X10_init rfl rfl lkX4_1 imX10_init rfl rfl (Nat.le_of_ble_eq_true rfl) dX4_init_3 (X10_init_c G hp x0 x1 x2 _ er1) (fun vv hh hq => ?_)
  rw [hq.1, hq.2]
  show kw_V G mX4_init 6 [some (.ref x0), some (.int x1), some (.int x2)] [] r1 Q
  have h := Option.some.inj h
  subst h
  exact kw_vret rfl dX4_init_6 hK
/-! KitchenWheels$Both.<init>(II)V -/
def X0_init_F (hp : kw_H) (x0 : Nat) (x1 : Int32) (x2 : Int32) : Option (kw_H) :=
  (X4_init_F hp x0 x1 x2).bind fun r1 =>
  some (r1)
set_option maxRecDepth 100000 in
set_option maxHeartbeats 4000000 in
theorem X0_init_c (G : kw_G) (hp : kw_H) (x0 : Nat) (x1 : Int32) (x2 : Int32) (r : kw_H) (h : X0_init_F hp x0 x1 x2 = some r) : kw_Met G mX0_init [.ref x0, .int x1, .int x2] hp (fun v h2 => v = none ∧ h2 = r) := by
  refine kw_met (L := [some (.ref x0), some (.int x1), some (.int x2)]) (r := 0) (by decide +kernel) (Nat.le_of_ble_eq_true rfl) rfl ?_
  unfold X0_init_F at h
  obtain ⟨Q, hQ⟩ : ∃ Q : Option Value → kw_H → Prop, Q = (fun v h2 => v = none ∧ h2 = r) := ⟨_, rfl⟩
  have hK : Q none r := by rw [hQ]; exact ⟨rfl, rfl⟩
  rw [← hQ]
  clear hQ
  refine kw_aload_n dX0_init_0 rfl ?_
  refine kw_iload_n dX0_init_1 rfl ?_
  refine kw_iload_n dX0_init_2 rfl ?_
  obtain ⟨r1, er1, h⟩ := Option.bind_eq_some_iff.mp h
  refine kw_callI (As := [.int x1, .int x2]) (S := []) cbX0_init_X4_init rfl rfl lkX0_1 imX4_init rfl rfl (Nat.le_of_ble_eq_true rfl) dX0_init_3 (X4_init_c G hp x0 x1 x2 _ er1) (fun vv hh hq => ?_)
  rw [hq.1, hq.2]
  show kw_V G mX0_init 6 [some (.ref x0), some (.int x1), some (.int x2)] [] r1 Q
  have h := Option.some.inj h
  subst h
  exact kw_vret rfl dX0_init_6 hK
/-! KitchenWheels$Both.ownKind()I -/
def X0_ownKind_F (hp : kw_H) (x0 : Nat) : Option (Int32) :=
  some (nI 3)
set_option maxRecDepth 100000 in
set_option maxHeartbeats 4000000 in
theorem X0_ownKind_c (G : kw_G) (hp : kw_H) (x0 : Nat) (r : Int32) (h : X0_ownKind_F hp x0 = some r) : kw_Met G mX0_ownKind [.ref x0] hp (fun v h2 => v = some (.int r) ∧ h2 = hp) := by
  refine kw_met (L := [some (.ref x0)]) (r := 0) (by decide +kernel) (Nat.le_of_ble_eq_true rfl) rfl ?_
  unfold X0_ownKind_F at h
  obtain ⟨Q, hQ⟩ : ∃ Q : Option Value → kw_H → Prop, Q = (fun v h2 => v = some (.int r) ∧ h2 = hp) := ⟨_, rfl⟩
  have hK : Q (some (.int r)) hp := by rw [hQ]; exact ⟨rfl, rfl⟩
  rw [← hQ]
  clear hQ
  refine kw_iconst (v := nI 3) dX0_ownKind_0 (by decide) ?_
  have h := Option.some.inj h
  subst h
  exact kw_iret rfl dX0_ownKind_1 hK
/-! KitchenWheels.rest(II)I -/
def X11_rest_F (hp : kw_H) (x0 : Int32) (x1 : Int32) : Option (Int32) :=
  (if 0 < x1 then
  (kp_rem x0 x1).bind fun v1 =>
  (if 0 ≤ v1 then
  some (v1)
else
  some (v1 + x1))
else
  some (nI 0))
set_option maxRecDepth 100000 in
set_option maxHeartbeats 4000000 in
theorem X11_rest_c (G : kw_G) (hp : kw_H) (x0 : Int32) (x1 : Int32) (r : Int32) (h : X11_rest_F hp x0 x1 = some r) : kw_Met G mX11_rest [.int x0, .int x1] hp (fun v h2 => v = some (.int r) ∧ h2 = hp) := by
  refine kw_met (L := [some (.int x0), some (.int x1), none]) (r := 1) (by decide +kernel) (Nat.le_of_ble_eq_true rfl) rfl ?_
  unfold X11_rest_F at h
  obtain ⟨Q, hQ⟩ : ∃ Q : Option Value → kw_H → Prop, Q = (fun v h2 => v = some (.int r) ∧ h2 = hp) := ⟨_, rfl⟩
  have hK : Q (some (.int r)) hp := by rw [hQ]; exact ⟨rfl, rfl⟩
  rw [← hQ]
  clear hQ
  refine kw_iload_n dX11_rest_0 rfl ?_
  refine kw_if_gt 6 dX11_rest_1 (by decide) (fun c3 => ?_) (fun c3 => ?_)
  · have h := (if_pos c3).symm.trans h
    refine kw_iload_n dX11_rest_6 rfl ?_
    refine kw_iload_n dX11_rest_7 rfl ?_
    obtain ⟨v1, ev1, h⟩ := Option.bind_eq_some_iff.mp h
    refine kv_irem dX11_rest_8 ev1 ?_
    refine kw_istore_n (L' := [some (.int x0), some (.int x1), some (.int v1)]) dX11_rest_9 (by decide) rfl ?_
    refine kw_iload_n dX11_rest_10 rfl ?_
    refine kw_if_ge 20 dX11_rest_11 (by decide) (fun c2 => ?_) (fun c2 => ?_)
    · have h := (if_pos c2).symm.trans h
      refine kw_iload_n dX11_rest_20 rfl ?_
      have h := Option.some.inj h
      subst h
      exact kw_iret rfl dX11_rest_21 hK
    · have h := (if_neg c2).symm.trans h
      refine kw_iload_n dX11_rest_14 rfl ?_
      refine kw_iload_n dX11_rest_15 rfl ?_
      refine kw_iadd dX11_rest_16 ?_
      refine kw_goto 21 dX11_rest_17 (by decide) ?_
      have h := Option.some.inj h
      subst h
      exact kw_iret rfl dX11_rest_21 hK
  · have h := (if_neg c3).symm.trans h
    refine kw_iconst (v := nI 0) dX11_rest_4 (by decide) ?_
    have h := Option.some.inj h
    subst h
    exact kw_iret rfl dX11_rest_5 hK
/-! KitchenWheels$Both.howFar(I)I -/
def X0_howFar_F (hp : kw_H) (x0 : Nat) (x1 : Int32) : Option (Int32) :=
  (X11_rest_F hp x1 (nI 2)).bind fun r1 =>
  (if r1 = 0 then
  (kp_gI hp x0 [0] 1).bind fun v3 =>
  some (v3 + (nI 1))
else
  (kp_gI hp x0 [0] 1).bind fun v2 =>
  some (v2))
set_option maxRecDepth 100000 in
set_option maxHeartbeats 4000000 in
theorem X0_howFar_c (G : kw_G) (hp : kw_H) (x0 : Nat) (x1 : Int32) (r : Int32) (h : X0_howFar_F hp x0 x1 = some r) : kw_Met G mX0_howFar [.ref x0, .int x1] hp (fun v h2 => v = some (.int r) ∧ h2 = hp) := by
  refine kw_met (L := [some (.ref x0), some (.int x1)]) (r := 0) (by decide +kernel) (Nat.le_of_ble_eq_true rfl) rfl ?_
  unfold X0_howFar_F at h
  obtain ⟨Q, hQ⟩ : ∃ Q : Option Value → kw_H → Prop, Q = (fun v h2 => v = some (.int r) ∧ h2 = hp) := ⟨_, rfl⟩
  have hK : Q (some (.int r)) hp := by rw [hQ]; exact ⟨rfl, rfl⟩
  rw [← hQ]
  clear hQ
  refine kw_iload_n dX0_howFar_0 rfl ?_
  refine kw_iconst (v := nI 2) dX0_howFar_1 (by decide) ?_
  obtain ⟨r1, er1, h⟩ := Option.bind_eq_some_iff.mp h
  refine kw_callSN (As := [.int x1, .int (nI 2)]) (S := []) cbX0_howFar_X11_rest lnX0_7 stX11_rest rfl rfl (Nat.le_of_ble_eq_true rfl) dX0_howFar_2 (X11_rest_c G hp x1 (nI 2) _ er1) (fun vv hh hq => ?_)
  rw [hq.1, hq.2]
  show kw_V G mX0_howFar 5 [some (.ref x0), some (.int x1)] [.int r1] hp Q
  refine kw_if_ne 17 dX0_howFar_5 (by decide) (fun c4 => ?_) (fun c4 => ?_)
  · have h := (if_neg c4).symm.trans h
    refine kw_aload_n dX0_howFar_17 rfl ?_
    obtain ⟨v2, ev2, h⟩ := Option.bind_eq_some_iff.mp h
    refine kv_gI gfX0_13 dX0_howFar_18 ev2 ?_
    have h := Option.some.inj h
    subst h
    exact kw_iret rfl dX0_howFar_21 hK
  · have h := (if_pos c4).symm.trans h
    refine kw_aload_n dX0_howFar_8 rfl ?_
    obtain ⟨v3, ev3, h⟩ := Option.bind_eq_some_iff.mp h
    refine kv_gI gfX0_13 dX0_howFar_9 ev3 ?_
    refine kw_iconst (v := nI 1) dX0_howFar_12 (by decide) ?_
    refine kw_iadd dX0_howFar_13 ?_
    refine kw_goto 21 dX0_howFar_14 (by decide) ?_
    have h := Option.some.inj h
    subst h
    exact kw_iret rfl dX0_howFar_21 hK
/-! KitchenWheels$Trace.add(I)V -/
def X9_add_F (hp : kw_H) (x0 : Nat) (x1 : Int32) : Option (kw_H) :=
  (kp_gI hp x0 [9] 1).bind fun v1 =>
  (if v1 < 0 then
  some (hp)
else
  (kp_gI hp x0 [9] 1).bind fun v2 =>
  (if (nI 16) ≤ v2 then
  some (hp)
else
  (kp_gR hp x0 [9] 0).bind fun v3 =>
  (kp_gI hp x0 [9] 1).bind fun v4 =>
  (kp_stI hp v3 v4 x1).bind fun hp5 =>
  (kp_gI hp5 x0 [9] 1).bind fun v6 =>
  (kp_put hp5 x0 [9] 1 (.int (v6 + (nI 1)))).bind fun hp7 =>
  some (hp7)))
set_option maxRecDepth 100000 in
set_option maxHeartbeats 4000000 in
theorem X9_add_c (G : kw_G) (hp : kw_H) (x0 : Nat) (x1 : Int32) (r : kw_H) (h : X9_add_F hp x0 x1 = some r) : kw_Met G mX9_add [.ref x0, .int x1] hp (fun v h2 => v = none ∧ h2 = r) := by
  refine kw_met (L := [some (.ref x0), some (.int x1)]) (r := 0) (by decide +kernel) (Nat.le_of_ble_eq_true rfl) rfl ?_
  unfold X9_add_F at h
  obtain ⟨Q, hQ⟩ : ∃ Q : Option Value → kw_H → Prop, Q = (fun v h2 => v = none ∧ h2 = r) := ⟨_, rfl⟩
  have hK : Q none r := by rw [hQ]; exact ⟨rfl, rfl⟩
  rw [← hQ]
  clear hQ
  refine kw_aload_n dX9_add_0 rfl ?_
  obtain ⟨v1, ev1, h⟩ := Option.bind_eq_some_iff.mp h
  refine kv_gI gfX9_15 dX9_add_1 ev1 ?_
  refine kw_if_lt 36 dX9_add_4 (by decide) (fun c9 => ?_) (fun c9 => ?_)
  · have h := (if_pos c9).symm.trans h
    have h := Option.some.inj h
    subst h
    exact kw_vret rfl dX9_add_36 hK
  · have h := (if_neg c9).symm.trans h
    refine kw_aload_n dX9_add_7 rfl ?_
    obtain ⟨v2, ev2, h⟩ := Option.bind_eq_some_iff.mp h
    refine kv_gI gfX9_15 dX9_add_8 ev2 ?_
    refine kw_bipush (v := nI 16) dX9_add_11 (by decide) ?_
    refine kw_icmp_ge 36 dX9_add_13 (by decide) (fun c8 => ?_) (fun c8 => ?_)
    · have h := (if_pos c8).symm.trans h
      have h := Option.some.inj h
      subst h
      exact kw_vret rfl dX9_add_36 hK
    · have h := (if_neg c8).symm.trans h
      refine kw_aload_n dX9_add_16 rfl ?_
      obtain ⟨v3, ev3, h⟩ := Option.bind_eq_some_iff.mp h
      refine kv_gR gfX9_11 dX9_add_17 ev3 ?_
      refine kw_aload_n dX9_add_20 rfl ?_
      obtain ⟨v4, ev4, h⟩ := Option.bind_eq_some_iff.mp h
      refine kv_gI gfX9_15 dX9_add_21 ev4 ?_
      refine kw_iload_n dX9_add_24 rfl ?_
      obtain ⟨hp5, ehp5, h⟩ := Option.bind_eq_some_iff.mp h
      refine kv_stI dX9_add_25 ehp5 ?_
      refine kw_aload_n dX9_add_26 rfl ?_
      refine kw_dup dX9_add_27 rfl ?_
      obtain ⟨v6, ev6, h⟩ := Option.bind_eq_some_iff.mp h
      refine kv_gI gfX9_15 dX9_add_28 ev6 ?_
      refine kw_iconst (v := nI 1) dX9_add_31 (by decide) ?_
      refine kw_iadd dX9_add_32 ?_
      obtain ⟨hp7, ehp7, h⟩ := Option.bind_eq_some_iff.mp h
      refine kv_put pfX9_add_15 (fun _ => ⟨rfl, rfl⟩) dX9_add_33 ehp7 ?_
      have h := Option.some.inj h
      subst h
      exact kw_vret rfl dX9_add_36 hK
/-! KitchenWheels$Turner.mark(LKitchenWheels$Trace;II)I -/
def X10_mark_F (hp : kw_H) (x0 : Nat) (x1 : Nat) (x2 : Int32) (x3 : Int32) : Option (Int32 × kw_H) :=
  ((kp_ob hp x1 9).bind fun _ => X9_add_F hp x1 (nI 20)).bind fun r1 =>
  (kp_gI r1 x0 [0, 3, 4, 5, 7] 0).bind fun v2 =>
  some ((v2, r1))
set_option maxRecDepth 100000 in
set_option maxHeartbeats 4000000 in
theorem X10_mark_c (G : kw_G) (hp : kw_H) (x0 : Nat) (x1 : Nat) (x2 : Int32) (x3 : Int32) (r : Int32 × kw_H) (h : X10_mark_F hp x0 x1 x2 x3 = some r) : kw_Met G mX10_mark [.ref x0, .ref x1, .int x2, .int x3] hp (fun v h2 => v = some (.int r.1) ∧ h2 = r.2) := by
  refine kw_met (L := [some (.ref x0), some (.ref x1), some (.int x2), some (.int x3)]) (r := 0) (by decide +kernel) (Nat.le_of_ble_eq_true rfl) rfl ?_
  unfold X10_mark_F at h
  obtain ⟨Q, hQ⟩ : ∃ Q : Option Value → kw_H → Prop, Q = (fun v h2 => v = some (.int r.1) ∧ h2 = r.2) := ⟨_, rfl⟩
  have hK : Q (some (.int r.1)) r.2 := by rw [hQ]; exact ⟨rfl, rfl⟩
  rw [← hQ]
  clear hQ
  refine kw_aload_n dX10_mark_0 rfl ?_
  refine kw_bipush (v := nI 20) dX10_mark_1 (by decide) ?_
  obtain ⟨r1, er1, h⟩ := Option.bind_eq_some_iff.mp h
  obtain ⟨ur1, eur1, er1⟩ := Option.bind_eq_some_iff.mp er1
  obtain ⟨fsr1, hor1⟩ := kp_ob_inv eur1
  refine kw_callV (As := [.int (nI 20)]) (S := []) kcX9 cbX10_mark_X9_add lkX10_33 imX9_add seX9_X9_add_X9_add rfl rfl (Nat.le_of_ble_eq_true rfl) dX10_mark_3 hor1 (X9_add_c G hp x1 (nI 20) _ er1) (fun vv hh hq => ?_)
  rw [hq.1, hq.2]
  show kw_V G mX10_mark 6 [some (.ref x0), some (.ref x1), some (.int x2), some (.int x3)] [] r1 Q
  refine kw_aload_n dX10_mark_6 rfl ?_
  obtain ⟨v2, ev2, h⟩ := Option.bind_eq_some_iff.mp h
  refine kv_gI gfX10_7 dX10_mark_7 ev2 ?_
  have h := Option.some.inj h
  subst h
  exact kw_iret rfl dX10_mark_10 hK
/-! KitchenWheels$One.mark(LKitchenWheels$Trace;II)I -/
def X4_mark_S10_f (hp : kw_H) (o : Nat) (y0 : Nat) (y1 : Int32) (y2 : Int32) : Option (Int32 × kw_H) :=
  (kp_ci hp o).bind fun ci => if ci ∈ [0, 4, 7] then X10_mark_F hp o y0 y1 y2 else none
set_option maxRecDepth 100000 in
set_option maxHeartbeats 4000000 in
theorem X4_mark_S10_v (G : kw_G) (Q : Option Value → kw_H → Prop) (L : List (Option Value)) (hp : kw_H) (o : Nat) (y0 : Nat) (y1 : Int32) (y2 : Int32) (r : Int32 × kw_H) {S : List Value} (hr : (S.map fun v => v.category).sum ≤ 8) (h : X4_mark_S10_f hp o y0 y1 y2 = some r) (kk : kw_V G mX4_mark 13 L (.int r.1 :: S) r.2 Q) : kw_V G mX4_mark 10 L (.int y2 :: .int y1 :: .ref y0 :: .ref o :: S) hp Q := by
  unfold X4_mark_S10_f at h
  obtain ⟨ci, e1, h⟩ := Option.bind_eq_some_iff.mp h
  obtain ⟨fs, ho⟩ := kp_ci_inv e1
  by_cases hc : ci ∈ [0, 4, 7]
  · have h := (if_pos hc).symm.trans h
    simp only [List.mem_cons, List.not_mem_nil, or_false] at hc
    rcases hc with rfl | rfl | rfl
    · exact kw_callSU (As := [.ref y0, .int y1, .int y2]) (S := S) kcX0 cbX4_mark_X10_mark lkX4_22 smX10_mark suX4_X10 imX10_mark (by decide) rfl rfl hr dX4_mark_10 ho (X10_mark_c G hp o y0 y1 y2 _ h) (fun vv hh hq => by obtain ⟨rfl, rfl⟩ := hq; exact kk)
    · exact kw_callSU (As := [.ref y0, .int y1, .int y2]) (S := S) kcX4 cbX4_mark_X10_mark lkX4_22 smX10_mark suX4_X10 imX10_mark (by decide) rfl rfl hr dX4_mark_10 ho (X10_mark_c G hp o y0 y1 y2 _ h) (fun vv hh hq => by obtain ⟨rfl, rfl⟩ := hq; exact kk)
    · exact kw_callSU (As := [.ref y0, .int y1, .int y2]) (S := S) kcX7 cbX4_mark_X10_mark lkX4_22 smX10_mark suX4_X10 imX10_mark (by decide) rfl rfl hr dX4_mark_10 ho (X10_mark_c G hp o y0 y1 y2 _ h) (fun vv hh hq => by obtain ⟨rfl, rfl⟩ := hq; exact kk)
  · have h := (if_neg hc).symm.trans h
    cases h
def X4_mark_F (hp : kw_H) (x0 : Nat) (x1 : Nat) (x2 : Int32) (x3 : Int32) : Option (Int32 × kw_H) :=
  ((kp_ob hp x1 9).bind fun _ => X9_add_F hp x1 (nI 21)).bind fun r1 =>
  (X4_mark_S10_f r1 x0 x1 x2 x3).bind fun r2 =>
  some ((r2.1 + x2, r2.2))
set_option maxRecDepth 100000 in
set_option maxHeartbeats 4000000 in
theorem X4_mark_c (G : kw_G) (hp : kw_H) (x0 : Nat) (x1 : Nat) (x2 : Int32) (x3 : Int32) (r : Int32 × kw_H) (h : X4_mark_F hp x0 x1 x2 x3 = some r) : kw_Met G mX4_mark [.ref x0, .ref x1, .int x2, .int x3] hp (fun v h2 => v = some (.int r.1) ∧ h2 = r.2) := by
  refine kw_met (L := [some (.ref x0), some (.ref x1), some (.int x2), some (.int x3)]) (r := 0) (by decide +kernel) (Nat.le_of_ble_eq_true rfl) rfl ?_
  unfold X4_mark_F at h
  obtain ⟨Q, hQ⟩ : ∃ Q : Option Value → kw_H → Prop, Q = (fun v h2 => v = some (.int r.1) ∧ h2 = r.2) := ⟨_, rfl⟩
  have hK : Q (some (.int r.1)) r.2 := by rw [hQ]; exact ⟨rfl, rfl⟩
  rw [← hQ]
  clear hQ
  refine kw_aload_n dX4_mark_0 rfl ?_
  refine kw_bipush (v := nI 21) dX4_mark_1 (by decide) ?_
  obtain ⟨r1, er1, h⟩ := Option.bind_eq_some_iff.mp h
  obtain ⟨ur1, eur1, er1⟩ := Option.bind_eq_some_iff.mp er1
  obtain ⟨fsr1, hor1⟩ := kp_ob_inv eur1
  refine kw_callV (As := [.int (nI 21)]) (S := []) kcX9 cbX4_mark_X9_add lkX4_7 imX9_add seX9_X9_add_X9_add rfl rfl (Nat.le_of_ble_eq_true rfl) dX4_mark_3 hor1 (X9_add_c G hp x1 (nI 21) _ er1) (fun vv hh hq => ?_)
  rw [hq.1, hq.2]
  show kw_V G mX4_mark 6 [some (.ref x0), some (.ref x1), some (.int x2), some (.int x3)] [] r1 Q
  refine kw_aload_n dX4_mark_6 rfl ?_
  refine kw_aload_n dX4_mark_7 rfl ?_
  refine kw_iload_n dX4_mark_8 rfl ?_
  refine kw_iload_n dX4_mark_9 rfl ?_
  obtain ⟨r2, er2, h⟩ := Option.bind_eq_some_iff.mp h
  refine X4_mark_S10_v G Q [some (.ref x0), some (.ref x1), some (.int x2), some (.int x3)] r1 x0 x1 x2 x3 _ (Nat.le_of_ble_eq_true rfl) er2 (S := []) ?_
  show kw_V G mX4_mark 13 [some (.ref x0), some (.ref x1), some (.int x2), some (.int x3)] [.int r2.1] r2.2 Q
  refine kw_iload_n dX4_mark_13 rfl ?_
  refine kw_iadd dX4_mark_14 ?_
  have h := Option.some.inj h
  subst h
  exact kw_iret rfl dX4_mark_15 hK
/-! KitchenWheels$Both.mark(LKitchenWheels$Trace;II)I -/
def X0_mark_S10_f (hp : kw_H) (o : Nat) (y0 : Nat) (y1 : Int32) (y2 : Int32) : Option (Int32 × kw_H) :=
  (kp_ci hp o).bind fun ci => if ci ∈ [0] then X4_mark_F hp o y0 y1 y2 else none
set_option maxRecDepth 100000 in
set_option maxHeartbeats 4000000 in
theorem X0_mark_S10_v (G : kw_G) (Q : Option Value → kw_H → Prop) (L : List (Option Value)) (hp : kw_H) (o : Nat) (y0 : Nat) (y1 : Int32) (y2 : Int32) (r : Int32 × kw_H) {S : List Value} (hr : (S.map fun v => v.category).sum ≤ 8) (h : X0_mark_S10_f hp o y0 y1 y2 = some r) (kk : kw_V G mX0_mark 13 L (.int r.1 :: S) r.2 Q) : kw_V G mX0_mark 10 L (.int y2 :: .int y1 :: .ref y0 :: .ref o :: S) hp Q := by
  unfold X0_mark_S10_f at h
  obtain ⟨ci, e1, h⟩ := Option.bind_eq_some_iff.mp h
  obtain ⟨fs, ho⟩ := kp_ci_inv e1
  by_cases hc : ci ∈ [0]
  · have h := (if_pos hc).symm.trans h
    simp only [List.mem_cons, List.not_mem_nil, or_false] at hc
    subst hc
    exact kw_callSU (As := [.ref y0, .int y1, .int y2]) (S := S) kcX0 cbX0_mark_X4_mark lkX0_25 smX4_mark suX0_X4 imX4_mark (by decide) rfl rfl hr dX0_mark_10 ho (X4_mark_c G hp o y0 y1 y2 _ h) (fun vv hh hq => by obtain ⟨rfl, rfl⟩ := hq; exact kk)
  · have h := (if_neg hc).symm.trans h
    cases h
def X0_mark_F (hp : kw_H) (x0 : Nat) (x1 : Nat) (x2 : Int32) (x3 : Int32) : Option (Int32 × kw_H) :=
  ((kp_ob hp x1 9).bind fun _ => X9_add_F hp x1 (nI 22)).bind fun r1 =>
  (X0_mark_S10_f r1 x0 x1 x2 x3).bind fun r2 =>
  some ((r2.1 - (nI 1000), r2.2))
set_option maxRecDepth 100000 in
set_option maxHeartbeats 4000000 in
theorem X0_mark_c (G : kw_G) (hp : kw_H) (x0 : Nat) (x1 : Nat) (x2 : Int32) (x3 : Int32) (r : Int32 × kw_H) (h : X0_mark_F hp x0 x1 x2 x3 = some r) : kw_Met G mX0_mark [.ref x0, .ref x1, .int x2, .int x3] hp (fun v h2 => v = some (.int r.1) ∧ h2 = r.2) := by
  refine kw_met (L := [some (.ref x0), some (.ref x1), some (.int x2), some (.int x3)]) (r := 0) (by decide +kernel) (Nat.le_of_ble_eq_true rfl) rfl ?_
  unfold X0_mark_F at h
  obtain ⟨Q, hQ⟩ : ∃ Q : Option Value → kw_H → Prop, Q = (fun v h2 => v = some (.int r.1) ∧ h2 = r.2) := ⟨_, rfl⟩
  have hK : Q (some (.int r.1)) r.2 := by rw [hQ]; exact ⟨rfl, rfl⟩
  rw [← hQ]
  clear hQ
  refine kw_aload_n dX0_mark_0 rfl ?_
  refine kw_bipush (v := nI 22) dX0_mark_1 (by decide) ?_
  obtain ⟨r1, er1, h⟩ := Option.bind_eq_some_iff.mp h
  obtain ⟨ur1, eur1, er1⟩ := Option.bind_eq_some_iff.mp er1
  obtain ⟨fsr1, hor1⟩ := kp_ob_inv eur1
  refine kw_callV (As := [.int (nI 22)]) (S := []) kcX9 cbX0_mark_X9_add lkX0_19 imX9_add seX9_X9_add_X9_add rfl rfl (Nat.le_of_ble_eq_true rfl) dX0_mark_3 hor1 (X9_add_c G hp x1 (nI 22) _ er1) (fun vv hh hq => ?_)
  rw [hq.1, hq.2]
  show kw_V G mX0_mark 6 [some (.ref x0), some (.ref x1), some (.int x2), some (.int x3)] [] r1 Q
  refine kw_aload_n dX0_mark_6 rfl ?_
  refine kw_aload_n dX0_mark_7 rfl ?_
  refine kw_iload_n dX0_mark_8 rfl ?_
  refine kw_iload_n dX0_mark_9 rfl ?_
  obtain ⟨r2, er2, h⟩ := Option.bind_eq_some_iff.mp h
  refine X0_mark_S10_v G Q [some (.ref x0), some (.ref x1), some (.int x2), some (.int x3)] r1 x0 x1 x2 x3 _ (Nat.le_of_ble_eq_true rfl) er2 (S := []) ?_
  show kw_V G mX0_mark 13 [some (.ref x0), some (.ref x1), some (.int x2), some (.int x3)] [.int r2.1] r2.2 Q
  refine kw_sipush (v := nI 1000) dX0_mark_13 (by decide) ?_
  refine kw_isub dX0_mark_16 ?_
  have h := Option.some.inj h
  subst h
  exact kw_iret rfl dX0_mark_17 hK
/-! KitchenWheels$Kitchen.<init>()V -/
def X2_init_F (hp : kw_H) (x0 : Nat) : Option (kw_H) :=
  (kp_al hp [.inl (0, 8, .inl (fun _ => 0))]).bind fun hp1 =>
  (kp_put hp1 x0 [2] 0 (.ref (List.length hp))).bind fun hp2 =>
  (kp_al hp2 [.inl (0, 8, .inl (fun _ => 0))]).bind fun hp3 =>
  (kp_put hp3 x0 [2] 1 (.ref (List.length hp2))).bind fun hp4 =>
  (kp_al hp4 [.inl (3, 4, .inr (.inr (.inr (.inr (fun _ => none)))))]).bind fun hp5 =>
  (kp_put hp5 x0 [2] 2 (.ref (List.length hp4))).bind fun hp6 =>
  (kp_al hp6 [.inl (0, 36, .inl (fun _ => 0))]).bind fun hp7 =>
  (kp_put hp7 x0 [2] 3 (.ref (List.length hp6))).bind fun hp8 =>
  some (hp8)
set_option maxRecDepth 100000 in
set_option maxHeartbeats 4000000 in
theorem X2_init_c (G : kw_G) (hp : kw_H) (x0 : Nat) (r : kw_H) (h : X2_init_F hp x0 = some r) : kw_Met G mX2_init [.ref x0] hp (fun v h2 => v = none ∧ h2 = r) := by
  refine kw_met (L := [some (.ref x0)]) (r := 0) (by decide +kernel) (Nat.le_of_ble_eq_true rfl) rfl ?_
  unfold X2_init_F at h
  obtain ⟨Q, hQ⟩ : ∃ Q : Option Value → kw_H → Prop, Q = (fun v h2 => v = none ∧ h2 = r) := ⟨_, rfl⟩
  have hK : Q none r := by rw [hQ]; exact ⟨rfl, rfl⟩
  rw [← hQ]
  clear hQ
  refine kw_aload_n dX2_init_0 rfl ?_
  refine kw_obj lkX2_3 im_obj cd_obj (by decide) (by decide) (Nat.le_of_ble_eq_true rfl) dX2_init_1 ?_
  refine kw_aload_n dX2_init_4 rfl ?_
  refine kw_bipush (v := nI 8) dX2_init_5 (by decide) ?_
  obtain ⟨hp1, ehp1, h⟩ := Option.bind_eq_some_iff.mp h
  refine kv_newa_int (N := 8) acint (by decide) (by decide) (by decide) dX2_init_7 ehp1 ?_
  obtain ⟨hp2, ehp2, h⟩ := Option.bind_eq_some_iff.mp h
  refine kv_put pfX2_init_9 (fun _ => ⟨rfl, rfl⟩) dX2_init_9 ehp2 ?_
  refine kw_aload_n dX2_init_12 rfl ?_
  refine kw_bipush (v := nI 8) dX2_init_13 (by decide) ?_
  obtain ⟨hp3, ehp3, h⟩ := Option.bind_eq_some_iff.mp h
  refine kv_newa_int (N := 8) acint (by decide) (by decide) (by decide) dX2_init_15 ehp3 ?_
  obtain ⟨hp4, ehp4, h⟩ := Option.bind_eq_some_iff.mp h
  refine kv_put pfX2_init_15 (fun _ => ⟨rfl, rfl⟩) dX2_init_17 ehp4 ?_
  refine kw_aload_n dX2_init_20 rfl ?_
  refine kw_iconst (v := nI 4) dX2_init_21 (by decide) ?_
  obtain ⟨hp5, ehp5, h⟩ := Option.bind_eq_some_iff.mp h
  refine kv_anew (t := 3) (N := 4) (i0 := 125) (E := "KitchenWheels$Turner") (fun _ => rfl) clX2_18 (by decide +kernel) (by decide) (by decide) (by decide) dX2_init_22 ehp5 ?_
  obtain ⟨hp6, ehp6, h⟩ := Option.bind_eq_some_iff.mp h
  refine kv_put pfX2_init_20 (fun _ => ⟨rfl, rfl⟩) dX2_init_25 ehp6 ?_
  refine kw_aload_n dX2_init_28 rfl ?_
  refine kw_bipush (v := nI 36) dX2_init_29 (by decide) ?_
  obtain ⟨hp7, ehp7, h⟩ := Option.bind_eq_some_iff.mp h
  refine kv_newa_int (N := 36) acint (by decide) (by decide) (by decide) dX2_init_31 ehp7 ?_
  obtain ⟨hp8, ehp8, h⟩ := Option.bind_eq_some_iff.mp h
  refine kv_put pfX2_init_24 (fun _ => ⟨rfl, rfl⟩) dX2_init_33 ehp8 ?_
  have h := Option.some.inj h
  subst h
  exact kw_vret rfl dX2_init_36 hK
/-! KitchenWheels$Foreteller.<init>()V -/
def X1_init_F (hp : kw_H) (x0 : Nat) : Option (kw_H) :=
  (kp_al hp [.inr (2, [.null, .null, .null, .null, .int 0, .int 0, .int 0, .int 0, .int 0, .int 0])]).bind fun hp1 =>
  (X2_init_F hp1 (List.length hp)).bind fun r2 =>
  (kp_put r2 x0 [1] 0 (.ref (List.length hp))).bind fun hp3 =>
  (kp_al hp3 [.inl (0, 6, .inl (fun _ => 0))]).bind fun hp4 =>
  (kp_put hp4 x0 [1] 1 (.ref (List.length hp3))).bind fun hp5 =>
  (kp_al hp5 [.inl (1, 8, .inr (.inl (fun _ => 0)))]).bind fun hp6 =>
  (kp_put hp6 x0 [1] 2 (.ref (List.length hp5))).bind fun hp7 =>
  (kp_al hp7 [.inl (1, 8, .inr (.inl (fun _ => 0)))]).bind fun hp8 =>
  (kp_put hp8 x0 [1] 3 (.ref (List.length hp7))).bind fun hp9 =>
  some (hp9)
set_option maxRecDepth 100000 in
set_option maxHeartbeats 4000000 in
theorem X1_init_c (G : kw_G) (hp : kw_H) (x0 : Nat) (r : kw_H) (h : X1_init_F hp x0 = some r) : kw_Met G mX1_init [.ref x0] hp (fun v h2 => v = none ∧ h2 = r) := by
  refine kw_met (L := [some (.ref x0)]) (r := 0) (by decide +kernel) (Nat.le_of_ble_eq_true rfl) rfl ?_
  unfold X1_init_F at h
  obtain ⟨Q, hQ⟩ : ∃ Q : Option Value → kw_H → Prop, Q = (fun v h2 => v = none ∧ h2 = r) := ⟨_, rfl⟩
  have hK : Q none r := by rw [hQ]; exact ⟨rfl, rfl⟩
  rw [← hQ]
  clear hQ
  refine kw_aload_n dX1_init_0 rfl ?_
  refine kw_obj lkX1_3 im_obj cd_obj (by decide) (by decide) (Nat.le_of_ble_eq_true rfl) dX1_init_1 ?_
  refine kw_aload_n dX1_init_4 rfl ?_
  obtain ⟨hp1, ehp1, h⟩ := Option.bind_eq_some_iff.mp h
  refine kv_new (fs := [.null, .null, .null, .null, .int 0, .int 0, .int 0, .int 0, .int 0, .int 0]) kcX2 tyX2_ok (by decide) dfX2 clX1_9 iaX2 in_X2 dX1_init_5 ehp1 ?_
  refine kw_dup dX1_init_8 rfl ?_
  obtain ⟨r2, er2, h⟩ := Option.bind_eq_some_iff.mp h
  refine kw_callIN (As := []) (S := [.ref (List.length hp), .ref x0]) cbX1_init_X2_init rfl rfl lnX1_11 imX2_init rfl rfl (Nat.le_of_ble_eq_true rfl) dX1_init_9 (X2_init_c G hp1 (List.length hp) _ er2) (fun vv hh hq => ?_)
  rw [hq.1, hq.2]
  show kw_V G mX1_init 12 [some (.ref x0)] [.ref (List.length hp), .ref x0] r2 Q
  obtain ⟨hp3, ehp3, h⟩ := Option.bind_eq_some_iff.mp h
  refine kv_put pfX1_init_12 (fun _ => ⟨rfl, rfl⟩) dX1_init_12 ehp3 ?_
  refine kw_aload_n dX1_init_15 rfl ?_
  refine kw_bipush (v := nI 6) dX1_init_16 (by decide) ?_
  obtain ⟨hp4, ehp4, h⟩ := Option.bind_eq_some_iff.mp h
  refine kv_newa_int (N := 6) acint (by decide) (by decide) (by decide) dX1_init_18 ehp4 ?_
  obtain ⟨hp5, ehp5, h⟩ := Option.bind_eq_some_iff.mp h
  refine kv_put pfX1_init_18 (fun _ => ⟨rfl, rfl⟩) dX1_init_20 ehp5 ?_
  refine kw_aload_n dX1_init_23 rfl ?_
  refine kw_bipush (v := nI 8) dX1_init_24 (by decide) ?_
  obtain ⟨hp6, ehp6, h⟩ := Option.bind_eq_some_iff.mp h
  refine kv_newa_long (N := 8) aclong (by decide) (by decide) (by decide) dX1_init_26 ehp6 ?_
  obtain ⟨hp7, ehp7, h⟩ := Option.bind_eq_some_iff.mp h
  refine kv_put pfX1_init_22 (fun _ => ⟨rfl, rfl⟩) dX1_init_28 ehp7 ?_
  refine kw_aload_n dX1_init_31 rfl ?_
  refine kw_bipush (v := nI 8) dX1_init_32 (by decide) ?_
  obtain ⟨hp8, ehp8, h⟩ := Option.bind_eq_some_iff.mp h
  refine kv_newa_long (N := 8) aclong (by decide) (by decide) (by decide) dX1_init_34 ehp8 ?_
  obtain ⟨hp9, ehp9, h⟩ := Option.bind_eq_some_iff.mp h
  refine kv_put pfX1_init_26 (fun _ => ⟨rfl, rfl⟩) dX1_init_36 ehp9 ?_
  have h := Option.some.inj h
  subst h
  exact kw_vret rfl dX1_init_39 hK
/-! KitchenWheels$Kitchen.awayBehind(I)I -/
def X2_awayBehind_F (hp : kw_H) (x0 : Nat) (x1 : Int32) : Option (Int32) :=
  (if x1 = 0 then
  (kp_gI hp x0 [2] 9).bind fun v1 =>
  some (v1)
else
  some (nI 0))
set_option maxRecDepth 100000 in
set_option maxHeartbeats 4000000 in
theorem X2_awayBehind_c (G : kw_G) (hp : kw_H) (x0 : Nat) (x1 : Int32) (r : Int32) (h : X2_awayBehind_F hp x0 x1 = some r) : kw_Met G mX2_awayBehind [.ref x0, .int x1] hp (fun v h2 => v = some (.int r) ∧ h2 = hp) := by
  refine kw_met (L := [some (.ref x0), some (.int x1)]) (r := 0) (by decide +kernel) (Nat.le_of_ble_eq_true rfl) rfl ?_
  unfold X2_awayBehind_F at h
  obtain ⟨Q, hQ⟩ : ∃ Q : Option Value → kw_H → Prop, Q = (fun v h2 => v = some (.int r) ∧ h2 = hp) := ⟨_, rfl⟩
  have hK : Q (some (.int r)) hp := by rw [hQ]; exact ⟨rfl, rfl⟩
  rw [← hQ]
  clear hQ
  refine kw_iload_n dX2_awayBehind_0 rfl ?_
  refine kw_if_ne 11 dX2_awayBehind_1 (by decide) (fun c2 => ?_) (fun c2 => ?_)
  · have h := (if_neg c2).symm.trans h
    refine kw_iconst (v := nI 0) dX2_awayBehind_11 (by decide) ?_
    have h := Option.some.inj h
    subst h
    exact kw_iret rfl dX2_awayBehind_12 hK
  · have h := (if_pos c2).symm.trans h
    refine kw_aload_n dX2_awayBehind_4 rfl ?_
    obtain ⟨v1, ev1, h⟩ := Option.bind_eq_some_iff.mp h
    refine kv_gI gfX2_49 dX2_awayBehind_5 ev1 ?_
    refine kw_goto 12 dX2_awayBehind_8 (by decide) ?_
    have h := Option.some.inj h
    subst h
    exact kw_iret rfl dX2_awayBehind_12 hK
/-! KitchenWheels.holds(II)Z -/
def X11_holds_F (hp : kw_H) (x0 : Int32) (x1 : Int32) : Option (Int32) :=
  (if ((x0 >>> (x1 &&& 31)) &&& (nI 1)) = 0 then
  some (nI 0)
else
  some (nI 1))
set_option maxRecDepth 100000 in
set_option maxHeartbeats 4000000 in
theorem X11_holds_c (G : kw_G) (hp : kw_H) (x0 : Int32) (x1 : Int32) (r : Int32) (h : X11_holds_F hp x0 x1 = some r) : kw_Met G mX11_holds [.int x0, .int x1] hp (fun v h2 => v = some (.int r) ∧ h2 = hp) := by
  refine kw_met (L := [some (.int x0), some (.int x1)]) (r := 0) (by decide +kernel) (Nat.le_of_ble_eq_true rfl) rfl ?_
  unfold X11_holds_F at h
  obtain ⟨Q, hQ⟩ : ∃ Q : Option Value → kw_H → Prop, Q = (fun v h2 => v = some (.int r) ∧ h2 = hp) := ⟨_, rfl⟩
  have hK : Q (some (.int r)) hp := by rw [hQ]; exact ⟨rfl, rfl⟩
  rw [← hQ]
  clear hQ
  refine kw_iload_n dX11_holds_0 rfl ?_
  refine kw_iload_n dX11_holds_1 rfl ?_
  refine kw_ishr dX11_holds_2 ?_
  refine kw_iconst (v := nI 1) dX11_holds_3 (by decide) ?_
  refine kw_iand dX11_holds_4 ?_
  refine kw_if_eq 12 dX11_holds_5 (by decide) (fun c1 => ?_) (fun c1 => ?_)
  · have h := (if_pos c1).symm.trans h
    refine kw_iconst (v := nI 0) dX11_holds_12 (by decide) ?_
    have h := Option.some.inj h
    subst h
    exact kw_zret rfl (Or.inl rfl) dX11_holds_13 hK
  · have h := (if_neg c1).symm.trans h
    refine kw_iconst (v := nI 1) dX11_holds_8 (by decide) ?_
    refine kw_goto 13 dX11_holds_9 (by decide) ?_
    have h := Option.some.inj h
    subst h
    exact kw_zret rfl (Or.inr rfl) dX11_holds_13 hK
/-! KitchenWheels$Kitchen.jobIn(I)I -/
def X2_jobIn_F (hp : kw_H) (x0 : Nat) (x1 : Int32) : Option (Int32) :=
  (if x1 < 0 then
  some (nI 6)
else
  (kp_gI hp x0 [2] 5).bind fun v1 =>
  (if v1 ≤ x1 then
  some (nI 6)
else
  (if (nI 8) ≤ x1 then
  some (nI 6)
else
  (kp_gR hp x0 [2] 1).bind fun v2 =>
  (kp_ldI hp v2 x1).bind fun v3 =>
  some (v3))))
set_option maxRecDepth 100000 in
set_option maxHeartbeats 4000000 in
theorem X2_jobIn_c (G : kw_G) (hp : kw_H) (x0 : Nat) (x1 : Int32) (r : Int32) (h : X2_jobIn_F hp x0 x1 = some r) : kw_Met G mX2_jobIn [.ref x0, .int x1] hp (fun v h2 => v = some (.int r) ∧ h2 = hp) := by
  refine kw_met (L := [some (.ref x0), some (.int x1)]) (r := 0) (by decide +kernel) (Nat.le_of_ble_eq_true rfl) rfl ?_
  unfold X2_jobIn_F at h
  obtain ⟨Q, hQ⟩ : ∃ Q : Option Value → kw_H → Prop, Q = (fun v h2 => v = some (.int r) ∧ h2 = hp) := ⟨_, rfl⟩
  have hK : Q (some (.int r)) hp := by rw [hQ]; exact ⟨rfl, rfl⟩
  rw [← hQ]
  clear hQ
  refine kw_iload_n dX2_jobIn_0 rfl ?_
  refine kw_if_lt 27 dX2_jobIn_1 (by decide) (fun c6 => ?_) (fun c6 => ?_)
  · have h := (if_pos c6).symm.trans h
    refine kw_bipush (v := nI 6) dX2_jobIn_27 (by decide) ?_
    have h := Option.some.inj h
    subst h
    exact kw_iret rfl dX2_jobIn_29 hK
  · have h := (if_neg c6).symm.trans h
    refine kw_iload_n dX2_jobIn_4 rfl ?_
    refine kw_aload_n dX2_jobIn_5 rfl ?_
    obtain ⟨v1, ev1, h⟩ := Option.bind_eq_some_iff.mp h
    refine kv_gI gfX2_37 dX2_jobIn_6 ev1 ?_
    refine kw_icmp_ge 27 dX2_jobIn_9 (by decide) (fun c5 => ?_) (fun c5 => ?_)
    · have h := (if_pos c5).symm.trans h
      refine kw_bipush (v := nI 6) dX2_jobIn_27 (by decide) ?_
      have h := Option.some.inj h
      subst h
      exact kw_iret rfl dX2_jobIn_29 hK
    · have h := (if_neg c5).symm.trans h
      refine kw_iload_n dX2_jobIn_12 rfl ?_
      refine kw_bipush (v := nI 8) dX2_jobIn_13 (by decide) ?_
      refine kw_icmp_ge 27 dX2_jobIn_15 (by decide) (fun c4 => ?_) (fun c4 => ?_)
      · have h := (if_pos c4).symm.trans h
        refine kw_bipush (v := nI 6) dX2_jobIn_27 (by decide) ?_
        have h := Option.some.inj h
        subst h
        exact kw_iret rfl dX2_jobIn_29 hK
      · have h := (if_neg c4).symm.trans h
        refine kw_aload_n dX2_jobIn_18 rfl ?_
        obtain ⟨v2, ev2, h⟩ := Option.bind_eq_some_iff.mp h
        refine kv_gR gfX2_15 dX2_jobIn_19 ev2 ?_
        refine kw_iload_n dX2_jobIn_22 rfl ?_
        obtain ⟨v3, ev3, h⟩ := Option.bind_eq_some_iff.mp h
        refine kv_ldI dX2_jobIn_23 ev3 ?_
        refine kw_goto 29 dX2_jobIn_24 (by decide) ?_
        have h := Option.some.inj h
        subst h
        exact kw_iret rfl dX2_jobIn_29 hK
/-! KitchenWheels$Kitchen.nameIn(I)I -/
def X2_nameIn_F (hp : kw_H) (x0 : Nat) (x1 : Int32) : Option (Int32) :=
  (if x1 < 0 then
  some (nI 6)
else
  (kp_gI hp x0 [2] 4).bind fun v1 =>
  (if v1 ≤ x1 then
  some (nI 6)
else
  (if (nI 8) ≤ x1 then
  some (nI 6)
else
  (kp_gR hp x0 [2] 0).bind fun v2 =>
  (kp_ldI hp v2 x1).bind fun v3 =>
  some (v3))))
set_option maxRecDepth 100000 in
set_option maxHeartbeats 4000000 in
theorem X2_nameIn_c (G : kw_G) (hp : kw_H) (x0 : Nat) (x1 : Int32) (r : Int32) (h : X2_nameIn_F hp x0 x1 = some r) : kw_Met G mX2_nameIn [.ref x0, .int x1] hp (fun v h2 => v = some (.int r) ∧ h2 = hp) := by
  refine kw_met (L := [some (.ref x0), some (.int x1)]) (r := 0) (by decide +kernel) (Nat.le_of_ble_eq_true rfl) rfl ?_
  unfold X2_nameIn_F at h
  obtain ⟨Q, hQ⟩ : ∃ Q : Option Value → kw_H → Prop, Q = (fun v h2 => v = some (.int r) ∧ h2 = hp) := ⟨_, rfl⟩
  have hK : Q (some (.int r)) hp := by rw [hQ]; exact ⟨rfl, rfl⟩
  rw [← hQ]
  clear hQ
  refine kw_iload_n dX2_nameIn_0 rfl ?_
  refine kw_if_lt 27 dX2_nameIn_1 (by decide) (fun c6 => ?_) (fun c6 => ?_)
  · have h := (if_pos c6).symm.trans h
    refine kw_bipush (v := nI 6) dX2_nameIn_27 (by decide) ?_
    have h := Option.some.inj h
    subst h
    exact kw_iret rfl dX2_nameIn_29 hK
  · have h := (if_neg c6).symm.trans h
    refine kw_iload_n dX2_nameIn_4 rfl ?_
    refine kw_aload_n dX2_nameIn_5 rfl ?_
    obtain ⟨v1, ev1, h⟩ := Option.bind_eq_some_iff.mp h
    refine kv_gI gfX2_27 dX2_nameIn_6 ev1 ?_
    refine kw_icmp_ge 27 dX2_nameIn_9 (by decide) (fun c5 => ?_) (fun c5 => ?_)
    · have h := (if_pos c5).symm.trans h
      refine kw_bipush (v := nI 6) dX2_nameIn_27 (by decide) ?_
      have h := Option.some.inj h
      subst h
      exact kw_iret rfl dX2_nameIn_29 hK
    · have h := (if_neg c5).symm.trans h
      refine kw_iload_n dX2_nameIn_12 rfl ?_
      refine kw_bipush (v := nI 8) dX2_nameIn_13 (by decide) ?_
      refine kw_icmp_ge 27 dX2_nameIn_15 (by decide) (fun c4 => ?_) (fun c4 => ?_)
      · have h := (if_pos c4).symm.trans h
        refine kw_bipush (v := nI 6) dX2_nameIn_27 (by decide) ?_
        have h := Option.some.inj h
        subst h
        exact kw_iret rfl dX2_nameIn_29 hK
      · have h := (if_neg c4).symm.trans h
        refine kw_aload_n dX2_nameIn_18 rfl ?_
        obtain ⟨v2, ev2, h⟩ := Option.bind_eq_some_iff.mp h
        refine kv_gR gfX2_9 dX2_nameIn_19 ev2 ?_
        refine kw_iload_n dX2_nameIn_22 rfl ?_
        obtain ⟨v3, ev3, h⟩ := Option.bind_eq_some_iff.mp h
        refine kv_ldI dX2_nameIn_23 ev3 ?_
        refine kw_goto 29 dX2_nameIn_24 (by decide) ?_
        have h := Option.some.inj h
        subst h
        exact kw_iret rfl dX2_nameIn_29 hK
/-! KitchenWheels$Kitchen.jobHad(II)I -/
def X2_jobHad_F (hp : kw_H) (x0 : Nat) (x1 : Int32) (x2 : Int32) : Option (Int32) :=
  ((kp_ob hp x0 2).bind fun _ => X2_nameIn_F hp x0 x1).bind fun r1 =>
  (if r1 = (nI 6) then
  some (nI 6)
else
  (kp_gI hp x0 [2] 5).bind fun v2 =>
  (X11_rest_F hp (x1 + x2) v2).bind fun r3 =>
  ((kp_ob hp x0 2).bind fun _ => X2_jobIn_F hp x0 r3).bind fun r4 =>
  some (r4))
set_option maxRecDepth 100000 in
set_option maxHeartbeats 4000000 in
theorem X2_jobHad_c (G : kw_G) (hp : kw_H) (x0 : Nat) (x1 : Int32) (x2 : Int32) (r : Int32) (h : X2_jobHad_F hp x0 x1 x2 = some r) : kw_Met G mX2_jobHad [.ref x0, .int x1, .int x2] hp (fun v h2 => v = some (.int r) ∧ h2 = hp) := by
  refine kw_met (L := [some (.ref x0), some (.int x1), some (.int x2)]) (r := 0) (by decide +kernel) (Nat.le_of_ble_eq_true rfl) rfl ?_
  unfold X2_jobHad_F at h
  obtain ⟨Q, hQ⟩ : ∃ Q : Option Value → kw_H → Prop, Q = (fun v h2 => v = some (.int r) ∧ h2 = hp) := ⟨_, rfl⟩
  have hK : Q (some (.int r)) hp := by rw [hQ]; exact ⟨rfl, rfl⟩
  rw [← hQ]
  clear hQ
  refine kw_aload_n dX2_jobHad_0 rfl ?_
  refine kw_iload_n dX2_jobHad_1 rfl ?_
  obtain ⟨r1, er1, h⟩ := Option.bind_eq_some_iff.mp h
  obtain ⟨ur1, eur1, er1⟩ := Option.bind_eq_some_iff.mp er1
  obtain ⟨fsr1, hor1⟩ := kp_ob_inv eur1
  refine kw_callV (As := [.int x1]) (S := []) kcX2 cbX2_jobHad_X2_nameIn lkX2_53 imX2_nameIn seX2_X2_nameIn_X2_nameIn rfl rfl (Nat.le_of_ble_eq_true rfl) dX2_jobHad_2 hor1 (X2_nameIn_c G hp x0 x1 _ er1) (fun vv hh hq => ?_)
  rw [hq.1, hq.2]
  show kw_V G mX2_jobHad 5 [some (.ref x0), some (.int x1), some (.int x2)] [.int r1] hp Q
  refine kw_bipush (v := nI 6) dX2_jobHad_5 (by decide) ?_
  refine kw_icmp_ne 15 dX2_jobHad_7 (by decide) (fun c5 => ?_) (fun c5 => ?_)
  · have h := (if_neg c5).symm.trans h
    refine kw_aload_n dX2_jobHad_15 rfl ?_
    refine kw_iload_n dX2_jobHad_16 rfl ?_
    refine kw_iload_n dX2_jobHad_17 rfl ?_
    refine kw_iadd dX2_jobHad_18 ?_
    refine kw_aload_n dX2_jobHad_19 rfl ?_
    obtain ⟨v2, ev2, h⟩ := Option.bind_eq_some_iff.mp h
    refine kv_gI gfX2_37 dX2_jobHad_20 ev2 ?_
    obtain ⟨r3, er3, h⟩ := Option.bind_eq_some_iff.mp h
    refine kw_callSN (As := [.int (x1 + x2), .int v2]) (S := [.ref x0]) cbX2_jobHad_X11_rest lnX2_57 stX11_rest rfl rfl (Nat.le_of_ble_eq_true rfl) dX2_jobHad_23 (X11_rest_c G hp (x1 + x2) v2 _ er3) (fun vv hh hq => ?_)
    rw [hq.1, hq.2]
    show kw_V G mX2_jobHad 26 [some (.ref x0), some (.int x1), some (.int x2)] [.int r3, .ref x0] hp Q
    obtain ⟨r4, er4, h⟩ := Option.bind_eq_some_iff.mp h
    obtain ⟨ur4, eur4, er4⟩ := Option.bind_eq_some_iff.mp er4
    obtain ⟨fsr4, hor4⟩ := kp_ob_inv eur4
    refine kw_callV (As := [.int r3]) (S := []) kcX2 cbX2_jobHad_X2_jobIn lkX2_61 imX2_jobIn seX2_X2_jobIn_X2_jobIn rfl rfl (Nat.le_of_ble_eq_true rfl) dX2_jobHad_26 hor4 (X2_jobIn_c G hp x0 r3 _ er4) (fun vv hh hq => ?_)
    rw [hq.1, hq.2]
    show kw_V G mX2_jobHad 29 [some (.ref x0), some (.int x1), some (.int x2)] [.int r4] hp Q
    have h := Option.some.inj h
    subst h
    exact kw_iret rfl dX2_jobHad_29 hK
  · have h := (if_pos c5).symm.trans h
    refine kw_bipush (v := nI 6) dX2_jobHad_10 (by decide) ?_
    refine kw_goto 29 dX2_jobHad_12 (by decide) ?_
    have h := Option.some.inj h
    subst h
    exact kw_iret rfl dX2_jobHad_29 hK
/-! KitchenWheels$Kitchen.doerIn(III)I -/
def X2_doerIn_K17 (G : kw_G) (Q : Option Value → kw_H → Prop) (hp : kw_H) (x0 : Nat) (x1 : Int32) (x3 : Int32) (r : (Int32) ⊕ (Int32)) : Prop := match r with
  | .inl z => kw_V G mX2_doerIn 17 [some (.ref x0), some (.int x1), none, some (.int x3), some (.int z), none] [] hp Q
  | .inr r => Q (some (.int r)) hp
def X2_doerIn_J68 (hp : kw_H) : Option (Int32) :=
  some (nI 6)
set_option maxRecDepth 100000 in
set_option maxHeartbeats 4000000 in
theorem X2_doerIn_J68_t (G : kw_G) (Q : Option Value → kw_H → Prop) (hp : kw_H) (r : Int32) (h : X2_doerIn_J68 hp = some r) (hK : Q (some (.int r)) hp) : kw_V G mX2_doerIn 68 [none, none, none, none, none, none] [] hp Q := by
  unfold X2_doerIn_J68 at h
  refine kw_bipush (v := nI 6) dX2_doerIn_68 (by decide) ?_
  have h := Option.some.inj h
  subst h
  exact kw_iret rfl dX2_doerIn_70 hK
def X2_doerIn_J62 (hp : kw_H) (x0 : Nat) (x1 : Int32) (x3 : Int32) (x4 : Int32) : Option (((Int32) ⊕ (Int32))) :=
  some (.inl (x4 + (nI 1)))
set_option maxRecDepth 100000 in
set_option maxHeartbeats 4000000 in
theorem X2_doerIn_J62_t (G : kw_G) (Q : Option Value → kw_H → Prop) (hp : kw_H) (x0 : Nat) (x1 : Int32) (x3 : Int32) (x4 : Int32) (r : ((Int32) ⊕ (Int32))) (h : X2_doerIn_J62 hp x0 x1 x3 x4 = some r) (hK : X2_doerIn_K17 G Q hp x0 x1 x3 r) : kw_V G mX2_doerIn 62 [some (.ref x0), some (.int x1), none, some (.int x3), some (.int x4), none] [] hp Q := by
  unfold X2_doerIn_J62 at h
  refine kv_iinc (w := nI 1) (L' := [some (.ref x0), some (.int x1), none, some (.int x3), some (.int (x4 + (nI 1))), none]) dX2_doerIn_62 (by decide) rfl (by decide) rfl ?_
  refine kw_goto 17 dX2_doerIn_65 (by decide) ?_
  have h := Option.some.inj h
  subst h
  exact hK
def X2_doerIn_J59 (hp : kw_H) (x5 : Int32) : Option (Int32) :=
  some (x5)
set_option maxRecDepth 100000 in
set_option maxHeartbeats 4000000 in
theorem X2_doerIn_J59_t (G : kw_G) (Q : Option Value → kw_H → Prop) (hp : kw_H) (x5 : Int32) (r : Int32) (h : X2_doerIn_J59 hp x5 = some r) (hK : Q (some (.int r)) hp) : kw_V G mX2_doerIn 59 [none, none, none, none, none, some (.int x5)] [] hp Q := by
  unfold X2_doerIn_J59 at h
  refine kw_iload dX2_doerIn_59 rfl ?_
  have h := Option.some.inj h
  subst h
  exact kw_iret rfl dX2_doerIn_61 hK
def X2_doerIn_b17 (hp : kw_H) (x0 : Nat) (x1 : Int32) (x3 : Int32) (x4 : Int32) : Option (((Int32) ⊕ (Int32))) :=
  (kp_gI hp x0 [2] 4).bind fun v2 =>
  (if v2 ≤ x4 then
  (X2_doerIn_J68 hp).map (fun r => .inr (r))
else
  (kp_gI hp x0 [2] 4).bind fun v4 =>
  (X11_rest_F hp (x1 + x4) v4).bind fun r5 =>
  ((kp_ob hp x0 2).bind fun _ => X2_nameIn_F hp x0 r5).bind fun r6 =>
  (if r6 = (nI 6) then
  X2_doerIn_J62 hp x0 x1 x3 x4
else
  (X11_holds_F hp x3 r6).bind fun r7 =>
  (if r7 = 0 then
  (X2_doerIn_J59 hp r6).map (fun r => .inr (r))
else
  X2_doerIn_J62 hp x0 x1 x3 x4)))
set_option maxRecDepth 100000 in
set_option maxHeartbeats 4000000 in
theorem X2_doerIn_b17_t (G : kw_G) (Q : Option Value → kw_H → Prop) (hp : kw_H) (x0 : Nat) (x1 : Int32) (x3 : Int32) (x4 : Int32) (r : ((Int32) ⊕ (Int32))) (h : X2_doerIn_b17 hp x0 x1 x3 x4 = some r) (hK : X2_doerIn_K17 G Q hp x0 x1 x3 r) : kw_V G mX2_doerIn 17 [some (.ref x0), some (.int x1), none, some (.int x3), some (.int x4), none] [] hp Q := by
  unfold X2_doerIn_b17 at h
  refine kw_iload dX2_doerIn_17 rfl ?_
  refine kw_aload_n dX2_doerIn_19 rfl ?_
  obtain ⟨v2, ev2, h⟩ := Option.bind_eq_some_iff.mp h
  refine kv_gI gfX2_27 dX2_doerIn_20 ev2 ?_
  refine kw_icmp_ge 68 dX2_doerIn_23 (by decide) (fun c11 => ?_) (fun c11 => ?_)
  · have h := (if_pos c11).symm.trans h
    refine kw_mask [false, false, true, false, false, true] (L' := [none, none, none, none, none, none]) rfl ?_
    obtain ⟨r3, hr3, hrr3⟩ := Option.map_eq_some_iff.mp h
    subst hrr3
    exact X2_doerIn_J68_t G Q hp r3 hr3 hK
  · have h := (if_neg c11).symm.trans h
    refine kw_aload_n dX2_doerIn_26 rfl ?_
    refine kw_iload_n dX2_doerIn_27 rfl ?_
    refine kw_iload dX2_doerIn_28 rfl ?_
    refine kw_iadd dX2_doerIn_30 ?_
    refine kw_aload_n dX2_doerIn_31 rfl ?_
    obtain ⟨v4, ev4, h⟩ := Option.bind_eq_some_iff.mp h
    refine kv_gI gfX2_27 dX2_doerIn_32 ev4 ?_
    obtain ⟨r5, er5, h⟩ := Option.bind_eq_some_iff.mp h
    refine kw_callSN (As := [.int (x1 + x4), .int v4]) (S := [.ref x0]) cbX2_doerIn_X11_rest lnX2_57 stX11_rest rfl rfl (Nat.le_of_ble_eq_true rfl) dX2_doerIn_35 (X11_rest_c G hp (x1 + x4) v4 _ er5) (fun vv hh hq => ?_)
    rw [hq.1, hq.2]
    show kw_V G mX2_doerIn 38 [some (.ref x0), some (.int x1), none, some (.int x3), some (.int x4), none] [.int r5, .ref x0] hp Q
    obtain ⟨r6, er6, h⟩ := Option.bind_eq_some_iff.mp h
    obtain ⟨ur6, eur6, er6⟩ := Option.bind_eq_some_iff.mp er6
    obtain ⟨fsr6, hor6⟩ := kp_ob_inv eur6
    refine kw_callV (As := [.int r5]) (S := []) kcX2 cbX2_doerIn_X2_nameIn lkX2_53 imX2_nameIn seX2_X2_nameIn_X2_nameIn rfl rfl (Nat.le_of_ble_eq_true rfl) dX2_doerIn_38 hor6 (X2_nameIn_c G hp x0 r5 _ er6) (fun vv hh hq => ?_)
    rw [hq.1, hq.2]
    show kw_V G mX2_doerIn 41 [some (.ref x0), some (.int x1), none, some (.int x3), some (.int x4), none] [.int r6] hp Q
    refine kw_istore (L' := [some (.ref x0), some (.int x1), none, some (.int x3), some (.int x4), some (.int r6)]) dX2_doerIn_41 (by decide) rfl ?_
    refine kw_iload dX2_doerIn_43 rfl ?_
    refine kw_bipush (v := nI 6) dX2_doerIn_45 (by decide) ?_
    refine kw_icmp_eq 62 dX2_doerIn_47 (by decide) (fun c10 => ?_) (fun c10 => ?_)
    · have h := (if_pos c10).symm.trans h
      refine kw_mask [true, true, true, true, true, false] (L' := [some (.ref x0), some (.int x1), none, some (.int x3), some (.int x4), none]) rfl ?_
      exact X2_doerIn_J62_t G Q hp x0 x1 x3 x4 _ h hK
    · have h := (if_neg c10).symm.trans h
      refine kw_iload_n dX2_doerIn_50 rfl ?_
      refine kw_iload dX2_doerIn_51 rfl ?_
      obtain ⟨r7, er7, h⟩ := Option.bind_eq_some_iff.mp h
      refine kw_callSN (As := [.int x3, .int r6]) (S := []) cbX2_doerIn_X11_holds lnX2_67 stX11_holds rfl rfl (Nat.le_of_ble_eq_true rfl) dX2_doerIn_53 (X11_holds_c G hp x3 r6 _ er7) (fun vv hh hq => ?_)
      rw [hq.1, hq.2]
      show kw_V G mX2_doerIn 56 [some (.ref x0), some (.int x1), none, some (.int x3), some (.int x4), some (.int r6)] [.int r7] hp Q
      refine kw_if_ne 62 dX2_doerIn_56 (by decide) (fun c9 => ?_) (fun c9 => ?_)
      · have h := (if_neg c9).symm.trans h
        refine kw_mask [true, true, true, true, true, false] (L' := [some (.ref x0), some (.int x1), none, some (.int x3), some (.int x4), none]) rfl ?_
        exact X2_doerIn_J62_t G Q hp x0 x1 x3 x4 _ h hK
      · have h := (if_pos c9).symm.trans h
        refine kw_mask [false, false, true, false, false, true] (L' := [none, none, none, none, none, some (.int r6)]) rfl ?_
        obtain ⟨r8, hr8, hrr8⟩ := Option.map_eq_some_iff.mp h
        subst hrr8
        exact X2_doerIn_J59_t G Q hp r6 r8 hr8 hK
def X2_doerIn_B17 (hp : kw_H) (x0 : Nat) (x1 : Int32) (x3 : Int32) (z : Int32) : Option (((Int32) ⊕ (Int32))) := X2_doerIn_b17 hp x0 x1 x3 z
theorem X2_doerIn_L17_t (G : kw_G) (Q : Option Value → kw_H → Prop) (hp : kw_H) (x0 : Nat) (x1 : Int32) (x3 : Int32) (n : Nat) (z : Int32) (r : Int32) (h : kp_lp (X2_doerIn_B17 hp x0 x1 x3) n z = some r) (hK : Q (some (.int r)) hp) : kw_V G mX2_doerIn 17 [some (.ref x0), some (.int x1), none, some (.int x3), some (.int z), none] [] hp Q :=
  kv_lp _ (fun z => kw_V G mX2_doerIn 17 [some (.ref x0), some (.int x1), none, some (.int x3), some (.int z), none] [] hp Q) (fun r => Q (some (.int r)) hp) (fun z x hb hx => X2_doerIn_b17_t G Q hp x0 x1 x3 z x hb (by cases x <;> exact hx)) n z r h hK
def X2_doerIn_F (hp : kw_H) (x0 : Nat) (x1 : Int32) (x2 : Int32) (x3 : Int32) : Option (Int32) :=
  ((kp_ob hp x0 2).bind fun _ => X2_jobHad_F hp x0 x1 x2).bind fun r1 =>
  (if r1 = (nI 6) then
  some (nI 6)
else
  kp_lp (X2_doerIn_B17 hp x0 x1 x3) 2000 (nI 0))
set_option maxRecDepth 100000 in
set_option maxHeartbeats 4000000 in
theorem X2_doerIn_c (G : kw_G) (hp : kw_H) (x0 : Nat) (x1 : Int32) (x2 : Int32) (x3 : Int32) (r : Int32) (h : X2_doerIn_F hp x0 x1 x2 x3 = some r) : kw_Met G mX2_doerIn [.ref x0, .int x1, .int x2, .int x3] hp (fun v h2 => v = some (.int r) ∧ h2 = hp) := by
  refine kw_met (L := [some (.ref x0), some (.int x1), some (.int x2), some (.int x3), none, none]) (r := 2) (by decide +kernel) (Nat.le_of_ble_eq_true rfl) rfl ?_
  unfold X2_doerIn_F at h
  obtain ⟨Q, hQ⟩ : ∃ Q : Option Value → kw_H → Prop, Q = (fun v h2 => v = some (.int r) ∧ h2 = hp) := ⟨_, rfl⟩
  have hK : Q (some (.int r)) hp := by rw [hQ]; exact ⟨rfl, rfl⟩
  rw [← hQ]
  clear hQ
  refine kw_aload_n dX2_doerIn_0 rfl ?_
  refine kw_iload_n dX2_doerIn_1 rfl ?_
  refine kw_iload_n dX2_doerIn_2 rfl ?_
  obtain ⟨r1, er1, h⟩ := Option.bind_eq_some_iff.mp h
  obtain ⟨ur1, eur1, er1⟩ := Option.bind_eq_some_iff.mp er1
  obtain ⟨fsr1, hor1⟩ := kp_ob_inv eur1
  refine kw_callV (As := [.int x1, .int x2]) (S := []) kcX2 cbX2_doerIn_X2_jobHad lkX2_64 imX2_jobHad seX2_X2_jobHad_X2_jobHad rfl rfl (Nat.le_of_ble_eq_true rfl) dX2_doerIn_3 hor1 (X2_jobHad_c G hp x0 x1 x2 _ er1) (fun vv hh hq => ?_)
  rw [hq.1, hq.2]
  show kw_V G mX2_doerIn 6 [some (.ref x0), some (.int x1), some (.int x2), some (.int x3), none, none] [.int r1] hp Q
  refine kw_bipush (v := nI 6) dX2_doerIn_6 (by decide) ?_
  refine kw_icmp_ne 14 dX2_doerIn_8 (by decide) (fun c12 => ?_) (fun c12 => ?_)
  · have h := (if_neg c12).symm.trans h
    refine kw_iconst (v := nI 0) dX2_doerIn_14 (by decide) ?_
    refine kw_istore (L' := [some (.ref x0), some (.int x1), some (.int x2), some (.int x3), some (.int (nI 0)), none]) dX2_doerIn_15 (by decide) rfl ?_
    refine kw_mask [true, true, false, true, true, true] (L' := [some (.ref x0), some (.int x1), none, some (.int x3), some (.int (nI 0)), none]) rfl ?_
    exact X2_doerIn_L17_t G Q hp x0 x1 x3 _ (nI 0) _ h hK
  · have h := (if_pos c12).symm.trans h
    refine kw_bipush (v := nI 6) dX2_doerIn_11 (by decide) ?_
    have h := Option.some.inj h
    subst h
    exact kw_iret rfl dX2_doerIn_13 hK
/-! KitchenWheels$Kitchen.turnerAt(I)LKitchenWheels$Turner; -/
def X2_turnerAt_F (hp : kw_H) (x0 : Nat) (x1 : Int32) : Option (Option Nat) :=
  (if x1 < 0 then
  some (none)
else
  (kp_gI hp x0 [2] 6).bind fun v1 =>
  (if v1 ≤ x1 then
  some (none)
else
  (if (nI 4) ≤ x1 then
  some (none)
else
  (kp_gR hp x0 [2] 2).bind fun v2 =>
  (kp_ldR hp 3 v2 x1).bind fun o3 =>
  kp_nu o3 (some (none)) (fun b4 =>
  some (some b4)))))
set_option maxRecDepth 100000 in
set_option maxHeartbeats 4000000 in
theorem X2_turnerAt_c (G : kw_G) (hp : kw_H) (x0 : Nat) (x1 : Int32) (r : Option Nat) (h : X2_turnerAt_F hp x0 x1 = some r) : kw_Met G mX2_turnerAt [.ref x0, .int x1] hp (fun v h2 => v = some (va_rf r) ∧ h2 = hp) := by
  refine kw_met (L := [some (.ref x0), some (.int x1)]) (r := 0) (by decide +kernel) (Nat.le_of_ble_eq_true rfl) rfl ?_
  unfold X2_turnerAt_F at h
  obtain ⟨Q, hQ⟩ : ∃ Q : Option Value → kw_H → Prop, Q = (fun v h2 => v = some (va_rf r) ∧ h2 = hp) := ⟨_, rfl⟩
  have hK : Q (some (va_rf r)) hp := by rw [hQ]; exact ⟨rfl, rfl⟩
  rw [← hQ]
  clear hQ
  refine kw_iload_n dX2_turnerAt_0 rfl ?_
  refine kw_if_lt 26 dX2_turnerAt_1 (by decide) (fun c7 => ?_) (fun c7 => ?_)
  · have h := (if_pos c7).symm.trans h
    refine kw_aconst_null dX2_turnerAt_26 ?_
    have h := Option.some.inj h
    subst h
    exact kw_aretN rfl dX2_turnerAt_27 hK
  · have h := (if_neg c7).symm.trans h
    refine kw_iload_n dX2_turnerAt_4 rfl ?_
    refine kw_aload_n dX2_turnerAt_5 rfl ?_
    obtain ⟨v1, ev1, h⟩ := Option.bind_eq_some_iff.mp h
    refine kv_gI gfX2_40 dX2_turnerAt_6 ev1 ?_
    refine kw_icmp_ge 26 dX2_turnerAt_9 (by decide) (fun c6 => ?_) (fun c6 => ?_)
    · have h := (if_pos c6).symm.trans h
      refine kw_aconst_null dX2_turnerAt_26 ?_
      have h := Option.some.inj h
      subst h
      exact kw_aretN rfl dX2_turnerAt_27 hK
    · have h := (if_neg c6).symm.trans h
      refine kw_iload_n dX2_turnerAt_12 rfl ?_
      refine kw_iconst (v := nI 4) dX2_turnerAt_13 (by decide) ?_
      refine kw_icmp_ge 26 dX2_turnerAt_14 (by decide) (fun c5 => ?_) (fun c5 => ?_)
      · have h := (if_pos c5).symm.trans h
        refine kw_aconst_null dX2_turnerAt_26 ?_
        have h := Option.some.inj h
        subst h
        exact kw_aretN rfl dX2_turnerAt_27 hK
      · have h := (if_neg c5).symm.trans h
        refine kw_aload_n dX2_turnerAt_17 rfl ?_
        obtain ⟨v2, ev2, h⟩ := Option.bind_eq_some_iff.mp h
        refine kv_gR gfX2_20 dX2_turnerAt_18 ev2 ?_
        refine kw_iload_n dX2_turnerAt_21 rfl ?_
        obtain ⟨o3, eo3, h⟩ := Option.bind_eq_some_iff.mp h
        refine kv_ldR (by decide) dX2_turnerAt_22 eo3 ?_
        cases o3 with
        | none =>
          dsimp only [kp_nu, va_rf] at h ⊢
          refine kw_goto 27 dX2_turnerAt_23 (by decide) ?_
          have h := Option.some.inj h
          subst h
          exact kw_aretN rfl dX2_turnerAt_27 hK
        | some b4 =>
          dsimp only [kp_nu, va_rf] at h ⊢
          refine kw_goto 27 dX2_turnerAt_23 (by decide) ?_
          have h := Option.some.inj h
          subst h
          exact kw_aret rfl dX2_turnerAt_27 hK
/-! KitchenWheels$Law.howFar(I)I -/
def X3_howFar_F (hp : kw_H) (x0 : Nat) (x1 : Int32) : Option (Int32) :=
  (kp_gI hp x0 [3, 5] 1).bind fun v1 =>
  some (x1 + v1)
set_option maxRecDepth 100000 in
set_option maxHeartbeats 4000000 in
theorem X3_howFar_c (G : kw_G) (hp : kw_H) (x0 : Nat) (x1 : Int32) (r : Int32) (h : X3_howFar_F hp x0 x1 = some r) : kw_Met G mX3_howFar [.ref x0, .int x1] hp (fun v h2 => v = some (.int r) ∧ h2 = hp) := by
  refine kw_met (L := [some (.ref x0), some (.int x1)]) (r := 0) (by decide +kernel) (Nat.le_of_ble_eq_true rfl) rfl ?_
  unfold X3_howFar_F at h
  obtain ⟨Q, hQ⟩ : ∃ Q : Option Value → kw_H → Prop, Q = (fun v h2 => v = some (.int r) ∧ h2 = hp) := ⟨_, rfl⟩
  have hK : Q (some (.int r)) hp := by rw [hQ]; exact ⟨rfl, rfl⟩
  rw [← hQ]
  clear hQ
  refine kw_iload_n dX3_howFar_0 rfl ?_
  refine kw_aload_n dX3_howFar_1 rfl ?_
  obtain ⟨v1, ev1, h⟩ := Option.bind_eq_some_iff.mp h
  refine kv_gI gfX3_7 dX3_howFar_2 ev1 ?_
  refine kw_iadd dX3_howFar_5 ?_
  have h := Option.some.inj h
  subst h
  exact kw_iret rfl dX3_howFar_6 hK
/-! KitchenWheels$One.howFar(I)I -/
def X4_howFar_F (hp : kw_H) (x0 : Nat) (x1 : Int32) : Option (Int32) :=
  some (nI 1)
set_option maxRecDepth 100000 in
set_option maxHeartbeats 4000000 in
theorem X4_howFar_c (G : kw_G) (hp : kw_H) (x0 : Nat) (x1 : Int32) (r : Int32) (h : X4_howFar_F hp x0 x1 = some r) : kw_Met G mX4_howFar [.ref x0, .int x1] hp (fun v h2 => v = some (.int r) ∧ h2 = hp) := by
  refine kw_met (L := [some (.ref x0), some (.int x1)]) (r := 0) (by decide +kernel) (Nat.le_of_ble_eq_true rfl) rfl ?_
  unfold X4_howFar_F at h
  obtain ⟨Q, hQ⟩ : ∃ Q : Option Value → kw_H → Prop, Q = (fun v h2 => v = some (.int r) ∧ h2 = hp) := ⟨_, rfl⟩
  have hK : Q (some (.int r)) hp := by rw [hQ]; exact ⟨rfl, rfl⟩
  rw [← hQ]
  clear hQ
  refine kw_iconst (v := nI 1) dX4_howFar_0 (by decide) ?_
  have h := Option.some.inj h
  subst h
  exact kw_iret rfl dX4_howFar_1 hK
/-! KitchenWheels$Righter.howFar(I)I -/
def X5_howFar_S19_f (hp : kw_H) (o : Nat) (y0 : Int32) : Option (Int32) :=
  (kp_ci hp o).bind fun ci => if ci ∈ [5] then X3_howFar_F hp o y0 else none
set_option maxRecDepth 100000 in
set_option maxHeartbeats 4000000 in
theorem X5_howFar_S19_v (G : kw_G) (Q : Option Value → kw_H → Prop) (L : List (Option Value)) (hp : kw_H) (o : Nat) (y0 : Int32) (r : Int32) {S : List Value} (hr : (S.map fun v => v.category).sum ≤ 8) (h : X5_howFar_S19_f hp o y0 = some r) (kk : kw_V G mX5_howFar 22 L (.int r :: S) hp Q) : kw_V G mX5_howFar 19 L (.int y0 :: .ref o :: S) hp Q := by
  unfold X5_howFar_S19_f at h
  obtain ⟨ci, e1, h⟩ := Option.bind_eq_some_iff.mp h
  obtain ⟨fs, ho⟩ := kp_ci_inv e1
  by_cases hc : ci ∈ [5]
  · have h := (if_pos hc).symm.trans h
    simp only [List.mem_cons, List.not_mem_nil, or_false] at hc
    subst hc
    exact kw_callSU (As := [.int y0]) (S := S) kcX5 cbX5_howFar_X3_howFar lkX5_13 smX3_howFar suX5_X3 imX3_howFar (by decide) rfl rfl hr dX5_howFar_19 ho (X3_howFar_c G hp o y0 _ h) (fun vv hh hq => by obtain ⟨rfl, rfl⟩ := hq; exact kk)
  · have h := (if_neg hc).symm.trans h
    cases h
def X5_howFar_S10_f (hp : kw_H) (o : Nat) (y0 : Int32) : Option (Int32) :=
  (kp_ci hp o).bind fun ci => if ci ∈ [5] then X3_howFar_F hp o y0 else none
set_option maxRecDepth 100000 in
set_option maxHeartbeats 4000000 in
theorem X5_howFar_S10_v (G : kw_G) (Q : Option Value → kw_H → Prop) (L : List (Option Value)) (hp : kw_H) (o : Nat) (y0 : Int32) (r : Int32) {S : List Value} (hr : (S.map fun v => v.category).sum ≤ 8) (h : X5_howFar_S10_f hp o y0 = some r) (kk : kw_V G mX5_howFar 13 L (.int r :: S) hp Q) : kw_V G mX5_howFar 10 L (.int y0 :: .ref o :: S) hp Q := by
  unfold X5_howFar_S10_f at h
  obtain ⟨ci, e1, h⟩ := Option.bind_eq_some_iff.mp h
  obtain ⟨fs, ho⟩ := kp_ci_inv e1
  by_cases hc : ci ∈ [5]
  · have h := (if_pos hc).symm.trans h
    simp only [List.mem_cons, List.not_mem_nil, or_false] at hc
    subst hc
    exact kw_callSU (As := [.int y0]) (S := S) kcX5 cbX5_howFar_X3_howFar lkX5_13 smX3_howFar suX5_X3 imX3_howFar (by decide) rfl rfl hr dX5_howFar_10 ho (X3_howFar_c G hp o y0 _ h) (fun vv hh hq => by obtain ⟨rfl, rfl⟩ := hq; exact kk)
  · have h := (if_neg hc).symm.trans h
    cases h
def X5_howFar_F (hp : kw_H) (x0 : Nat) (x1 : Int32) : Option (Int32) :=
  (X11_rest_F hp x1 (nI 3)).bind fun r1 =>
  (if r1 = 0 then
  (X5_howFar_S10_f hp x0 x1).bind fun r3 =>
  some (-r3)
else
  (X5_howFar_S19_f hp x0 x1).bind fun r2 =>
  some (r2))
set_option maxRecDepth 100000 in
set_option maxHeartbeats 4000000 in
theorem X5_howFar_c (G : kw_G) (hp : kw_H) (x0 : Nat) (x1 : Int32) (r : Int32) (h : X5_howFar_F hp x0 x1 = some r) : kw_Met G mX5_howFar [.ref x0, .int x1] hp (fun v h2 => v = some (.int r) ∧ h2 = hp) := by
  refine kw_met (L := [some (.ref x0), some (.int x1)]) (r := 0) (by decide +kernel) (Nat.le_of_ble_eq_true rfl) rfl ?_
  unfold X5_howFar_F at h
  obtain ⟨Q, hQ⟩ : ∃ Q : Option Value → kw_H → Prop, Q = (fun v h2 => v = some (.int r) ∧ h2 = hp) := ⟨_, rfl⟩
  have hK : Q (some (.int r)) hp := by rw [hQ]; exact ⟨rfl, rfl⟩
  rw [← hQ]
  clear hQ
  refine kw_iload_n dX5_howFar_0 rfl ?_
  refine kw_iconst (v := nI 3) dX5_howFar_1 (by decide) ?_
  obtain ⟨r1, er1, h⟩ := Option.bind_eq_some_iff.mp h
  refine kw_callSN (As := [.int x1, .int (nI 3)]) (S := []) cbX5_howFar_X11_rest lnX5_7 stX11_rest rfl rfl (Nat.le_of_ble_eq_true rfl) dX5_howFar_2 (X11_rest_c G hp x1 (nI 3) _ er1) (fun vv hh hq => ?_)
  rw [hq.1, hq.2]
  show kw_V G mX5_howFar 5 [some (.ref x0), some (.int x1)] [.int r1] hp Q
  refine kw_if_ne 17 dX5_howFar_5 (by decide) (fun c4 => ?_) (fun c4 => ?_)
  · have h := (if_neg c4).symm.trans h
    refine kw_aload_n dX5_howFar_17 rfl ?_
    refine kw_iload_n dX5_howFar_18 rfl ?_
    obtain ⟨r2, er2, h⟩ := Option.bind_eq_some_iff.mp h
    refine X5_howFar_S19_v G Q [some (.ref x0), some (.int x1)] hp x0 x1 _ (Nat.le_of_ble_eq_true rfl) er2 (S := []) ?_
    show kw_V G mX5_howFar 22 [some (.ref x0), some (.int x1)] [.int r2] hp Q
    have h := Option.some.inj h
    subst h
    exact kw_iret rfl dX5_howFar_22 hK
  · have h := (if_pos c4).symm.trans h
    refine kw_aload_n dX5_howFar_8 rfl ?_
    refine kw_iload_n dX5_howFar_9 rfl ?_
    obtain ⟨r3, er3, h⟩ := Option.bind_eq_some_iff.mp h
    refine X5_howFar_S10_v G Q [some (.ref x0), some (.int x1)] hp x0 x1 _ (Nat.le_of_ble_eq_true rfl) er3 (S := []) ?_
    show kw_V G mX5_howFar 13 [some (.ref x0), some (.int x1)] [.int r3] hp Q
    refine kw_ineg dX5_howFar_13 ?_
    refine kw_goto 22 dX5_howFar_14 (by decide) ?_
    have h := Option.some.inj h
    subst h
    exact kw_iret rfl dX5_howFar_22 hK
/-! KitchenWheels$Step.howFar(I)I -/
def X7_howFar_F (hp : kw_H) (x0 : Nat) (x1 : Int32) : Option (Int32) :=
  (kp_gI hp x0 [7] 1).bind fun v1 =>
  some (v1)
set_option maxRecDepth 100000 in
set_option maxHeartbeats 4000000 in
theorem X7_howFar_c (G : kw_G) (hp : kw_H) (x0 : Nat) (x1 : Int32) (r : Int32) (h : X7_howFar_F hp x0 x1 = some r) : kw_Met G mX7_howFar [.ref x0, .int x1] hp (fun v h2 => v = some (.int r) ∧ h2 = hp) := by
  refine kw_met (L := [some (.ref x0), some (.int x1)]) (r := 0) (by decide +kernel) (Nat.le_of_ble_eq_true rfl) rfl ?_
  unfold X7_howFar_F at h
  obtain ⟨Q, hQ⟩ : ∃ Q : Option Value → kw_H → Prop, Q = (fun v h2 => v = some (.int r) ∧ h2 = hp) := ⟨_, rfl⟩
  have hK : Q (some (.int r)) hp := by rw [hQ]; exact ⟨rfl, rfl⟩
  rw [← hQ]
  clear hQ
  refine kw_aload_n dX7_howFar_0 rfl ?_
  obtain ⟨v1, ev1, h⟩ := Option.bind_eq_some_iff.mp h
  refine kv_gI gfX7_7 dX7_howFar_1 ev1 ?_
  have h := Option.some.inj h
  subst h
  exact kw_iret rfl dX7_howFar_4 hK
/-! KitchenWheels$Kitchen.turnedNext(II)I -/
def X2_turnedNext_D24_f (hp : kw_H) (o : Nat) (y0 : Int32) : Option (Int32) :=
  (kp_ci hp o).bind fun ci =>
  if ci = 0 then X0_howFar_F hp o y0 else if ci = 3 then X3_howFar_F hp o y0 else if ci = 4 then X4_howFar_F hp o y0 else if ci = 5 then X5_howFar_F hp o y0 else if ci = 7 then X7_howFar_F hp o y0 else none
set_option maxRecDepth 100000 in
set_option maxHeartbeats 4000000 in
theorem X2_turnedNext_D24_v (G : kw_G) (Q : Option Value → kw_H → Prop) (L : List (Option Value)) (hp : kw_H) (o : Nat) (y0 : Int32) (r : Int32) {S : List Value} (hr : (S.map fun v => v.category).sum ≤ 8) (h : X2_turnedNext_D24_f hp o y0 = some r) (kk : kw_V G mX2_turnedNext 27 L (.int r :: S) hp Q) : kw_V G mX2_turnedNext 24 L (.int y0 :: .ref o :: S) hp Q := by
  unfold X2_turnedNext_D24_f at h
  obtain ⟨ci, e1, h⟩ := Option.bind_eq_some_iff.mp h
  obtain ⟨fs, ho⟩ := kp_ci_inv e1
  by_cases c0 : ci = 0
  · have h := (if_pos c0).symm.trans h
    subst c0
    exact kw_callU (x := ⟨"KitchenWheels$Turner", "howFar", "(I)I"⟩) (owner := "KitchenWheels$Turner") (As := [.int y0]) (S := S) kcX0 cbX2_turnedNext_X0_howFar lkX2_89 sMX2_89 (Or.inl ⟨528, by decide +kernel⟩) ⟨by decide, by decide, by decide +kernel⟩ imX0_howFar seX0_howFar_X0_howFar rfl rfl hr dX2_turnedNext_24 ho (X0_howFar_c G hp o y0 _ h) (fun vv hh hq => by obtain ⟨rfl, rfl⟩ := hq; exact kk)
  · have h := (if_neg c0).symm.trans h
    by_cases c3 : ci = 3
    · have h := (if_pos c3).symm.trans h
      subst c3
      exact kw_callU (x := ⟨"KitchenWheels$Turner", "howFar", "(I)I"⟩) (owner := "KitchenWheels$Turner") (As := [.int y0]) (S := S) kcX3 cbX2_turnedNext_X3_howFar lkX2_89 sMX2_89 (Or.inl ⟨528, by decide +kernel⟩) ⟨by decide, by decide, by decide +kernel⟩ imX3_howFar seX3_howFar_X3_howFar rfl rfl hr dX2_turnedNext_24 ho (X3_howFar_c G hp o y0 _ h) (fun vv hh hq => by obtain ⟨rfl, rfl⟩ := hq; exact kk)
    · have h := (if_neg c3).symm.trans h
      by_cases c4 : ci = 4
      · have h := (if_pos c4).symm.trans h
        subst c4
        exact kw_callU (x := ⟨"KitchenWheels$Turner", "howFar", "(I)I"⟩) (owner := "KitchenWheels$Turner") (As := [.int y0]) (S := S) kcX4 cbX2_turnedNext_X4_howFar lkX2_89 sMX2_89 (Or.inl ⟨528, by decide +kernel⟩) ⟨by decide, by decide, by decide +kernel⟩ imX4_howFar seX4_howFar_X4_howFar rfl rfl hr dX2_turnedNext_24 ho (X4_howFar_c G hp o y0 _ h) (fun vv hh hq => by obtain ⟨rfl, rfl⟩ := hq; exact kk)
      · have h := (if_neg c4).symm.trans h
        by_cases c5 : ci = 5
        · have h := (if_pos c5).symm.trans h
          subst c5
          exact kw_callU (x := ⟨"KitchenWheels$Turner", "howFar", "(I)I"⟩) (owner := "KitchenWheels$Turner") (As := [.int y0]) (S := S) kcX5 cbX2_turnedNext_X5_howFar lkX2_89 sMX2_89 (Or.inl ⟨528, by decide +kernel⟩) ⟨by decide, by decide, by decide +kernel⟩ imX5_howFar seX5_howFar_X5_howFar rfl rfl hr dX2_turnedNext_24 ho (X5_howFar_c G hp o y0 _ h) (fun vv hh hq => by obtain ⟨rfl, rfl⟩ := hq; exact kk)
        · have h := (if_neg c5).symm.trans h
          by_cases c7 : ci = 7
          · have h := (if_pos c7).symm.trans h
            subst c7
            exact kw_callU (x := ⟨"KitchenWheels$Turner", "howFar", "(I)I"⟩) (owner := "KitchenWheels$Turner") (As := [.int y0]) (S := S) kcX7 cbX2_turnedNext_X7_howFar lkX2_89 sMX2_89 (Or.inl ⟨528, by decide +kernel⟩) ⟨by decide, by decide, by decide +kernel⟩ imX7_howFar seX7_howFar_X7_howFar rfl rfl hr dX2_turnedNext_24 ho (X7_howFar_c G hp o y0 _ h) (fun vv hh hq => by obtain ⟨rfl, rfl⟩ := hq; exact kk)
          · have h := (if_neg c7).symm.trans h
            cases h
def X2_turnedNext_F (hp : kw_H) (x0 : Nat) (x1 : Int32) (x2 : Int32) : Option (Int32) :=
  (kp_gI hp x0 [2] 6).bind fun v1 =>
  (X11_rest_F hp x2 v1).bind fun r2 =>
  ((kp_ob hp x0 2).bind fun _ => X2_turnerAt_F hp x0 r2).bind fun r3 =>
  kp_nu r3 (some (x1)) (fun b5 =>
  (X2_turnedNext_D24_f hp b5 x2).bind fun r6 =>
  (kp_gI hp x0 [2] 5).bind fun v7 =>
  (X11_rest_F hp (x1 + r6) v7).bind fun r8 =>
  some (r8))
set_option maxRecDepth 100000 in
set_option maxHeartbeats 4000000 in
theorem X2_turnedNext_c (G : kw_G) (hp : kw_H) (x0 : Nat) (x1 : Int32) (x2 : Int32) (r : Int32) (h : X2_turnedNext_F hp x0 x1 x2 = some r) : kw_Met G mX2_turnedNext [.ref x0, .int x1, .int x2] hp (fun v h2 => v = some (.int r) ∧ h2 = hp) := by
  refine kw_met (L := [some (.ref x0), some (.int x1), some (.int x2), none]) (r := 1) (by decide +kernel) (Nat.le_of_ble_eq_true rfl) rfl ?_
  unfold X2_turnedNext_F at h
  obtain ⟨Q, hQ⟩ : ∃ Q : Option Value → kw_H → Prop, Q = (fun v h2 => v = some (.int r) ∧ h2 = hp) := ⟨_, rfl⟩
  have hK : Q (some (.int r)) hp := by rw [hQ]; exact ⟨rfl, rfl⟩
  rw [← hQ]
  clear hQ
  refine kw_aload_n dX2_turnedNext_0 rfl ?_
  refine kw_iload_n dX2_turnedNext_1 rfl ?_
  refine kw_aload_n dX2_turnedNext_2 rfl ?_
  obtain ⟨v1, ev1, h⟩ := Option.bind_eq_some_iff.mp h
  refine kv_gI gfX2_40 dX2_turnedNext_3 ev1 ?_
  obtain ⟨r2, er2, h⟩ := Option.bind_eq_some_iff.mp h
  refine kw_callSN (As := [.int x2, .int v1]) (S := [.ref x0]) cbX2_turnedNext_X11_rest lnX2_57 stX11_rest rfl rfl (Nat.le_of_ble_eq_true rfl) dX2_turnedNext_6 (X11_rest_c G hp x2 v1 _ er2) (fun vv hh hq => ?_)
  rw [hq.1, hq.2]
  show kw_V G mX2_turnedNext 9 [some (.ref x0), some (.int x1), some (.int x2), none] [.int r2, .ref x0] hp Q
  obtain ⟨r3, er3, h⟩ := Option.bind_eq_some_iff.mp h
  obtain ⟨ur3, eur3, er3⟩ := Option.bind_eq_some_iff.mp er3
  obtain ⟨fsr3, hor3⟩ := kp_ob_inv eur3
  refine kw_callV (As := [.int r2]) (S := []) kcX2 cbX2_turnedNext_X2_turnerAt lkX2_85 imX2_turnerAt seX2_X2_turnerAt_X2_turnerAt rfl rfl (Nat.le_of_ble_eq_true rfl) dX2_turnedNext_9 hor3 (X2_turnerAt_c G hp x0 r2 _ er3) (fun vv hh hq => ?_)
  rw [hq.1, hq.2]
  show kw_V G mX2_turnedNext 12 [some (.ref x0), some (.int x1), some (.int x2), none] (va_rf r3 :: []) hp Q
  cases r3 with
  | none =>
    dsimp only [kp_nu, va_rf] at h ⊢
    refine kw_astore_nN (L' := [some (.ref x0), some (.int x1), some (.int x2), some (.null)]) dX2_turnedNext_12 (by decide) rfl ?_
    refine kw_aload_nN dX2_turnedNext_13 rfl ?_
    refine kw_ifnonnullN dX2_turnedNext_14 ?_
    refine kw_iload_n dX2_turnedNext_17 rfl ?_
    refine kw_goto 35 dX2_turnedNext_18 (by decide) ?_
    have h := Option.some.inj h
    subst h
    exact kw_iret rfl dX2_turnedNext_35 hK
  | some b5 =>
    dsimp only [kp_nu, va_rf] at h ⊢
    refine kw_astore_n (L' := [some (.ref x0), some (.int x1), some (.int x2), some (.ref b5)]) dX2_turnedNext_12 (by decide) rfl ?_
    refine kw_aload_n dX2_turnedNext_13 rfl ?_
    refine kw_ifnonnull 21 dX2_turnedNext_14 (by decide) ?_
    refine kw_iload_n dX2_turnedNext_21 rfl ?_
    refine kw_aload_n dX2_turnedNext_22 rfl ?_
    refine kw_iload_n dX2_turnedNext_23 rfl ?_
    obtain ⟨r6, er6, h⟩ := Option.bind_eq_some_iff.mp h
    refine X2_turnedNext_D24_v G Q [some (.ref x0), some (.int x1), some (.int x2), some (.ref b5)] hp b5 x2 _ (Nat.le_of_ble_eq_true rfl) er6 (S := [.int x1]) ?_
    show kw_V G mX2_turnedNext 27 [some (.ref x0), some (.int x1), some (.int x2), some (.ref b5)] [.int r6, .int x1] hp Q
    refine kw_iadd dX2_turnedNext_27 ?_
    refine kw_aload_n dX2_turnedNext_28 rfl ?_
    obtain ⟨v7, ev7, h⟩ := Option.bind_eq_some_iff.mp h
    refine kv_gI gfX2_37 dX2_turnedNext_29 ev7 ?_
    obtain ⟨r8, er8, h⟩ := Option.bind_eq_some_iff.mp h
    refine kw_callSN (As := [.int (x1 + r6), .int v7]) (S := []) cbX2_turnedNext_X11_rest lnX2_57 stX11_rest rfl rfl (Nat.le_of_ble_eq_true rfl) dX2_turnedNext_32 (X11_rest_c G hp (x1 + r6) v7 _ er8) (fun vv hh hq => ?_)
    rw [hq.1, hq.2]
    show kw_V G mX2_turnedNext 35 [some (.ref x0), some (.int x1), some (.int x2), some (.ref b5)] [.int r8] hp Q
    have h := Option.some.inj h
    subst h
    exact kw_iret rfl dX2_turnedNext_35 hK
/-! KitchenWheels$Foreteller.timesIn(LKitchenWheels$Kitchen;III)I -/
def X1_timesIn_K12 (G : kw_G) (Q : Option Value → kw_H → Prop) (hp : kw_H) (x1 : Nat) (x2 : Int32) (x3 : Int32) (x4 : Int32) (r : (Int32 × Int32 × Int32) ⊕ (Int32)) : Prop := match r with
  | .inl z => kw_V G mX1_timesIn 12 [none, some (.ref x1), some (.int x2), some (.int x3), some (.int x4), some (.int z.1), some (.int z.2.1), some (.int z.2.2), none, none] [] hp Q
  | .inr r => Q (some (.int r)) hp
def X1_timesIn_J103 (hp : kw_H) (x5 : Int32) : Option (Int32) :=
  some (x5)
set_option maxRecDepth 100000 in
set_option maxHeartbeats 4000000 in
theorem X1_timesIn_J103_t (G : kw_G) (Q : Option Value → kw_H → Prop) (hp : kw_H) (x5 : Int32) (r : Int32) (h : X1_timesIn_J103 hp x5 = some r) (hK : Q (some (.int r)) hp) : kw_V G mX1_timesIn 103 [none, none, none, none, none, some (.int x5), none, none, none, none] [] hp Q := by
  unfold X1_timesIn_J103 at h
  refine kw_iload dX1_timesIn_103 rfl ?_
  have h := Option.some.inj h
  subst h
  exact kw_iret rfl dX1_timesIn_105 hK
def X1_timesIn_K22 (G : kw_G) (Q : Option Value → kw_H → Prop) (hp : kw_H) (x1 : Nat) (x2 : Int32) (x3 : Int32) (x4 : Int32) (x6 : Int32) (x7 : Int32) (r : (Int32 × Int32) ⊕ (((Int32 × Int32 × Int32) ⊕ (Int32)))) : Prop := match r with
  | .inl z => kw_V G mX1_timesIn 22 [none, some (.ref x1), some (.int x2), some (.int x3), some (.int x4), some (.int z.1), some (.int x6), some (.int x7), some (.int z.2), none] [] hp Q
  | .inr r => X1_timesIn_K12 G Q hp x1 x2 x3 x4 r
def X1_timesIn_J82 (hp : kw_H) (x1 : Nat) (x2 : Int32) (x3 : Int32) (x4 : Int32) (x5 : Int32) (x6 : Int32) (x7 : Int32) : Option (((Int32 × Int32 × Int32) ⊕ (Int32))) :=
  (kp_gI hp x1 [2] 7).bind fun v4 =>
  ((kp_ob hp x1 2).bind fun _ => X2_turnedNext_F hp x1 x6 (v4 + x7)).bind fun r5 =>
  some (.inl (x5, r5, x7 + (nI 1)))
set_option maxRecDepth 100000 in
set_option maxHeartbeats 4000000 in
theorem X1_timesIn_J82_t (G : kw_G) (Q : Option Value → kw_H → Prop) (hp : kw_H) (x1 : Nat) (x2 : Int32) (x3 : Int32) (x4 : Int32) (x5 : Int32) (x6 : Int32) (x7 : Int32) (r : ((Int32 × Int32 × Int32) ⊕ (Int32))) (h : X1_timesIn_J82 hp x1 x2 x3 x4 x5 x6 x7 = some r) (hK : X1_timesIn_K12 G Q hp x1 x2 x3 x4 r) : kw_V G mX1_timesIn 82 [none, some (.ref x1), some (.int x2), some (.int x3), some (.int x4), some (.int x5), some (.int x6), some (.int x7), none, none] [] hp Q := by
  unfold X1_timesIn_J82 at h
  refine kw_aload_n dX1_timesIn_82 rfl ?_
  refine kw_iload dX1_timesIn_83 rfl ?_
  refine kw_aload_n dX1_timesIn_85 rfl ?_
  obtain ⟨v4, ev4, h⟩ := Option.bind_eq_some_iff.mp h
  refine kv_gI gfX1_48 dX1_timesIn_86 ev4 ?_
  refine kw_iload dX1_timesIn_89 rfl ?_
  refine kw_iadd dX1_timesIn_91 ?_
  obtain ⟨r5, er5, h⟩ := Option.bind_eq_some_iff.mp h
  obtain ⟨ur5, eur5, er5⟩ := Option.bind_eq_some_iff.mp er5
  obtain ⟨fsr5, hor5⟩ := kp_ob_inv eur5
  refine kw_callV (As := [.int x6, .int (v4 + x7)]) (S := []) kcX2 cbX1_timesIn_X2_turnedNext lkX1_51 imX2_turnedNext seX2_X2_turnedNext_X2_turnedNext rfl rfl (Nat.le_of_ble_eq_true rfl) dX1_timesIn_92 hor5 (X2_turnedNext_c G hp x1 x6 (v4 + x7) _ er5) (fun vv hh hq => ?_)
  rw [hq.1, hq.2]
  show kw_V G mX1_timesIn 95 [none, some (.ref x1), some (.int x2), some (.int x3), some (.int x4), some (.int x5), some (.int x6), some (.int x7), none, none] [.int r5] hp Q
  refine kw_istore (L' := [none, some (.ref x1), some (.int x2), some (.int x3), some (.int x4), some (.int x5), some (.int r5), some (.int x7), none, none]) dX1_timesIn_95 (by decide) rfl ?_
  refine kv_iinc (w := nI 1) (L' := [none, some (.ref x1), some (.int x2), some (.int x3), some (.int x4), some (.int x5), some (.int r5), some (.int (x7 + (nI 1))), none, none]) dX1_timesIn_97 (by decide) rfl (by decide) rfl ?_
  refine kw_goto 12 dX1_timesIn_100 (by decide) ?_
  have h := Option.some.inj h
  subst h
  exact hK
def X1_timesIn_J76 (hp : kw_H) (x1 : Nat) (x2 : Int32) (x3 : Int32) (x4 : Int32) (x5 : Int32) (x6 : Int32) (x7 : Int32) (x8 : Int32) : Option (((Int32 × Int32) ⊕ (((Int32 × Int32 × Int32) ⊕ (Int32))))) :=
  some (.inl (x5, x8 + (nI 1)))
set_option maxRecDepth 100000 in
set_option maxHeartbeats 4000000 in
theorem X1_timesIn_J76_t (G : kw_G) (Q : Option Value → kw_H → Prop) (hp : kw_H) (x1 : Nat) (x2 : Int32) (x3 : Int32) (x4 : Int32) (x5 : Int32) (x6 : Int32) (x7 : Int32) (x8 : Int32) (r : ((Int32 × Int32) ⊕ (((Int32 × Int32 × Int32) ⊕ (Int32))))) (h : X1_timesIn_J76 hp x1 x2 x3 x4 x5 x6 x7 x8 = some r) (hK : X1_timesIn_K22 G Q hp x1 x2 x3 x4 x6 x7 r) : kw_V G mX1_timesIn 76 [none, some (.ref x1), some (.int x2), some (.int x3), some (.int x4), some (.int x5), some (.int x6), some (.int x7), some (.int x8), none] [] hp Q := by
  unfold X1_timesIn_J76 at h
  refine kv_iinc (w := nI 1) (L' := [none, some (.ref x1), some (.int x2), some (.int x3), some (.int x4), some (.int x5), some (.int x6), some (.int x7), some (.int (x8 + (nI 1))), none]) dX1_timesIn_76 (by decide) rfl (by decide) rfl ?_
  refine kw_goto 22 dX1_timesIn_79 (by decide) ?_
  have h := Option.some.inj h
  subst h
  exact hK
def X1_timesIn_J48 (hp : kw_H) (x1 : Nat) (x2 : Int32) (x3 : Int32) (x4 : Int32) (x5 : Int32) (x6 : Int32) (x7 : Int32) (x8 : Int32) (s0 : Int32) : Option (((Int32 × Int32) ⊕ (((Int32 × Int32 × Int32) ⊕ (Int32))))) :=
  (if s0 = 0 then
  X1_timesIn_J76 hp x1 x2 x3 x4 x5 x6 x7 x8
else
  ((kp_ob hp x1 2).bind fun _ => X2_awayBehind_F hp x1 x7).bind fun r8 =>
  ((kp_ob hp x1 2).bind fun _ => X2_doerIn_F hp x1 x8 x6 r8).bind fun r9 =>
  (if r9 = x2 then
  X1_timesIn_J76 hp x1 x2 x3 x4 (x5 + (nI 1)) x6 x7 x8
else
  X1_timesIn_J76 hp x1 x2 x3 x4 x5 x6 x7 x8))
set_option maxRecDepth 100000 in
set_option maxHeartbeats 4000000 in
theorem X1_timesIn_J48_t (G : kw_G) (Q : Option Value → kw_H → Prop) (hp : kw_H) (x1 : Nat) (x2 : Int32) (x3 : Int32) (x4 : Int32) (x5 : Int32) (x6 : Int32) (x7 : Int32) (x8 : Int32) (s0 : Int32) (r : ((Int32 × Int32) ⊕ (((Int32 × Int32 × Int32) ⊕ (Int32))))) (h : X1_timesIn_J48 hp x1 x2 x3 x4 x5 x6 x7 x8 s0 = some r) (hK : X1_timesIn_K22 G Q hp x1 x2 x3 x4 x6 x7 r) : kw_V G mX1_timesIn 48 [none, some (.ref x1), some (.int x2), some (.int x3), some (.int x4), some (.int x5), some (.int x6), some (.int x7), some (.int x8), none] [.int s0] hp Q := by
  unfold X1_timesIn_J48 at h
  refine kw_istore (L' := [none, some (.ref x1), some (.int x2), some (.int x3), some (.int x4), some (.int x5), some (.int x6), some (.int x7), some (.int x8), some (.int s0)]) dX1_timesIn_48 (by decide) rfl ?_
  refine kw_iload dX1_timesIn_50 rfl ?_
  refine kw_if_eq 76 dX1_timesIn_52 (by decide) (fun c11 => ?_) (fun c11 => ?_)
  · have h := (if_pos c11).symm.trans h
    refine kw_mask [true, true, true, true, true, true, true, true, true, false] (L' := [none, some (.ref x1), some (.int x2), some (.int x3), some (.int x4), some (.int x5), some (.int x6), some (.int x7), some (.int x8), none]) rfl ?_
    exact X1_timesIn_J76_t G Q hp x1 x2 x3 x4 x5 x6 x7 x8 _ h hK
  · have h := (if_neg c11).symm.trans h
    refine kw_aload_n dX1_timesIn_55 rfl ?_
    refine kw_iload dX1_timesIn_56 rfl ?_
    refine kw_iload dX1_timesIn_58 rfl ?_
    refine kw_aload_n dX1_timesIn_60 rfl ?_
    refine kw_iload dX1_timesIn_61 rfl ?_
    obtain ⟨r8, er8, h⟩ := Option.bind_eq_some_iff.mp h
    obtain ⟨ur8, eur8, er8⟩ := Option.bind_eq_some_iff.mp er8
    obtain ⟨fsr8, hor8⟩ := kp_ob_inv eur8
    refine kw_callV (As := [.int x7]) (S := [.int x6, .int x8, .ref x1]) kcX2 cbX1_timesIn_X2_awayBehind lkX1_40 imX2_awayBehind seX2_X2_awayBehind_X2_awayBehind rfl rfl (Nat.le_of_ble_eq_true rfl) dX1_timesIn_63 hor8 (X2_awayBehind_c G hp x1 x7 _ er8) (fun vv hh hq => ?_)
    rw [hq.1, hq.2]
    show kw_V G mX1_timesIn 66 [none, some (.ref x1), some (.int x2), some (.int x3), some (.int x4), some (.int x5), some (.int x6), some (.int x7), some (.int x8), some (.int s0)] [.int r8, .int x6, .int x8, .ref x1] hp Q
    obtain ⟨r9, er9, h⟩ := Option.bind_eq_some_iff.mp h
    obtain ⟨ur9, eur9, er9⟩ := Option.bind_eq_some_iff.mp er9
    obtain ⟨fsr9, hor9⟩ := kp_ob_inv eur9
    refine kw_callV (As := [.int x8, .int x6, .int r8]) (S := []) kcX2 cbX1_timesIn_X2_doerIn lkX1_44 imX2_doerIn seX2_X2_doerIn_X2_doerIn rfl rfl (Nat.le_of_ble_eq_true rfl) dX1_timesIn_66 hor9 (X2_doerIn_c G hp x1 x8 x6 r8 _ er9) (fun vv hh hq => ?_)
    rw [hq.1, hq.2]
    show kw_V G mX1_timesIn 69 [none, some (.ref x1), some (.int x2), some (.int x3), some (.int x4), some (.int x5), some (.int x6), some (.int x7), some (.int x8), some (.int s0)] [.int r9] hp Q
    refine kw_iload_n dX1_timesIn_69 rfl ?_
    refine kw_icmp_ne 76 dX1_timesIn_70 (by decide) (fun c10 => ?_) (fun c10 => ?_)
    · have h := (if_neg c10).symm.trans h
      refine kw_mask [true, true, true, true, true, true, true, true, true, false] (L' := [none, some (.ref x1), some (.int x2), some (.int x3), some (.int x4), some (.int x5), some (.int x6), some (.int x7), some (.int x8), none]) rfl ?_
      exact X1_timesIn_J76_t G Q hp x1 x2 x3 x4 x5 x6 x7 x8 _ h hK
    · have h := (if_pos c10).symm.trans h
      refine kv_iinc (w := nI 1) (L' := [none, some (.ref x1), some (.int x2), some (.int x3), some (.int x4), some (.int (x5 + (nI 1))), some (.int x6), some (.int x7), some (.int x8), some (.int s0)]) dX1_timesIn_73 (by decide) rfl (by decide) rfl ?_
      refine kw_mask [true, true, true, true, true, true, true, true, true, false] (L' := [none, some (.ref x1), some (.int x2), some (.int x3), some (.int x4), some (.int (x5 + (nI 1))), some (.int x6), some (.int x7), some (.int x8), none]) rfl ?_
      exact X1_timesIn_J76_t G Q hp x1 x2 x3 x4 (x5 + (nI 1)) x6 x7 x8 _ h hK
def X1_timesIn_b22 (hp : kw_H) (x1 : Nat) (x2 : Int32) (x3 : Int32) (x4 : Int32) (x6 : Int32) (x7 : Int32) (x5 : Int32) (x8 : Int32) : Option (((Int32 × Int32) ⊕ (((Int32 × Int32 × Int32) ⊕ (Int32))))) :=
  (kp_gI hp x1 [2] 4).bind fun v3 =>
  (if v3 ≤ x8 then
  (X1_timesIn_J82 hp x1 x2 x3 x4 x5 x6 x7).map (fun r => .inr (r))
else
  ((kp_ob hp x1 2).bind fun _ => X2_jobHad_F hp x1 x8 x6).bind fun r7 =>
  (if r7 = x3 then
  X1_timesIn_J48 hp x1 x2 x3 x4 x5 x6 x7 x8 (nI 1)
else
  X1_timesIn_J48 hp x1 x2 x3 x4 x5 x6 x7 x8 (nI 0)))
set_option maxRecDepth 100000 in
set_option maxHeartbeats 4000000 in
theorem X1_timesIn_b22_t (G : kw_G) (Q : Option Value → kw_H → Prop) (hp : kw_H) (x1 : Nat) (x2 : Int32) (x3 : Int32) (x4 : Int32) (x6 : Int32) (x7 : Int32) (x5 : Int32) (x8 : Int32) (r : ((Int32 × Int32) ⊕ (((Int32 × Int32 × Int32) ⊕ (Int32))))) (h : X1_timesIn_b22 hp x1 x2 x3 x4 x6 x7 x5 x8 = some r) (hK : X1_timesIn_K22 G Q hp x1 x2 x3 x4 x6 x7 r) : kw_V G mX1_timesIn 22 [none, some (.ref x1), some (.int x2), some (.int x3), some (.int x4), some (.int x5), some (.int x6), some (.int x7), some (.int x8), none] [] hp Q := by
  unfold X1_timesIn_b22 at h
  refine kw_iload dX1_timesIn_22 rfl ?_
  refine kw_aload_n dX1_timesIn_24 rfl ?_
  obtain ⟨v3, ev3, h⟩ := Option.bind_eq_some_iff.mp h
  refine kv_gI gfX1_33 dX1_timesIn_25 ev3 ?_
  refine kw_icmp_ge 82 dX1_timesIn_28 (by decide) (fun c13 => ?_) (fun c13 => ?_)
  · have h := (if_pos c13).symm.trans h
    refine kw_mask [true, true, true, true, true, true, true, true, false, true] (L' := [none, some (.ref x1), some (.int x2), some (.int x3), some (.int x4), some (.int x5), some (.int x6), some (.int x7), none, none]) rfl ?_
    obtain ⟨r6, hr6, hrr6⟩ := Option.map_eq_some_iff.mp h
    subst hrr6
    exact X1_timesIn_J82_t G Q hp x1 x2 x3 x4 x5 x6 x7 r6 hr6 hK
  · have h := (if_neg c13).symm.trans h
    refine kw_aload_n dX1_timesIn_31 rfl ?_
    refine kw_iload dX1_timesIn_32 rfl ?_
    refine kw_iload dX1_timesIn_34 rfl ?_
    obtain ⟨r7, er7, h⟩ := Option.bind_eq_some_iff.mp h
    obtain ⟨ur7, eur7, er7⟩ := Option.bind_eq_some_iff.mp er7
    obtain ⟨fsr7, hor7⟩ := kp_ob_inv eur7
    refine kw_callV (As := [.int x8, .int x6]) (S := []) kcX2 cbX1_timesIn_X2_jobHad lkX1_36 imX2_jobHad seX2_X2_jobHad_X2_jobHad rfl rfl (Nat.le_of_ble_eq_true rfl) dX1_timesIn_36 hor7 (X2_jobHad_c G hp x1 x8 x6 _ er7) (fun vv hh hq => ?_)
    rw [hq.1, hq.2]
    show kw_V G mX1_timesIn 39 [none, some (.ref x1), some (.int x2), some (.int x3), some (.int x4), some (.int x5), some (.int x6), some (.int x7), some (.int x8), none] [.int r7] hp Q
    refine kw_iload_n dX1_timesIn_39 rfl ?_
    refine kw_icmp_ne 47 dX1_timesIn_40 (by decide) (fun c12 => ?_) (fun c12 => ?_)
    · have h := (if_neg c12).symm.trans h
      refine kw_iconst (v := nI 0) dX1_timesIn_47 (by decide) ?_
      exact X1_timesIn_J48_t G Q hp x1 x2 x3 x4 x5 x6 x7 x8 (nI 0) _ h hK
    · have h := (if_pos c12).symm.trans h
      refine kw_iconst (v := nI 1) dX1_timesIn_43 (by decide) ?_
      refine kw_goto 48 dX1_timesIn_44 (by decide) ?_
      exact X1_timesIn_J48_t G Q hp x1 x2 x3 x4 x5 x6 x7 x8 (nI 1) _ h hK
def X1_timesIn_B22 (hp : kw_H) (x1 : Nat) (x2 : Int32) (x3 : Int32) (x4 : Int32) (x6 : Int32) (x7 : Int32) (z : Int32 × Int32) : Option (((Int32 × Int32) ⊕ (((Int32 × Int32 × Int32) ⊕ (Int32))))) := X1_timesIn_b22 hp x1 x2 x3 x4 x6 x7 z.1 z.2
theorem X1_timesIn_L22_t (G : kw_G) (Q : Option Value → kw_H → Prop) (hp : kw_H) (x1 : Nat) (x2 : Int32) (x3 : Int32) (x4 : Int32) (x6 : Int32) (x7 : Int32) (n : Nat) (z : Int32 × Int32) (r : ((Int32 × Int32 × Int32) ⊕ (Int32))) (h : kp_lp (X1_timesIn_B22 hp x1 x2 x3 x4 x6 x7) n z = some r) (hK : X1_timesIn_K12 G Q hp x1 x2 x3 x4 r) : kw_V G mX1_timesIn 22 [none, some (.ref x1), some (.int x2), some (.int x3), some (.int x4), some (.int z.1), some (.int x6), some (.int x7), some (.int z.2), none] [] hp Q :=
  kv_lp _ (fun z => kw_V G mX1_timesIn 22 [none, some (.ref x1), some (.int x2), some (.int x3), some (.int x4), some (.int z.1), some (.int x6), some (.int x7), some (.int z.2), none] [] hp Q) (fun r => X1_timesIn_K12 G Q hp x1 x2 x3 x4 r) (fun z x hb hx => X1_timesIn_b22_t G Q hp x1 x2 x3 x4 x6 x7 z.1 z.2 x hb (by cases x <;> exact hx)) n z r h hK
def X1_timesIn_b12 (hp : kw_H) (x1 : Nat) (x2 : Int32) (x3 : Int32) (x4 : Int32) (x5 : Int32) (x6 : Int32) (x7 : Int32) : Option (((Int32 × Int32 × Int32) ⊕ (Int32))) :=
  (if x4 ≤ x7 then
  (X1_timesIn_J103 hp x5).map (fun r => .inr (r))
else
  kp_lp (X1_timesIn_B22 hp x1 x2 x3 x4 x6 x7) 2000 (x5, nI 0))
set_option maxRecDepth 100000 in
set_option maxHeartbeats 4000000 in
theorem X1_timesIn_b12_t (G : kw_G) (Q : Option Value → kw_H → Prop) (hp : kw_H) (x1 : Nat) (x2 : Int32) (x3 : Int32) (x4 : Int32) (x5 : Int32) (x6 : Int32) (x7 : Int32) (r : ((Int32 × Int32 × Int32) ⊕ (Int32))) (h : X1_timesIn_b12 hp x1 x2 x3 x4 x5 x6 x7 = some r) (hK : X1_timesIn_K12 G Q hp x1 x2 x3 x4 r) : kw_V G mX1_timesIn 12 [none, some (.ref x1), some (.int x2), some (.int x3), some (.int x4), some (.int x5), some (.int x6), some (.int x7), none, none] [] hp Q := by
  unfold X1_timesIn_b12 at h
  refine kw_iload dX1_timesIn_12 rfl ?_
  refine kw_iload dX1_timesIn_14 rfl ?_
  refine kw_icmp_ge 103 dX1_timesIn_16 (by decide) (fun c14 => ?_) (fun c14 => ?_)
  · have h := (if_pos c14).symm.trans h
    refine kw_mask [true, false, false, false, false, true, false, false, true, true] (L' := [none, none, none, none, none, some (.int x5), none, none, none, none]) rfl ?_
    obtain ⟨r2, hr2, hrr2⟩ := Option.map_eq_some_iff.mp h
    subst hrr2
    exact X1_timesIn_J103_t G Q hp x5 r2 hr2 hK
  · have h := (if_neg c14).symm.trans h
    refine kw_iconst (v := nI 0) dX1_timesIn_19 (by decide) ?_
    refine kw_istore (L' := [none, some (.ref x1), some (.int x2), some (.int x3), some (.int x4), some (.int x5), some (.int x6), some (.int x7), some (.int (nI 0)), none]) dX1_timesIn_20 (by decide) rfl ?_
    exact X1_timesIn_L22_t G Q hp x1 x2 x3 x4 x6 x7 _ (x5, nI 0) _ h hK
def X1_timesIn_B12 (hp : kw_H) (x1 : Nat) (x2 : Int32) (x3 : Int32) (x4 : Int32) (z : Int32 × Int32 × Int32) : Option (((Int32 × Int32 × Int32) ⊕ (Int32))) := X1_timesIn_b12 hp x1 x2 x3 x4 z.1 z.2.1 z.2.2
theorem X1_timesIn_L12_t (G : kw_G) (Q : Option Value → kw_H → Prop) (hp : kw_H) (x1 : Nat) (x2 : Int32) (x3 : Int32) (x4 : Int32) (n : Nat) (z : Int32 × Int32 × Int32) (r : Int32) (h : kp_lp (X1_timesIn_B12 hp x1 x2 x3 x4) n z = some r) (hK : Q (some (.int r)) hp) : kw_V G mX1_timesIn 12 [none, some (.ref x1), some (.int x2), some (.int x3), some (.int x4), some (.int z.1), some (.int z.2.1), some (.int z.2.2), none, none] [] hp Q :=
  kv_lp _ (fun z => kw_V G mX1_timesIn 12 [none, some (.ref x1), some (.int x2), some (.int x3), some (.int x4), some (.int z.1), some (.int z.2.1), some (.int z.2.2), none, none] [] hp Q) (fun r => Q (some (.int r)) hp) (fun z x hb hx => X1_timesIn_b12_t G Q hp x1 x2 x3 x4 z.1 z.2.1 z.2.2 x hb (by cases x <;> exact hx)) n z r h hK
def X1_timesIn_F (hp : kw_H) (x0 : Nat) (x1 : Nat) (x2 : Int32) (x3 : Int32) (x4 : Int32) : Option (Int32) :=
  (kp_gI hp x1 [2] 8).bind fun v1 =>
  kp_lp (X1_timesIn_B12 hp x1 x2 x3 x4) 2000 (nI 0, v1, nI 0)
set_option maxRecDepth 100000 in
set_option maxHeartbeats 4000000 in
theorem X1_timesIn_c (G : kw_G) (hp : kw_H) (x0 : Nat) (x1 : Nat) (x2 : Int32) (x3 : Int32) (x4 : Int32) (r : Int32) (h : X1_timesIn_F hp x0 x1 x2 x3 x4 = some r) : kw_Met G mX1_timesIn [.ref x0, .ref x1, .int x2, .int x3, .int x4] hp (fun v h2 => v = some (.int r) ∧ h2 = hp) := by
  refine kw_met (L := [some (.ref x0), some (.ref x1), some (.int x2), some (.int x3), some (.int x4), none, none, none, none, none]) (r := 5) (by decide +kernel) (Nat.le_of_ble_eq_true rfl) rfl ?_
  unfold X1_timesIn_F at h
  obtain ⟨Q, hQ⟩ : ∃ Q : Option Value → kw_H → Prop, Q = (fun v h2 => v = some (.int r) ∧ h2 = hp) := ⟨_, rfl⟩
  have hK : Q (some (.int r)) hp := by rw [hQ]; exact ⟨rfl, rfl⟩
  rw [← hQ]
  clear hQ
  refine kw_iconst (v := nI 0) dX1_timesIn_0 (by decide) ?_
  refine kw_istore (L' := [some (.ref x0), some (.ref x1), some (.int x2), some (.int x3), some (.int x4), some (.int (nI 0)), none, none, none, none]) dX1_timesIn_1 (by decide) rfl ?_
  refine kw_aload_n dX1_timesIn_3 rfl ?_
  obtain ⟨v1, ev1, h⟩ := Option.bind_eq_some_iff.mp h
  refine kv_gI gfX1_29 dX1_timesIn_4 ev1 ?_
  refine kw_istore (L' := [some (.ref x0), some (.ref x1), some (.int x2), some (.int x3), some (.int x4), some (.int (nI 0)), some (.int v1), none, none, none]) dX1_timesIn_7 (by decide) rfl ?_
  refine kw_iconst (v := nI 0) dX1_timesIn_9 (by decide) ?_
  refine kw_istore (L' := [some (.ref x0), some (.ref x1), some (.int x2), some (.int x3), some (.int x4), some (.int (nI 0)), some (.int v1), some (.int (nI 0)), none, none]) dX1_timesIn_10 (by decide) rfl ?_
  refine kw_mask [false, true, true, true, true, true, true, true, true, true] (L' := [none, some (.ref x1), some (.int x2), some (.int x3), some (.int x4), some (.int (nI 0)), some (.int v1), some (.int (nI 0)), none, none]) rfl ?_
  exact X1_timesIn_L12_t G Q hp x1 x2 x3 x4 _ (nI 0, v1, nI 0) _ h hK
/-! KitchenWheels$Kitchen.doersOf(III)I -/
def X2_doersOf_K6 (G : kw_G) (Q : Option Value → kw_H → Prop) (hp : kw_H) (x0 : Nat) (x1 : Int32) (x2 : Int32) (x3 : Int32) (r : (Int32 × Int32) ⊕ (Int32)) : Prop := match r with
  | .inl z => kw_V G mX2_doersOf 6 [some (.ref x0), some (.int x1), some (.int x2), some (.int x3), some (.int z.1), some (.int z.2), none] [] hp Q
  | .inr r => Q (some (.int r)) hp
def X2_doersOf_J63 (hp : kw_H) (x4 : Int32) : Option (Int32) :=
  some (x4)
set_option maxRecDepth 100000 in
set_option maxHeartbeats 4000000 in
theorem X2_doersOf_J63_t (G : kw_G) (Q : Option Value → kw_H → Prop) (hp : kw_H) (x4 : Int32) (r : Int32) (h : X2_doersOf_J63 hp x4 = some r) (hK : Q (some (.int r)) hp) : kw_V G mX2_doersOf 63 [none, none, none, none, some (.int x4), none, none] [] hp Q := by
  unfold X2_doersOf_J63 at h
  refine kw_iload dX2_doersOf_63 rfl ?_
  have h := Option.some.inj h
  subst h
  exact kw_iret rfl dX2_doersOf_65 hK
def X2_doersOf_J57 (hp : kw_H) (x0 : Nat) (x1 : Int32) (x2 : Int32) (x3 : Int32) (x4 : Int32) (x5 : Int32) : Option (((Int32 × Int32) ⊕ (Int32))) :=
  some (.inl (x4, x5 + (nI 1)))
set_option maxRecDepth 100000 in
set_option maxHeartbeats 4000000 in
theorem X2_doersOf_J57_t (G : kw_G) (Q : Option Value → kw_H → Prop) (hp : kw_H) (x0 : Nat) (x1 : Int32) (x2 : Int32) (x3 : Int32) (x4 : Int32) (x5 : Int32) (r : ((Int32 × Int32) ⊕ (Int32))) (h : X2_doersOf_J57 hp x0 x1 x2 x3 x4 x5 = some r) (hK : X2_doersOf_K6 G Q hp x0 x1 x2 x3 r) : kw_V G mX2_doersOf 57 [some (.ref x0), some (.int x1), some (.int x2), some (.int x3), some (.int x4), some (.int x5), none] [] hp Q := by
  unfold X2_doersOf_J57 at h
  refine kv_iinc (w := nI 1) (L' := [some (.ref x0), some (.int x1), some (.int x2), some (.int x3), some (.int x4), some (.int (x5 + (nI 1))), none]) dX2_doersOf_57 (by decide) rfl (by decide) rfl ?_
  refine kw_goto 6 dX2_doersOf_60 (by decide) ?_
  have h := Option.some.inj h
  subst h
  exact hK
def X2_doersOf_J39 (hp : kw_H) (x0 : Nat) (x1 : Int32) (x2 : Int32) (x3 : Int32) (x4 : Int32) (x5 : Int32) (s0 : Int32) : Option (((Int32 × Int32) ⊕ (Int32))) :=
  (if s0 = (nI 6) then
  X2_doersOf_J57 hp x0 x1 x2 x3 x4 x5
else
  X2_doersOf_J57 hp x0 x1 x2 x3 (x4 ||| ((nI 1) <<< (s0 &&& 31))) x5)
set_option maxRecDepth 100000 in
set_option maxHeartbeats 4000000 in
theorem X2_doersOf_J39_t (G : kw_G) (Q : Option Value → kw_H → Prop) (hp : kw_H) (x0 : Nat) (x1 : Int32) (x2 : Int32) (x3 : Int32) (x4 : Int32) (x5 : Int32) (s0 : Int32) (r : ((Int32 × Int32) ⊕ (Int32))) (h : X2_doersOf_J39 hp x0 x1 x2 x3 x4 x5 s0 = some r) (hK : X2_doersOf_K6 G Q hp x0 x1 x2 x3 r) : kw_V G mX2_doersOf 39 [some (.ref x0), some (.int x1), some (.int x2), some (.int x3), some (.int x4), some (.int x5), none] [.int s0] hp Q := by
  unfold X2_doersOf_J39 at h
  refine kw_istore (L' := [some (.ref x0), some (.int x1), some (.int x2), some (.int x3), some (.int x4), some (.int x5), some (.int s0)]) dX2_doersOf_39 (by decide) rfl ?_
  refine kw_iload dX2_doersOf_41 rfl ?_
  refine kw_bipush (v := nI 6) dX2_doersOf_43 (by decide) ?_
  refine kw_icmp_eq 57 dX2_doersOf_45 (by decide) (fun c4 => ?_) (fun c4 => ?_)
  · have h := (if_pos c4).symm.trans h
    refine kw_mask [true, true, true, true, true, true, false] (L' := [some (.ref x0), some (.int x1), some (.int x2), some (.int x3), some (.int x4), some (.int x5), none]) rfl ?_
    exact X2_doersOf_J57_t G Q hp x0 x1 x2 x3 x4 x5 _ h hK
  · have h := (if_neg c4).symm.trans h
    refine kw_iload dX2_doersOf_48 rfl ?_
    refine kw_iconst (v := nI 1) dX2_doersOf_50 (by decide) ?_
    refine kw_iload dX2_doersOf_51 rfl ?_
    refine kw_ishl dX2_doersOf_53 ?_
    refine kw_ior dX2_doersOf_54 ?_
    refine kw_istore (L' := [some (.ref x0), some (.int x1), some (.int x2), some (.int x3), some (.int (x4 ||| ((nI 1) <<< (s0 &&& 31)))), some (.int x5), some (.int s0)]) dX2_doersOf_55 (by decide) rfl ?_
    refine kw_mask [true, true, true, true, true, true, false] (L' := [some (.ref x0), some (.int x1), some (.int x2), some (.int x3), some (.int (x4 ||| ((nI 1) <<< (s0 &&& 31)))), some (.int x5), none]) rfl ?_
    exact X2_doersOf_J57_t G Q hp x0 x1 x2 x3 (x4 ||| ((nI 1) <<< (s0 &&& 31))) x5 _ h hK
def X2_doersOf_b6 (hp : kw_H) (x0 : Nat) (x1 : Int32) (x2 : Int32) (x3 : Int32) (x4 : Int32) (x5 : Int32) : Option (((Int32 × Int32) ⊕ (Int32))) :=
  (kp_gI hp x0 [2] 4).bind fun v1 =>
  (if v1 ≤ x5 then
  (X2_doersOf_J63 hp x4).map (fun r => .inr (r))
else
  ((kp_ob hp x0 2).bind fun _ => X2_jobHad_F hp x0 x5 x2).bind fun r3 =>
  (if r3 = x1 then
  ((kp_ob hp x0 2).bind fun _ => X2_doerIn_F hp x0 x5 x2 x3).bind fun r5 =>
  X2_doersOf_J39 hp x0 x1 x2 x3 x4 x5 r5
else
  X2_doersOf_J39 hp x0 x1 x2 x3 x4 x5 (nI 6)))
set_option maxRecDepth 100000 in
set_option maxHeartbeats 4000000 in
theorem X2_doersOf_b6_t (G : kw_G) (Q : Option Value → kw_H → Prop) (hp : kw_H) (x0 : Nat) (x1 : Int32) (x2 : Int32) (x3 : Int32) (x4 : Int32) (x5 : Int32) (r : ((Int32 × Int32) ⊕ (Int32))) (h : X2_doersOf_b6 hp x0 x1 x2 x3 x4 x5 = some r) (hK : X2_doersOf_K6 G Q hp x0 x1 x2 x3 r) : kw_V G mX2_doersOf 6 [some (.ref x0), some (.int x1), some (.int x2), some (.int x3), some (.int x4), some (.int x5), none] [] hp Q := by
  unfold X2_doersOf_b6 at h
  refine kw_iload dX2_doersOf_6 rfl ?_
  refine kw_aload_n dX2_doersOf_8 rfl ?_
  obtain ⟨v1, ev1, h⟩ := Option.bind_eq_some_iff.mp h
  refine kv_gI gfX2_27 dX2_doersOf_9 ev1 ?_
  refine kw_icmp_ge 63 dX2_doersOf_12 (by decide) (fun c7 => ?_) (fun c7 => ?_)
  · have h := (if_pos c7).symm.trans h
    refine kw_mask [false, false, false, false, true, false, true] (L' := [none, none, none, none, some (.int x4), none, none]) rfl ?_
    obtain ⟨r2, hr2, hrr2⟩ := Option.map_eq_some_iff.mp h
    subst hrr2
    exact X2_doersOf_J63_t G Q hp x4 r2 hr2 hK
  · have h := (if_neg c7).symm.trans h
    refine kw_aload_n dX2_doersOf_15 rfl ?_
    refine kw_iload dX2_doersOf_16 rfl ?_
    refine kw_iload_n dX2_doersOf_18 rfl ?_
    obtain ⟨r3, er3, h⟩ := Option.bind_eq_some_iff.mp h
    obtain ⟨ur3, eur3, er3⟩ := Option.bind_eq_some_iff.mp er3
    obtain ⟨fsr3, hor3⟩ := kp_ob_inv eur3
    refine kw_callV (As := [.int x5, .int x2]) (S := []) kcX2 cbX2_doersOf_X2_jobHad lkX2_64 imX2_jobHad seX2_X2_jobHad_X2_jobHad rfl rfl (Nat.le_of_ble_eq_true rfl) dX2_doersOf_19 hor3 (X2_jobHad_c G hp x0 x5 x2 _ er3) (fun vv hh hq => ?_)
    rw [hq.1, hq.2]
    show kw_V G mX2_doersOf 22 [some (.ref x0), some (.int x1), some (.int x2), some (.int x3), some (.int x4), some (.int x5), none] [.int r3] hp Q
    refine kw_iload_n dX2_doersOf_22 rfl ?_
    refine kw_icmp_ne 37 dX2_doersOf_23 (by decide) (fun c6 => ?_) (fun c6 => ?_)
    · have h := (if_neg c6).symm.trans h
      refine kw_bipush (v := nI 6) dX2_doersOf_37 (by decide) ?_
      exact X2_doersOf_J39_t G Q hp x0 x1 x2 x3 x4 x5 (nI 6) _ h hK
    · have h := (if_pos c6).symm.trans h
      refine kw_aload_n dX2_doersOf_26 rfl ?_
      refine kw_iload dX2_doersOf_27 rfl ?_
      refine kw_iload_n dX2_doersOf_29 rfl ?_
      refine kw_iload_n dX2_doersOf_30 rfl ?_
      obtain ⟨r5, er5, h⟩ := Option.bind_eq_some_iff.mp h
      obtain ⟨ur5, eur5, er5⟩ := Option.bind_eq_some_iff.mp er5
      obtain ⟨fsr5, hor5⟩ := kp_ob_inv eur5
      refine kw_callV (As := [.int x5, .int x2, .int x3]) (S := []) kcX2 cbX2_doersOf_X2_doerIn lkX2_71 imX2_doerIn seX2_X2_doerIn_X2_doerIn rfl rfl (Nat.le_of_ble_eq_true rfl) dX2_doersOf_31 hor5 (X2_doerIn_c G hp x0 x5 x2 x3 _ er5) (fun vv hh hq => ?_)
      rw [hq.1, hq.2]
      show kw_V G mX2_doersOf 34 [some (.ref x0), some (.int x1), some (.int x2), some (.int x3), some (.int x4), some (.int x5), none] [.int r5] hp Q
      refine kw_goto 39 dX2_doersOf_34 (by decide) ?_
      exact X2_doersOf_J39_t G Q hp x0 x1 x2 x3 x4 x5 r5 _ h hK
def X2_doersOf_B6 (hp : kw_H) (x0 : Nat) (x1 : Int32) (x2 : Int32) (x3 : Int32) (z : Int32 × Int32) : Option (((Int32 × Int32) ⊕ (Int32))) := X2_doersOf_b6 hp x0 x1 x2 x3 z.1 z.2
theorem X2_doersOf_L6_t (G : kw_G) (Q : Option Value → kw_H → Prop) (hp : kw_H) (x0 : Nat) (x1 : Int32) (x2 : Int32) (x3 : Int32) (n : Nat) (z : Int32 × Int32) (r : Int32) (h : kp_lp (X2_doersOf_B6 hp x0 x1 x2 x3) n z = some r) (hK : Q (some (.int r)) hp) : kw_V G mX2_doersOf 6 [some (.ref x0), some (.int x1), some (.int x2), some (.int x3), some (.int z.1), some (.int z.2), none] [] hp Q :=
  kv_lp _ (fun z => kw_V G mX2_doersOf 6 [some (.ref x0), some (.int x1), some (.int x2), some (.int x3), some (.int z.1), some (.int z.2), none] [] hp Q) (fun r => Q (some (.int r)) hp) (fun z x hb hx => X2_doersOf_b6_t G Q hp x0 x1 x2 x3 z.1 z.2 x hb (by cases x <;> exact hx)) n z r h hK
def X2_doersOf_F (hp : kw_H) (x0 : Nat) (x1 : Int32) (x2 : Int32) (x3 : Int32) : Option (Int32) :=
  kp_lp (X2_doersOf_B6 hp x0 x1 x2 x3) 2000 (nI 0, nI 0)
set_option maxRecDepth 100000 in
set_option maxHeartbeats 4000000 in
theorem X2_doersOf_c (G : kw_G) (hp : kw_H) (x0 : Nat) (x1 : Int32) (x2 : Int32) (x3 : Int32) (r : Int32) (h : X2_doersOf_F hp x0 x1 x2 x3 = some r) : kw_Met G mX2_doersOf [.ref x0, .int x1, .int x2, .int x3] hp (fun v h2 => v = some (.int r) ∧ h2 = hp) := by
  refine kw_met (L := [some (.ref x0), some (.int x1), some (.int x2), some (.int x3), none, none, none]) (r := 3) (by decide +kernel) (Nat.le_of_ble_eq_true rfl) rfl ?_
  unfold X2_doersOf_F at h
  obtain ⟨Q, hQ⟩ : ∃ Q : Option Value → kw_H → Prop, Q = (fun v h2 => v = some (.int r) ∧ h2 = hp) := ⟨_, rfl⟩
  have hK : Q (some (.int r)) hp := by rw [hQ]; exact ⟨rfl, rfl⟩
  rw [← hQ]
  clear hQ
  refine kw_iconst (v := nI 0) dX2_doersOf_0 (by decide) ?_
  refine kw_istore (L' := [some (.ref x0), some (.int x1), some (.int x2), some (.int x3), some (.int (nI 0)), none, none]) dX2_doersOf_1 (by decide) rfl ?_
  refine kw_iconst (v := nI 0) dX2_doersOf_3 (by decide) ?_
  refine kw_istore (L' := [some (.ref x0), some (.int x1), some (.int x2), some (.int x3), some (.int (nI 0)), some (.int (nI 0)), none]) dX2_doersOf_4 (by decide) rfl ?_
  exact X2_doersOf_L6_t G Q hp x0 x1 x2 x3 _ (nI 0, nI 0) _ h hK
/-! KitchenWheels$Foreteller.firstMeeting(LKitchenWheels$Kitchen;II)I -/
def X1_firstMeeting_K9 (G : kw_G) (Q : Option Value → kw_H → Prop) (hp : kw_H) (x1 : Nat) (x2 : Int32) (x3 : Int32) (r : (Int32 × Int32) ⊕ (Int32)) : Prop := match r with
  | .inl z => kw_V G mX1_firstMeeting 9 [none, some (.ref x1), some (.int x2), some (.int x3), some (.int z.1), some (.int z.2)] [] hp Q
  | .inr r => Q (some (.int r)) hp
def X1_firstMeeting_J60 (hp : kw_H) : Option (Int32) :=
  some ((-1000000))
set_option maxRecDepth 100000 in
set_option maxHeartbeats 4000000 in
theorem X1_firstMeeting_J60_t (G : kw_G) (Q : Option Value → kw_H → Prop) (hp : kw_H) (r : Int32) (h : X1_firstMeeting_J60 hp = some r) (hK : Q (some (.int r)) hp) : kw_V G mX1_firstMeeting 60 [none, none, none, none, none, none] [] hp Q := by
  unfold X1_firstMeeting_J60 at h
  refine kw_ldc (v := (-1000000)) dX1_firstMeeting_60 ckX1_61 ?_
  have h := Option.some.inj h
  subst h
  exact kw_iret rfl dX1_firstMeeting_62 hK
def X1_firstMeeting_J36 (hp : kw_H) (x5 : Int32) : Option (Int32) :=
  some (x5)
set_option maxRecDepth 100000 in
set_option maxHeartbeats 4000000 in
theorem X1_firstMeeting_J36_t (G : kw_G) (Q : Option Value → kw_H → Prop) (hp : kw_H) (x5 : Int32) (r : Int32) (h : X1_firstMeeting_J36 hp x5 = some r) (hK : Q (some (.int r)) hp) : kw_V G mX1_firstMeeting 36 [none, none, none, none, none, some (.int x5)] [] hp Q := by
  unfold X1_firstMeeting_J36 at h
  refine kw_iload dX1_firstMeeting_36 rfl ?_
  have h := Option.some.inj h
  subst h
  exact kw_iret rfl dX1_firstMeeting_38 hK
def X1_firstMeeting_b9 (hp : kw_H) (x1 : Nat) (x2 : Int32) (x3 : Int32) (x4 : Int32) (x5 : Int32) : Option (((Int32 × Int32) ⊕ (Int32))) :=
  (if (nI 60) < x5 then
  (X1_firstMeeting_J60 hp).map (fun r => .inr (r))
else
  ((kp_ob hp x1 2).bind fun _ => X2_awayBehind_F hp x1 x5).bind fun r3 =>
  ((kp_ob hp x1 2).bind fun _ => X2_doersOf_F hp x1 x3 x4 r3).bind fun r4 =>
  (X11_holds_F hp r4 x2).bind fun r5 =>
  (if r5 = 0 then
  (kp_gI hp x1 [2] 7).bind fun v6 =>
  ((kp_ob hp x1 2).bind fun _ => X2_turnedNext_F hp x1 x4 (v6 + x5)).bind fun r7 =>
  some (.inl (r7, x5 + (nI 1)))
else
  (X1_firstMeeting_J36 hp x5).map (fun r => .inr (r))))
set_option maxRecDepth 100000 in
set_option maxHeartbeats 4000000 in
theorem X1_firstMeeting_b9_t (G : kw_G) (Q : Option Value → kw_H → Prop) (hp : kw_H) (x1 : Nat) (x2 : Int32) (x3 : Int32) (x4 : Int32) (x5 : Int32) (r : ((Int32 × Int32) ⊕ (Int32))) (h : X1_firstMeeting_b9 hp x1 x2 x3 x4 x5 = some r) (hK : X1_firstMeeting_K9 G Q hp x1 x2 x3 r) : kw_V G mX1_firstMeeting 9 [none, some (.ref x1), some (.int x2), some (.int x3), some (.int x4), some (.int x5)] [] hp Q := by
  unfold X1_firstMeeting_b9 at h
  refine kw_iload dX1_firstMeeting_9 rfl ?_
  refine kw_bipush (v := nI 60) dX1_firstMeeting_11 (by decide) ?_
  refine kw_icmp_gt 60 dX1_firstMeeting_13 (by decide) (fun c10 => ?_) (fun c10 => ?_)
  · have h := (if_pos c10).symm.trans h
    refine kw_mask [true, false, false, false, false, false] (L' := [none, none, none, none, none, none]) rfl ?_
    obtain ⟨r2, hr2, hrr2⟩ := Option.map_eq_some_iff.mp h
    subst hrr2
    exact X1_firstMeeting_J60_t G Q hp r2 hr2 hK
  · have h := (if_neg c10).symm.trans h
    refine kw_aload_n dX1_firstMeeting_16 rfl ?_
    refine kw_iload_n dX1_firstMeeting_17 rfl ?_
    refine kw_iload dX1_firstMeeting_18 rfl ?_
    refine kw_aload_n dX1_firstMeeting_20 rfl ?_
    refine kw_iload dX1_firstMeeting_21 rfl ?_
    obtain ⟨r3, er3, h⟩ := Option.bind_eq_some_iff.mp h
    obtain ⟨ur3, eur3, er3⟩ := Option.bind_eq_some_iff.mp er3
    obtain ⟨fsr3, hor3⟩ := kp_ob_inv eur3
    refine kw_callV (As := [.int x5]) (S := [.int x4, .int x3, .ref x1]) kcX2 cbX1_firstMeeting_X2_awayBehind lkX1_40 imX2_awayBehind seX2_X2_awayBehind_X2_awayBehind rfl rfl (Nat.le_of_ble_eq_true rfl) dX1_firstMeeting_23 hor3 (X2_awayBehind_c G hp x1 x5 _ er3) (fun vv hh hq => ?_)
    rw [hq.1, hq.2]
    show kw_V G mX1_firstMeeting 26 [none, some (.ref x1), some (.int x2), some (.int x3), some (.int x4), some (.int x5)] [.int r3, .int x4, .int x3, .ref x1] hp Q
    obtain ⟨r4, er4, h⟩ := Option.bind_eq_some_iff.mp h
    obtain ⟨ur4, eur4, er4⟩ := Option.bind_eq_some_iff.mp er4
    obtain ⟨fsr4, hor4⟩ := kp_ob_inv eur4
    refine kw_callV (As := [.int x3, .int x4, .int r3]) (S := []) kcX2 cbX1_firstMeeting_X2_doersOf lkX1_54 imX2_doersOf seX2_X2_doersOf_X2_doersOf rfl rfl (Nat.le_of_ble_eq_true rfl) dX1_firstMeeting_26 hor4 (X2_doersOf_c G hp x1 x3 x4 r3 _ er4) (fun vv hh hq => ?_)
    rw [hq.1, hq.2]
    show kw_V G mX1_firstMeeting 29 [none, some (.ref x1), some (.int x2), some (.int x3), some (.int x4), some (.int x5)] [.int r4] hp Q
    refine kw_iload_n dX1_firstMeeting_29 rfl ?_
    obtain ⟨r5, er5, h⟩ := Option.bind_eq_some_iff.mp h
    refine kw_callSN (As := [.int r4, .int x2]) (S := []) cbX1_firstMeeting_X11_holds lnX1_57 stX11_holds rfl rfl (Nat.le_of_ble_eq_true rfl) dX1_firstMeeting_30 (X11_holds_c G hp r4 x2 _ er5) (fun vv hh hq => ?_)
    rw [hq.1, hq.2]
    show kw_V G mX1_firstMeeting 33 [none, some (.ref x1), some (.int x2), some (.int x3), some (.int x4), some (.int x5)] [.int r5] hp Q
    refine kw_if_eq 39 dX1_firstMeeting_33 (by decide) (fun c9 => ?_) (fun c9 => ?_)
    · have h := (if_pos c9).symm.trans h
      refine kw_aload_n dX1_firstMeeting_39 rfl ?_
      refine kw_iload dX1_firstMeeting_40 rfl ?_
      refine kw_aload_n dX1_firstMeeting_42 rfl ?_
      obtain ⟨v6, ev6, h⟩ := Option.bind_eq_some_iff.mp h
      refine kv_gI gfX1_48 dX1_firstMeeting_43 ev6 ?_
      refine kw_iload dX1_firstMeeting_46 rfl ?_
      refine kw_iadd dX1_firstMeeting_48 ?_
      obtain ⟨r7, er7, h⟩ := Option.bind_eq_some_iff.mp h
      obtain ⟨ur7, eur7, er7⟩ := Option.bind_eq_some_iff.mp er7
      obtain ⟨fsr7, hor7⟩ := kp_ob_inv eur7
      refine kw_callV (As := [.int x4, .int (v6 + x5)]) (S := []) kcX2 cbX1_firstMeeting_X2_turnedNext lkX1_51 imX2_turnedNext seX2_X2_turnedNext_X2_turnedNext rfl rfl (Nat.le_of_ble_eq_true rfl) dX1_firstMeeting_49 hor7 (X2_turnedNext_c G hp x1 x4 (v6 + x5) _ er7) (fun vv hh hq => ?_)
      rw [hq.1, hq.2]
      show kw_V G mX1_firstMeeting 52 [none, some (.ref x1), some (.int x2), some (.int x3), some (.int x4), some (.int x5)] [.int r7] hp Q
      refine kw_istore (L' := [none, some (.ref x1), some (.int x2), some (.int x3), some (.int r7), some (.int x5)]) dX1_firstMeeting_52 (by decide) rfl ?_
      refine kv_iinc (w := nI 1) (L' := [none, some (.ref x1), some (.int x2), some (.int x3), some (.int r7), some (.int (x5 + (nI 1)))]) dX1_firstMeeting_54 (by decide) rfl (by decide) rfl ?_
      refine kw_goto 9 dX1_firstMeeting_57 (by decide) ?_
      have h := Option.some.inj h
      subst h
      exact hK
    · have h := (if_neg c9).symm.trans h
      refine kw_mask [true, false, false, false, false, true] (L' := [none, none, none, none, none, some (.int x5)]) rfl ?_
      obtain ⟨r8, hr8, hrr8⟩ := Option.map_eq_some_iff.mp h
      subst hrr8
      exact X1_firstMeeting_J36_t G Q hp x5 r8 hr8 hK
def X1_firstMeeting_B9 (hp : kw_H) (x1 : Nat) (x2 : Int32) (x3 : Int32) (z : Int32 × Int32) : Option (((Int32 × Int32) ⊕ (Int32))) := X1_firstMeeting_b9 hp x1 x2 x3 z.1 z.2
theorem X1_firstMeeting_L9_t (G : kw_G) (Q : Option Value → kw_H → Prop) (hp : kw_H) (x1 : Nat) (x2 : Int32) (x3 : Int32) (n : Nat) (z : Int32 × Int32) (r : Int32) (h : kp_lp (X1_firstMeeting_B9 hp x1 x2 x3) n z = some r) (hK : Q (some (.int r)) hp) : kw_V G mX1_firstMeeting 9 [none, some (.ref x1), some (.int x2), some (.int x3), some (.int z.1), some (.int z.2)] [] hp Q :=
  kv_lp _ (fun z => kw_V G mX1_firstMeeting 9 [none, some (.ref x1), some (.int x2), some (.int x3), some (.int z.1), some (.int z.2)] [] hp Q) (fun r => Q (some (.int r)) hp) (fun z x hb hx => X1_firstMeeting_b9_t G Q hp x1 x2 x3 z.1 z.2 x hb (by cases x <;> exact hx)) n z r h hK
def X1_firstMeeting_F (hp : kw_H) (x0 : Nat) (x1 : Nat) (x2 : Int32) (x3 : Int32) : Option (Int32) :=
  (kp_gI hp x1 [2] 8).bind fun v1 =>
  kp_lp (X1_firstMeeting_B9 hp x1 x2 x3) 2000 (v1, nI 0)
set_option maxRecDepth 100000 in
set_option maxHeartbeats 4000000 in
theorem X1_firstMeeting_c (G : kw_G) (hp : kw_H) (x0 : Nat) (x1 : Nat) (x2 : Int32) (x3 : Int32) (r : Int32) (h : X1_firstMeeting_F hp x0 x1 x2 x3 = some r) : kw_Met G mX1_firstMeeting [.ref x0, .ref x1, .int x2, .int x3] hp (fun v h2 => v = some (.int r) ∧ h2 = hp) := by
  refine kw_met (L := [some (.ref x0), some (.ref x1), some (.int x2), some (.int x3), none, none]) (r := 2) (by decide +kernel) (Nat.le_of_ble_eq_true rfl) rfl ?_
  unfold X1_firstMeeting_F at h
  obtain ⟨Q, hQ⟩ : ∃ Q : Option Value → kw_H → Prop, Q = (fun v h2 => v = some (.int r) ∧ h2 = hp) := ⟨_, rfl⟩
  have hK : Q (some (.int r)) hp := by rw [hQ]; exact ⟨rfl, rfl⟩
  rw [← hQ]
  clear hQ
  refine kw_aload_n dX1_firstMeeting_0 rfl ?_
  obtain ⟨v1, ev1, h⟩ := Option.bind_eq_some_iff.mp h
  refine kv_gI gfX1_29 dX1_firstMeeting_1 ev1 ?_
  refine kw_istore (L' := [some (.ref x0), some (.ref x1), some (.int x2), some (.int x3), some (.int v1), none]) dX1_firstMeeting_4 (by decide) rfl ?_
  refine kw_iconst (v := nI 0) dX1_firstMeeting_6 (by decide) ?_
  refine kw_istore (L' := [some (.ref x0), some (.ref x1), some (.int x2), some (.int x3), some (.int v1), some (.int (nI 0))]) dX1_firstMeeting_7 (by decide) rfl ?_
  refine kw_mask [false, true, true, true, true, true] (L' := [none, some (.ref x1), some (.int x2), some (.int x3), some (.int v1), some (.int (nI 0))]) rfl ?_
  exact X1_firstMeeting_L9_t G Q hp x1 x2 x3 _ (v1, nI 0) _ h hK
/-! java/util/Arrays.fill([II)V -/
def J7_fill_53178_K5 (G : kw_G) (Q : Option Value → kw_H → Prop) (x0 : Nat) (x1 : Int32) (x3 : Int32) (r : (Int32 × kw_H) ⊕ (kw_H)) : Prop := match r with
  | .inl z => kw_V G mJ7_fill_53178 5 [some (.ref x0), some (.int x1), some (.int z.1), some (.int x3)] [] z.2 Q
  | .inr r => Q none r
def J7_fill_53178_J20 (hp : kw_H) : Option (kw_H) :=
  some (hp)
set_option maxRecDepth 100000 in
set_option maxHeartbeats 4000000 in
theorem J7_fill_53178_J20_t (G : kw_G) (Q : Option Value → kw_H → Prop) (hp : kw_H) (r : kw_H) (h : J7_fill_53178_J20 hp = some r) (hK : Q none r) : kw_V G mJ7_fill_53178 20 [none, none, none, none] [] hp Q := by
  unfold J7_fill_53178_J20 at h
  have h := Option.some.inj h
  subst h
  exact kw_vret rfl dJ7_fill_53178_20 hK
def J7_fill_53178_b5 (x0 : Nat) (x1 : Int32) (x3 : Int32) (x2 : Int32) (hp : kw_H) : Option (((Int32 × kw_H) ⊕ (kw_H))) :=
  (if x3 ≤ x2 then
  (J7_fill_53178_J20 hp).map (fun r => .inr (r))
else
  (kp_stI hp x0 x2 x1).bind fun hp3 =>
  some (.inl (x2 + (nI 1), hp3)))
set_option maxRecDepth 100000 in
set_option maxHeartbeats 4000000 in
theorem J7_fill_53178_b5_t (G : kw_G) (Q : Option Value → kw_H → Prop) (x0 : Nat) (x1 : Int32) (x3 : Int32) (x2 : Int32) (hp : kw_H) (r : ((Int32 × kw_H) ⊕ (kw_H))) (h : J7_fill_53178_b5 x0 x1 x3 x2 hp = some r) (hK : J7_fill_53178_K5 G Q x0 x1 x3 r) : kw_V G mJ7_fill_53178 5 [some (.ref x0), some (.int x1), some (.int x2), some (.int x3)] [] hp Q := by
  unfold J7_fill_53178_b5 at h
  refine kw_iload_n dJ7_fill_53178_5 rfl ?_
  refine kw_iload_n dJ7_fill_53178_6 rfl ?_
  refine kw_icmp_ge 20 dJ7_fill_53178_7 (by decide) (fun c4 => ?_) (fun c4 => ?_)
  · have h := (if_pos c4).symm.trans h
    refine kw_mask [false, false, false, false] (L' := [none, none, none, none]) rfl ?_
    obtain ⟨r2, hr2, hrr2⟩ := Option.map_eq_some_iff.mp h
    subst hrr2
    exact J7_fill_53178_J20_t G Q hp r2 hr2 hK
  · have h := (if_neg c4).symm.trans h
    refine kw_aload_n dJ7_fill_53178_10 rfl ?_
    refine kw_iload_n dJ7_fill_53178_11 rfl ?_
    refine kw_iload_n dJ7_fill_53178_12 rfl ?_
    obtain ⟨hp3, ehp3, h⟩ := Option.bind_eq_some_iff.mp h
    refine kv_stI dJ7_fill_53178_13 ehp3 ?_
    refine kv_iinc (w := nI 1) (L' := [some (.ref x0), some (.int x1), some (.int (x2 + (nI 1))), some (.int x3)]) dJ7_fill_53178_14 (by decide) rfl (by decide) rfl ?_
    refine kw_goto 5 dJ7_fill_53178_17 (by decide) ?_
    have h := Option.some.inj h
    subst h
    exact hK
def J7_fill_53178_B5 (x0 : Nat) (x1 : Int32) (x3 : Int32) (z : Int32 × kw_H) : Option (((Int32 × kw_H) ⊕ (kw_H))) := J7_fill_53178_b5 x0 x1 x3 z.1 z.2
theorem J7_fill_53178_L5_t (G : kw_G) (Q : Option Value → kw_H → Prop) (x0 : Nat) (x1 : Int32) (x3 : Int32) (n : Nat) (z : Int32 × kw_H) (r : kw_H) (h : kp_lp (J7_fill_53178_B5 x0 x1 x3) n z = some r) (hK : Q none r) : kw_V G mJ7_fill_53178 5 [some (.ref x0), some (.int x1), some (.int z.1), some (.int x3)] [] z.2 Q :=
  kv_lp _ (fun z => kw_V G mJ7_fill_53178 5 [some (.ref x0), some (.int x1), some (.int z.1), some (.int x3)] [] z.2 Q) (fun r => Q none r) (fun z x hb hx => J7_fill_53178_b5_t G Q x0 x1 x3 z.1 z.2 x hb (by cases x <;> exact hx)) n z r h hK
def J7_fill_53178_F (hp : kw_H) (x0 : Nat) (x1 : Int32) : Option (kw_H) :=
  (kp_len hp x0).bind fun v1 =>
  kp_lp (J7_fill_53178_B5 x0 x1 v1) 2000 (nI 0, hp)
set_option maxRecDepth 100000 in
set_option maxHeartbeats 4000000 in
theorem J7_fill_53178_c (G : kw_G) (hp : kw_H) (x0 : Nat) (x1 : Int32) (r : kw_H) (h : J7_fill_53178_F hp x0 x1 = some r) : kw_Met G mJ7_fill_53178 [.ref x0, .int x1] hp (fun v h2 => v = none ∧ h2 = r) := by
  refine kw_met (L := [some (.ref x0), some (.int x1), none, none]) (r := 2) (by decide +kernel) (Nat.le_of_ble_eq_true rfl) rfl ?_
  unfold J7_fill_53178_F at h
  obtain ⟨Q, hQ⟩ : ∃ Q : Option Value → kw_H → Prop, Q = (fun v h2 => v = none ∧ h2 = r) := ⟨_, rfl⟩
  have hK : Q none r := by rw [hQ]; exact ⟨rfl, rfl⟩
  rw [← hQ]
  clear hQ
  refine kw_iconst (v := nI 0) dJ7_fill_53178_0 (by decide) ?_
  refine kw_istore_n (L' := [some (.ref x0), some (.int x1), some (.int (nI 0)), none]) dJ7_fill_53178_1 (by decide) rfl ?_
  refine kw_aload_n dJ7_fill_53178_2 rfl ?_
  obtain ⟨v1, ev1, h⟩ := Option.bind_eq_some_iff.mp h
  refine kv_len dJ7_fill_53178_3 ev1 ?_
  refine kw_istore_n (L' := [some (.ref x0), some (.int x1), some (.int (nI 0)), some (.int v1)]) dJ7_fill_53178_4 (by decide) rfl ?_
  exact J7_fill_53178_L5_t G Q x0 x1 v1 _ (nI 0, hp) _ h hK
/-! KitchenWheels$Kitchen.jobsOf(III)I -/
def X2_jobsOf_K6 (G : kw_G) (Q : Option Value → kw_H → Prop) (hp : kw_H) (x0 : Nat) (x1 : Int32) (x2 : Int32) (x3 : Int32) (r : (Int32 × Int32) ⊕ (Int32)) : Prop := match r with
  | .inl z => kw_V G mX2_jobsOf 6 [some (.ref x0), some (.int x1), some (.int x2), some (.int x3), some (.int z.1), some (.int z.2)] [] hp Q
  | .inr r => Q (some (.int r)) hp
def X2_jobsOf_J47 (hp : kw_H) (x4 : Int32) : Option (Int32) :=
  some (x4)
set_option maxRecDepth 100000 in
set_option maxHeartbeats 4000000 in
theorem X2_jobsOf_J47_t (G : kw_G) (Q : Option Value → kw_H → Prop) (hp : kw_H) (x4 : Int32) (r : Int32) (h : X2_jobsOf_J47 hp x4 = some r) (hK : Q (some (.int r)) hp) : kw_V G mX2_jobsOf 47 [none, none, none, none, some (.int x4), none] [] hp Q := by
  unfold X2_jobsOf_J47 at h
  refine kw_iload dX2_jobsOf_47 rfl ?_
  have h := Option.some.inj h
  subst h
  exact kw_iret rfl dX2_jobsOf_49 hK
def X2_jobsOf_J41 (hp : kw_H) (x0 : Nat) (x1 : Int32) (x2 : Int32) (x3 : Int32) (x4 : Int32) (x5 : Int32) : Option (((Int32 × Int32) ⊕ (Int32))) :=
  some (.inl (x4, x5 + (nI 1)))
set_option maxRecDepth 100000 in
set_option maxHeartbeats 4000000 in
theorem X2_jobsOf_J41_t (G : kw_G) (Q : Option Value → kw_H → Prop) (hp : kw_H) (x0 : Nat) (x1 : Int32) (x2 : Int32) (x3 : Int32) (x4 : Int32) (x5 : Int32) (r : ((Int32 × Int32) ⊕ (Int32))) (h : X2_jobsOf_J41 hp x0 x1 x2 x3 x4 x5 = some r) (hK : X2_jobsOf_K6 G Q hp x0 x1 x2 x3 r) : kw_V G mX2_jobsOf 41 [some (.ref x0), some (.int x1), some (.int x2), some (.int x3), some (.int x4), some (.int x5)] [] hp Q := by
  unfold X2_jobsOf_J41 at h
  refine kv_iinc (w := nI 1) (L' := [some (.ref x0), some (.int x1), some (.int x2), some (.int x3), some (.int x4), some (.int (x5 + (nI 1)))]) dX2_jobsOf_41 (by decide) rfl (by decide) rfl ?_
  refine kw_goto 6 dX2_jobsOf_44 (by decide) ?_
  have h := Option.some.inj h
  subst h
  exact hK
def X2_jobsOf_b6 (hp : kw_H) (x0 : Nat) (x1 : Int32) (x2 : Int32) (x3 : Int32) (x4 : Int32) (x5 : Int32) : Option (((Int32 × Int32) ⊕ (Int32))) :=
  (kp_gI hp x0 [2] 4).bind fun v1 =>
  (if v1 ≤ x5 then
  (X2_jobsOf_J47 hp x4).map (fun r => .inr (r))
else
  ((kp_ob hp x0 2).bind fun _ => X2_doerIn_F hp x0 x5 x2 x3).bind fun r3 =>
  (if r3 = x1 then
  ((kp_ob hp x0 2).bind fun _ => X2_jobHad_F hp x0 x5 x2).bind fun r4 =>
  X2_jobsOf_J41 hp x0 x1 x2 x3 (x4 ||| ((nI 1) <<< (r4 &&& 31))) x5
else
  X2_jobsOf_J41 hp x0 x1 x2 x3 x4 x5))
set_option maxRecDepth 100000 in
set_option maxHeartbeats 4000000 in
theorem X2_jobsOf_b6_t (G : kw_G) (Q : Option Value → kw_H → Prop) (hp : kw_H) (x0 : Nat) (x1 : Int32) (x2 : Int32) (x3 : Int32) (x4 : Int32) (x5 : Int32) (r : ((Int32 × Int32) ⊕ (Int32))) (h : X2_jobsOf_b6 hp x0 x1 x2 x3 x4 x5 = some r) (hK : X2_jobsOf_K6 G Q hp x0 x1 x2 x3 r) : kw_V G mX2_jobsOf 6 [some (.ref x0), some (.int x1), some (.int x2), some (.int x3), some (.int x4), some (.int x5)] [] hp Q := by
  unfold X2_jobsOf_b6 at h
  refine kw_iload dX2_jobsOf_6 rfl ?_
  refine kw_aload_n dX2_jobsOf_8 rfl ?_
  obtain ⟨v1, ev1, h⟩ := Option.bind_eq_some_iff.mp h
  refine kv_gI gfX2_27 dX2_jobsOf_9 ev1 ?_
  refine kw_icmp_ge 47 dX2_jobsOf_12 (by decide) (fun c6 => ?_) (fun c6 => ?_)
  · have h := (if_pos c6).symm.trans h
    refine kw_mask [false, false, false, false, true, false] (L' := [none, none, none, none, some (.int x4), none]) rfl ?_
    obtain ⟨r2, hr2, hrr2⟩ := Option.map_eq_some_iff.mp h
    subst hrr2
    exact X2_jobsOf_J47_t G Q hp x4 r2 hr2 hK
  · have h := (if_neg c6).symm.trans h
    refine kw_aload_n dX2_jobsOf_15 rfl ?_
    refine kw_iload dX2_jobsOf_16 rfl ?_
    refine kw_iload_n dX2_jobsOf_18 rfl ?_
    refine kw_iload_n dX2_jobsOf_19 rfl ?_
    obtain ⟨r3, er3, h⟩ := Option.bind_eq_some_iff.mp h
    obtain ⟨ur3, eur3, er3⟩ := Option.bind_eq_some_iff.mp er3
    obtain ⟨fsr3, hor3⟩ := kp_ob_inv eur3
    refine kw_callV (As := [.int x5, .int x2, .int x3]) (S := []) kcX2 cbX2_jobsOf_X2_doerIn lkX2_71 imX2_doerIn seX2_X2_doerIn_X2_doerIn rfl rfl (Nat.le_of_ble_eq_true rfl) dX2_jobsOf_20 hor3 (X2_doerIn_c G hp x0 x5 x2 x3 _ er3) (fun vv hh hq => ?_)
    rw [hq.1, hq.2]
    show kw_V G mX2_jobsOf 23 [some (.ref x0), some (.int x1), some (.int x2), some (.int x3), some (.int x4), some (.int x5)] [.int r3] hp Q
    refine kw_iload_n dX2_jobsOf_23 rfl ?_
    refine kw_icmp_ne 41 dX2_jobsOf_24 (by decide) (fun c5 => ?_) (fun c5 => ?_)
    · have h := (if_neg c5).symm.trans h
      exact X2_jobsOf_J41_t G Q hp x0 x1 x2 x3 x4 x5 _ h hK
    · have h := (if_pos c5).symm.trans h
      refine kw_iload dX2_jobsOf_27 rfl ?_
      refine kw_iconst (v := nI 1) dX2_jobsOf_29 (by decide) ?_
      refine kw_aload_n dX2_jobsOf_30 rfl ?_
      refine kw_iload dX2_jobsOf_31 rfl ?_
      refine kw_iload_n dX2_jobsOf_33 rfl ?_
      obtain ⟨r4, er4, h⟩ := Option.bind_eq_some_iff.mp h
      obtain ⟨ur4, eur4, er4⟩ := Option.bind_eq_some_iff.mp er4
      obtain ⟨fsr4, hor4⟩ := kp_ob_inv eur4
      refine kw_callV (As := [.int x5, .int x2]) (S := [.int (nI 1), .int x4]) kcX2 cbX2_jobsOf_X2_jobHad lkX2_64 imX2_jobHad seX2_X2_jobHad_X2_jobHad rfl rfl (Nat.le_of_ble_eq_true rfl) dX2_jobsOf_34 hor4 (X2_jobHad_c G hp x0 x5 x2 _ er4) (fun vv hh hq => ?_)
      rw [hq.1, hq.2]
      show kw_V G mX2_jobsOf 37 [some (.ref x0), some (.int x1), some (.int x2), some (.int x3), some (.int x4), some (.int x5)] [.int r4, .int (nI 1), .int x4] hp Q
      refine kw_ishl dX2_jobsOf_37 ?_
      refine kw_ior dX2_jobsOf_38 ?_
      refine kw_istore (L' := [some (.ref x0), some (.int x1), some (.int x2), some (.int x3), some (.int (x4 ||| ((nI 1) <<< (r4 &&& 31)))), some (.int x5)]) dX2_jobsOf_39 (by decide) rfl ?_
      exact X2_jobsOf_J41_t G Q hp x0 x1 x2 x3 (x4 ||| ((nI 1) <<< (r4 &&& 31))) x5 _ h hK
def X2_jobsOf_B6 (hp : kw_H) (x0 : Nat) (x1 : Int32) (x2 : Int32) (x3 : Int32) (z : Int32 × Int32) : Option (((Int32 × Int32) ⊕ (Int32))) := X2_jobsOf_b6 hp x0 x1 x2 x3 z.1 z.2
theorem X2_jobsOf_L6_t (G : kw_G) (Q : Option Value → kw_H → Prop) (hp : kw_H) (x0 : Nat) (x1 : Int32) (x2 : Int32) (x3 : Int32) (n : Nat) (z : Int32 × Int32) (r : Int32) (h : kp_lp (X2_jobsOf_B6 hp x0 x1 x2 x3) n z = some r) (hK : Q (some (.int r)) hp) : kw_V G mX2_jobsOf 6 [some (.ref x0), some (.int x1), some (.int x2), some (.int x3), some (.int z.1), some (.int z.2)] [] hp Q :=
  kv_lp _ (fun z => kw_V G mX2_jobsOf 6 [some (.ref x0), some (.int x1), some (.int x2), some (.int x3), some (.int z.1), some (.int z.2)] [] hp Q) (fun r => Q (some (.int r)) hp) (fun z x hb hx => X2_jobsOf_b6_t G Q hp x0 x1 x2 x3 z.1 z.2 x hb (by cases x <;> exact hx)) n z r h hK
def X2_jobsOf_F (hp : kw_H) (x0 : Nat) (x1 : Int32) (x2 : Int32) (x3 : Int32) : Option (Int32) :=
  kp_lp (X2_jobsOf_B6 hp x0 x1 x2 x3) 2000 (nI 0, nI 0)
set_option maxRecDepth 100000 in
set_option maxHeartbeats 4000000 in
theorem X2_jobsOf_c (G : kw_G) (hp : kw_H) (x0 : Nat) (x1 : Int32) (x2 : Int32) (x3 : Int32) (r : Int32) (h : X2_jobsOf_F hp x0 x1 x2 x3 = some r) : kw_Met G mX2_jobsOf [.ref x0, .int x1, .int x2, .int x3] hp (fun v h2 => v = some (.int r) ∧ h2 = hp) := by
  refine kw_met (L := [some (.ref x0), some (.int x1), some (.int x2), some (.int x3), none, none]) (r := 2) (by decide +kernel) (Nat.le_of_ble_eq_true rfl) rfl ?_
  unfold X2_jobsOf_F at h
  obtain ⟨Q, hQ⟩ : ∃ Q : Option Value → kw_H → Prop, Q = (fun v h2 => v = some (.int r) ∧ h2 = hp) := ⟨_, rfl⟩
  have hK : Q (some (.int r)) hp := by rw [hQ]; exact ⟨rfl, rfl⟩
  rw [← hQ]
  clear hQ
  refine kw_iconst (v := nI 0) dX2_jobsOf_0 (by decide) ?_
  refine kw_istore (L' := [some (.ref x0), some (.int x1), some (.int x2), some (.int x3), some (.int (nI 0)), none]) dX2_jobsOf_1 (by decide) rfl ?_
  refine kw_iconst (v := nI 0) dX2_jobsOf_3 (by decide) ?_
  refine kw_istore (L' := [some (.ref x0), some (.int x1), some (.int x2), some (.int x3), some (.int (nI 0)), some (.int (nI 0))]) dX2_jobsOf_4 (by decide) rfl ?_
  exact X2_jobsOf_L6_t G Q hp x0 x1 x2 x3 _ (nI 0, nI 0) _ h hK
/-! KitchenWheels$Kitchen.bitsOf([II)I -/
def X2_bitsOf_K4 (G : kw_G) (Q : Option Value → kw_H → Prop) (hp : kw_H) (x0 : Nat) (x1 : Int32) (r : (Int32 × Int32) ⊕ (Int32)) : Prop := match r with
  | .inl z => kw_V G mX2_bitsOf 4 [some (.ref x0), some (.int x1), some (.int z.1), some (.int z.2)] [] hp Q
  | .inr r => Q (some (.int r)) hp
def X2_bitsOf_J37 (hp : kw_H) (x2 : Int32) : Option (Int32) :=
  some (x2)
set_option maxRecDepth 100000 in
set_option maxHeartbeats 4000000 in
theorem X2_bitsOf_J37_t (G : kw_G) (Q : Option Value → kw_H → Prop) (hp : kw_H) (x2 : Int32) (r : Int32) (h : X2_bitsOf_J37 hp x2 = some r) (hK : Q (some (.int r)) hp) : kw_V G mX2_bitsOf 37 [none, none, some (.int x2), none] [] hp Q := by
  unfold X2_bitsOf_J37 at h
  refine kw_iload_n dX2_bitsOf_37 rfl ?_
  have h := Option.some.inj h
  subst h
  exact kw_iret rfl dX2_bitsOf_38 hK
def X2_bitsOf_J31 (hp : kw_H) (x0 : Nat) (x1 : Int32) (x2 : Int32) (x3 : Int32) : Option (((Int32 × Int32) ⊕ (Int32))) :=
  some (.inl (x2, x3 + (nI 1)))
set_option maxRecDepth 100000 in
set_option maxHeartbeats 4000000 in
theorem X2_bitsOf_J31_t (G : kw_G) (Q : Option Value → kw_H → Prop) (hp : kw_H) (x0 : Nat) (x1 : Int32) (x2 : Int32) (x3 : Int32) (r : ((Int32 × Int32) ⊕ (Int32))) (h : X2_bitsOf_J31 hp x0 x1 x2 x3 = some r) (hK : X2_bitsOf_K4 G Q hp x0 x1 r) : kw_V G mX2_bitsOf 31 [some (.ref x0), some (.int x1), some (.int x2), some (.int x3)] [] hp Q := by
  unfold X2_bitsOf_J31 at h
  refine kv_iinc (w := nI 1) (L' := [some (.ref x0), some (.int x1), some (.int x2), some (.int (x3 + (nI 1)))]) dX2_bitsOf_31 (by decide) rfl (by decide) rfl ?_
  refine kw_goto 4 dX2_bitsOf_34 (by decide) ?_
  have h := Option.some.inj h
  subst h
  exact hK
def X2_bitsOf_b4 (hp : kw_H) (x0 : Nat) (x1 : Int32) (x2 : Int32) (x3 : Int32) : Option (((Int32 × Int32) ⊕ (Int32))) :=
  (if x1 ≤ x3 then
  (X2_bitsOf_J37 hp x2).map (fun r => .inr (r))
else
  (kp_len hp x0).bind fun v2 =>
  (if v2 ≤ x3 then
  (X2_bitsOf_J37 hp x2).map (fun r => .inr (r))
else
  (kp_ldI hp x0 x3).bind fun v4 =>
  (if v4 = (nI 6) then
  X2_bitsOf_J31 hp x0 x1 x2 x3
else
  (kp_ldI hp x0 x3).bind fun v5 =>
  X2_bitsOf_J31 hp x0 x1 (x2 ||| ((nI 1) <<< (v5 &&& 31))) x3)))
set_option maxRecDepth 100000 in
set_option maxHeartbeats 4000000 in
theorem X2_bitsOf_b4_t (G : kw_G) (Q : Option Value → kw_H → Prop) (hp : kw_H) (x0 : Nat) (x1 : Int32) (x2 : Int32) (x3 : Int32) (r : ((Int32 × Int32) ⊕ (Int32))) (h : X2_bitsOf_b4 hp x0 x1 x2 x3 = some r) (hK : X2_bitsOf_K4 G Q hp x0 x1 r) : kw_V G mX2_bitsOf 4 [some (.ref x0), some (.int x1), some (.int x2), some (.int x3)] [] hp Q := by
  unfold X2_bitsOf_b4 at h
  refine kw_iload_n dX2_bitsOf_4 rfl ?_
  refine kw_iload_n dX2_bitsOf_5 rfl ?_
  refine kw_icmp_ge 37 dX2_bitsOf_6 (by decide) (fun c8 => ?_) (fun c8 => ?_)
  · have h := (if_pos c8).symm.trans h
    refine kw_mask [false, false, true, false] (L' := [none, none, some (.int x2), none]) rfl ?_
    obtain ⟨r1, hr1, hrr1⟩ := Option.map_eq_some_iff.mp h
    subst hrr1
    exact X2_bitsOf_J37_t G Q hp x2 r1 hr1 hK
  · have h := (if_neg c8).symm.trans h
    refine kw_iload_n dX2_bitsOf_9 rfl ?_
    refine kw_aload_n dX2_bitsOf_10 rfl ?_
    obtain ⟨v2, ev2, h⟩ := Option.bind_eq_some_iff.mp h
    refine kv_len dX2_bitsOf_11 ev2 ?_
    refine kw_icmp_ge 37 dX2_bitsOf_12 (by decide) (fun c7 => ?_) (fun c7 => ?_)
    · have h := (if_pos c7).symm.trans h
      refine kw_mask [false, false, true, false] (L' := [none, none, some (.int x2), none]) rfl ?_
      obtain ⟨r3, hr3, hrr3⟩ := Option.map_eq_some_iff.mp h
      subst hrr3
      exact X2_bitsOf_J37_t G Q hp x2 r3 hr3 hK
    · have h := (if_neg c7).symm.trans h
      refine kw_aload_n dX2_bitsOf_15 rfl ?_
      refine kw_iload_n dX2_bitsOf_16 rfl ?_
      obtain ⟨v4, ev4, h⟩ := Option.bind_eq_some_iff.mp h
      refine kv_ldI dX2_bitsOf_17 ev4 ?_
      refine kw_bipush (v := nI 6) dX2_bitsOf_18 (by decide) ?_
      refine kw_icmp_eq 31 dX2_bitsOf_20 (by decide) (fun c6 => ?_) (fun c6 => ?_)
      · have h := (if_pos c6).symm.trans h
        exact X2_bitsOf_J31_t G Q hp x0 x1 x2 x3 _ h hK
      · have h := (if_neg c6).symm.trans h
        refine kw_iload_n dX2_bitsOf_23 rfl ?_
        refine kw_iconst (v := nI 1) dX2_bitsOf_24 (by decide) ?_
        refine kw_aload_n dX2_bitsOf_25 rfl ?_
        refine kw_iload_n dX2_bitsOf_26 rfl ?_
        obtain ⟨v5, ev5, h⟩ := Option.bind_eq_some_iff.mp h
        refine kv_ldI dX2_bitsOf_27 ev5 ?_
        refine kw_ishl dX2_bitsOf_28 ?_
        refine kw_ior dX2_bitsOf_29 ?_
        refine kw_istore_n (L' := [some (.ref x0), some (.int x1), some (.int (x2 ||| ((nI 1) <<< (v5 &&& 31)))), some (.int x3)]) dX2_bitsOf_30 (by decide) rfl ?_
        exact X2_bitsOf_J31_t G Q hp x0 x1 (x2 ||| ((nI 1) <<< (v5 &&& 31))) x3 _ h hK
def X2_bitsOf_B4 (hp : kw_H) (x0 : Nat) (x1 : Int32) (z : Int32 × Int32) : Option (((Int32 × Int32) ⊕ (Int32))) := X2_bitsOf_b4 hp x0 x1 z.1 z.2
theorem X2_bitsOf_L4_t (G : kw_G) (Q : Option Value → kw_H → Prop) (hp : kw_H) (x0 : Nat) (x1 : Int32) (n : Nat) (z : Int32 × Int32) (r : Int32) (h : kp_lp (X2_bitsOf_B4 hp x0 x1) n z = some r) (hK : Q (some (.int r)) hp) : kw_V G mX2_bitsOf 4 [some (.ref x0), some (.int x1), some (.int z.1), some (.int z.2)] [] hp Q :=
  kv_lp _ (fun z => kw_V G mX2_bitsOf 4 [some (.ref x0), some (.int x1), some (.int z.1), some (.int z.2)] [] hp Q) (fun r => Q (some (.int r)) hp) (fun z x hb hx => X2_bitsOf_b4_t G Q hp x0 x1 z.1 z.2 x hb (by cases x <;> exact hx)) n z r h hK
def X2_bitsOf_F (hp : kw_H) (x0 : Nat) (x1 : Int32) : Option (Int32) :=
  kp_lp (X2_bitsOf_B4 hp x0 x1) 2000 (nI 0, nI 0)
set_option maxRecDepth 100000 in
set_option maxHeartbeats 4000000 in
theorem X2_bitsOf_c (G : kw_G) (hp : kw_H) (x0 : Nat) (x1 : Int32) (r : Int32) (h : X2_bitsOf_F hp x0 x1 = some r) : kw_Met G mX2_bitsOf [.ref x0, .int x1] hp (fun v h2 => v = some (.int r) ∧ h2 = hp) := by
  refine kw_met (L := [some (.ref x0), some (.int x1), none, none]) (r := 2) (by decide +kernel) (Nat.le_of_ble_eq_true rfl) rfl ?_
  unfold X2_bitsOf_F at h
  obtain ⟨Q, hQ⟩ : ∃ Q : Option Value → kw_H → Prop, Q = (fun v h2 => v = some (.int r) ∧ h2 = hp) := ⟨_, rfl⟩
  have hK : Q (some (.int r)) hp := by rw [hQ]; exact ⟨rfl, rfl⟩
  rw [← hQ]
  clear hQ
  refine kw_iconst (v := nI 0) dX2_bitsOf_0 (by decide) ?_
  refine kw_istore_n (L' := [some (.ref x0), some (.int x1), some (.int (nI 0)), none]) dX2_bitsOf_1 (by decide) rfl ?_
  refine kw_iconst (v := nI 0) dX2_bitsOf_2 (by decide) ?_
  refine kw_istore_n (L' := [some (.ref x0), some (.int x1), some (.int (nI 0)), some (.int (nI 0))]) dX2_bitsOf_3 (by decide) rfl ?_
  exact X2_bitsOf_L4_t G Q hp x0 x1 _ (nI 0, nI 0) _ h hK
/-! KitchenWheels$Kitchen.jobsOnIt()I -/
def X2_jobsOnIt_F (hp : kw_H) (x0 : Nat) : Option (Int32) :=
  (kp_gR hp x0 [2] 1).bind fun v1 =>
  (kp_gI hp x0 [2] 5).bind fun v2 =>
  (X2_bitsOf_F hp v1 v2).bind fun r3 =>
  some (r3)
set_option maxRecDepth 100000 in
set_option maxHeartbeats 4000000 in
theorem X2_jobsOnIt_c (G : kw_G) (hp : kw_H) (x0 : Nat) (r : Int32) (h : X2_jobsOnIt_F hp x0 = some r) : kw_Met G mX2_jobsOnIt [.ref x0] hp (fun v h2 => v = some (.int r) ∧ h2 = hp) := by
  refine kw_met (L := [some (.ref x0)]) (r := 0) (by decide +kernel) (Nat.le_of_ble_eq_true rfl) rfl ?_
  unfold X2_jobsOnIt_F at h
  obtain ⟨Q, hQ⟩ : ∃ Q : Option Value → kw_H → Prop, Q = (fun v h2 => v = some (.int r) ∧ h2 = hp) := ⟨_, rfl⟩
  have hK : Q (some (.int r)) hp := by rw [hQ]; exact ⟨rfl, rfl⟩
  rw [← hQ]
  clear hQ
  refine kw_aload_n dX2_jobsOnIt_0 rfl ?_
  obtain ⟨v1, ev1, h⟩ := Option.bind_eq_some_iff.mp h
  refine kv_gR gfX2_15 dX2_jobsOnIt_1 ev1 ?_
  refine kw_aload_n dX2_jobsOnIt_4 rfl ?_
  obtain ⟨v2, ev2, h⟩ := Option.bind_eq_some_iff.mp h
  refine kv_gI gfX2_37 dX2_jobsOnIt_5 ev2 ?_
  obtain ⟨r3, er3, h⟩ := Option.bind_eq_some_iff.mp h
  refine kw_callS (As := [.ref v1, .int v2]) (S := []) cbX2_jobsOnIt_X2_bitsOf lkX2_92 stX2_bitsOf rfl rfl (Nat.le_of_ble_eq_true rfl) dX2_jobsOnIt_8 (X2_bitsOf_c G hp v1 v2 _ er3) (fun vv hh hq => ?_)
  rw [hq.1, hq.2]
  show kw_V G mX2_jobsOnIt 11 [some (.ref x0)] [.int r3] hp Q
  have h := Option.some.inj h
  subst h
  exact kw_iret rfl dX2_jobsOnIt_11 hK
/-! KitchenWheels$Kitchen.peopleOnIt()I -/
def X2_peopleOnIt_F (hp : kw_H) (x0 : Nat) : Option (Int32) :=
  (kp_gR hp x0 [2] 0).bind fun v1 =>
  (kp_gI hp x0 [2] 4).bind fun v2 =>
  (X2_bitsOf_F hp v1 v2).bind fun r3 =>
  some (r3)
set_option maxRecDepth 100000 in
set_option maxHeartbeats 4000000 in
theorem X2_peopleOnIt_c (G : kw_G) (hp : kw_H) (x0 : Nat) (r : Int32) (h : X2_peopleOnIt_F hp x0 = some r) : kw_Met G mX2_peopleOnIt [.ref x0] hp (fun v h2 => v = some (.int r) ∧ h2 = hp) := by
  refine kw_met (L := [some (.ref x0)]) (r := 0) (by decide +kernel) (Nat.le_of_ble_eq_true rfl) rfl ?_
  unfold X2_peopleOnIt_F at h
  obtain ⟨Q, hQ⟩ : ∃ Q : Option Value → kw_H → Prop, Q = (fun v h2 => v = some (.int r) ∧ h2 = hp) := ⟨_, rfl⟩
  have hK : Q (some (.int r)) hp := by rw [hQ]; exact ⟨rfl, rfl⟩
  rw [← hQ]
  clear hQ
  refine kw_aload_n dX2_peopleOnIt_0 rfl ?_
  obtain ⟨v1, ev1, h⟩ := Option.bind_eq_some_iff.mp h
  refine kv_gR gfX2_9 dX2_peopleOnIt_1 ev1 ?_
  refine kw_aload_n dX2_peopleOnIt_4 rfl ?_
  obtain ⟨v2, ev2, h⟩ := Option.bind_eq_some_iff.mp h
  refine kv_gI gfX2_27 dX2_peopleOnIt_5 ev2 ?_
  obtain ⟨r3, er3, h⟩ := Option.bind_eq_some_iff.mp h
  refine kw_callS (As := [.ref v1, .int v2]) (S := []) cbX2_peopleOnIt_X2_bitsOf lkX2_92 stX2_bitsOf rfl rfl (Nat.le_of_ble_eq_true rfl) dX2_peopleOnIt_8 (X2_bitsOf_c G hp v1 v2 _ er3) (fun vv hh hq => ?_)
  rw [hq.1, hq.2]
  show kw_V G mX2_peopleOnIt 11 [some (.ref x0)] [.int r3] hp Q
  have h := Option.some.inj h
  subst h
  exact kw_iret rfl dX2_peopleOnIt_11 hK
/-! KitchenWheels$Foreteller.weeksUntilAllMet(LKitchenWheels$Kitchen;)I -/
def X1_weeksUntilAllMet_K38 (G : kw_G) (Q : Option Value → kw_H → Prop) (x0 : Nat) (x1 : Nat) (x2 : Int32) (x3 : Int32) (r : (Int32 × Int32 × kw_H) ⊕ (Int32 × kw_H)) : Prop := match r with
  | .inl z => kw_V G mX1_weeksUntilAllMet 38 [some (.ref x0), some (.ref x1), some (.int x2), some (.int x3), some (.int z.1), some (.int z.2.1), none, none] [] z.2.2 Q
  | .inr r => Q (some (.int r.1)) r.2
def X1_weeksUntilAllMet_J151 (hp : kw_H) : Option (Int32 × kw_H) :=
  some (((-1000000), hp))
set_option maxRecDepth 100000 in
set_option maxHeartbeats 4000000 in
theorem X1_weeksUntilAllMet_J151_t (G : kw_G) (Q : Option Value → kw_H → Prop) (hp : kw_H) (r : Int32 × kw_H) (h : X1_weeksUntilAllMet_J151 hp = some r) (hK : Q (some (.int r.1)) r.2) : kw_V G mX1_weeksUntilAllMet 151 [none, none, none, none, none, none, none, none] [] hp Q := by
  unfold X1_weeksUntilAllMet_J151 at h
  refine kw_ldc (v := (-1000000)) dX1_weeksUntilAllMet_151 ckX1_61 ?_
  have h := Option.some.inj h
  subst h
  exact kw_iret rfl dX1_weeksUntilAllMet_153 hK
def X1_weeksUntilAllMet_K51 (G : kw_G) (Q : Option Value → kw_H → Prop) (x0 : Nat) (x1 : Nat) (x2 : Int32) (x3 : Int32) (x4 : Int32) (x5 : Int32) (r : (Int32 × Int32 × kw_H) ⊕ (((Int32 × Int32 × kw_H) ⊕ (Int32 × kw_H)))) : Prop := match r with
  | .inl z => kw_V G mX1_weeksUntilAllMet 51 [some (.ref x0), some (.ref x1), some (.int x2), some (.int x3), some (.int x4), some (.int x5), some (.int z.1), some (.int z.2.1)] [] z.2.2 Q
  | .inr r => X1_weeksUntilAllMet_K38 G Q x0 x1 x2 x3 r
def X1_weeksUntilAllMet_J125 (hp : kw_H) (x5 : Int32) : Option (Int32 × kw_H) :=
  some ((x5 + (nI 1), hp))
set_option maxRecDepth 100000 in
set_option maxHeartbeats 4000000 in
theorem X1_weeksUntilAllMet_J125_t (G : kw_G) (Q : Option Value → kw_H → Prop) (hp : kw_H) (x5 : Int32) (r : Int32 × kw_H) (h : X1_weeksUntilAllMet_J125 hp x5 = some r) (hK : Q (some (.int r.1)) r.2) : kw_V G mX1_weeksUntilAllMet 125 [none, none, none, none, none, some (.int x5), none, none] [] hp Q := by
  unfold X1_weeksUntilAllMet_J125 at h
  refine kw_iload dX1_weeksUntilAllMet_125 rfl ?_
  refine kw_iconst (v := nI 1) dX1_weeksUntilAllMet_127 (by decide) ?_
  refine kw_iadd dX1_weeksUntilAllMet_128 ?_
  have h := Option.some.inj h
  subst h
  exact kw_iret rfl dX1_weeksUntilAllMet_129 hK
def X1_weeksUntilAllMet_J120 (hp : kw_H) (x0 : Nat) (x1 : Nat) (x2 : Int32) (x3 : Int32) (x4 : Int32) (x5 : Int32) (x6 : Int32) : Option (((Int32 × Int32 × kw_H) ⊕ (Int32 × kw_H))) :=
  (if x6 = 0 then
  (kp_gI hp x1 [2] 7).bind fun v7 =>
  ((kp_ob hp x1 2).bind fun _ => X2_turnedNext_F hp x1 x4 (v7 + x5)).bind fun r8 =>
  some (.inl (r8, x5 + (nI 1), hp))
else
  (X1_weeksUntilAllMet_J125 hp x5).map (fun r => .inr (r)))
set_option maxRecDepth 100000 in
set_option maxHeartbeats 4000000 in
theorem X1_weeksUntilAllMet_J120_t (G : kw_G) (Q : Option Value → kw_H → Prop) (hp : kw_H) (x0 : Nat) (x1 : Nat) (x2 : Int32) (x3 : Int32) (x4 : Int32) (x5 : Int32) (x6 : Int32) (r : ((Int32 × Int32 × kw_H) ⊕ (Int32 × kw_H))) (h : X1_weeksUntilAllMet_J120 hp x0 x1 x2 x3 x4 x5 x6 = some r) (hK : X1_weeksUntilAllMet_K38 G Q x0 x1 x2 x3 r) : kw_V G mX1_weeksUntilAllMet 120 [some (.ref x0), some (.ref x1), some (.int x2), some (.int x3), some (.int x4), some (.int x5), some (.int x6), none] [] hp Q := by
  unfold X1_weeksUntilAllMet_J120 at h
  refine kw_iload dX1_weeksUntilAllMet_120 rfl ?_
  refine kw_if_eq 130 dX1_weeksUntilAllMet_122 (by decide) (fun c10 => ?_) (fun c10 => ?_)
  · have h := (if_pos c10).symm.trans h
    refine kw_aload_n dX1_weeksUntilAllMet_130 rfl ?_
    refine kw_iload dX1_weeksUntilAllMet_131 rfl ?_
    refine kw_aload_n dX1_weeksUntilAllMet_133 rfl ?_
    obtain ⟨v7, ev7, h⟩ := Option.bind_eq_some_iff.mp h
    refine kv_gI gfX1_48 dX1_weeksUntilAllMet_134 ev7 ?_
    refine kw_iload dX1_weeksUntilAllMet_137 rfl ?_
    refine kw_iadd dX1_weeksUntilAllMet_139 ?_
    obtain ⟨r8, er8, h⟩ := Option.bind_eq_some_iff.mp h
    obtain ⟨ur8, eur8, er8⟩ := Option.bind_eq_some_iff.mp er8
    obtain ⟨fsr8, hor8⟩ := kp_ob_inv eur8
    refine kw_callV (As := [.int x4, .int (v7 + x5)]) (S := []) kcX2 cbX1_weeksUntilAllMet_X2_turnedNext lkX1_51 imX2_turnedNext seX2_X2_turnedNext_X2_turnedNext rfl rfl (Nat.le_of_ble_eq_true rfl) dX1_weeksUntilAllMet_140 hor8 (X2_turnedNext_c G hp x1 x4 (v7 + x5) _ er8) (fun vv hh hq => ?_)
    rw [hq.1, hq.2]
    show kw_V G mX1_weeksUntilAllMet 143 [some (.ref x0), some (.ref x1), some (.int x2), some (.int x3), some (.int x4), some (.int x5), some (.int x6), none] [.int r8] hp Q
    refine kw_istore (L' := [some (.ref x0), some (.ref x1), some (.int x2), some (.int x3), some (.int r8), some (.int x5), some (.int x6), none]) dX1_weeksUntilAllMet_143 (by decide) rfl ?_
    refine kv_iinc (w := nI 1) (L' := [some (.ref x0), some (.ref x1), some (.int x2), some (.int x3), some (.int r8), some (.int (x5 + (nI 1))), some (.int x6), none]) dX1_weeksUntilAllMet_145 (by decide) rfl (by decide) rfl ?_
    refine kw_goto 38 dX1_weeksUntilAllMet_148 (by decide) ?_
    refine kw_mask [true, true, true, true, true, true, false, true] (L' := [some (.ref x0), some (.ref x1), some (.int x2), some (.int x3), some (.int r8), some (.int (x5 + (nI 1))), none, none]) rfl ?_
    have h := Option.some.inj h
    subst h
    exact hK
  · have h := (if_neg c10).symm.trans h
    refine kw_mask [false, false, false, false, false, true, false, true] (L' := [none, none, none, none, none, some (.int x5), none, none]) rfl ?_
    obtain ⟨r9, hr9, hrr9⟩ := Option.map_eq_some_iff.mp h
    subst hrr9
    exact X1_weeksUntilAllMet_J125_t G Q hp x5 r9 hr9 hK
def X1_weeksUntilAllMet_J112 (hp : kw_H) (x0 : Nat) (x1 : Nat) (x2 : Int32) (x3 : Int32) (x4 : Int32) (x5 : Int32) (x7 : Int32) (s0 : Int32) : Option (((Int32 × Int32 × kw_H) ⊕ (((Int32 × Int32 × kw_H) ⊕ (Int32 × kw_H))))) :=
  some (.inl (s0, x7 + (nI 1), hp))
set_option maxRecDepth 100000 in
set_option maxHeartbeats 4000000 in
theorem X1_weeksUntilAllMet_J112_t (G : kw_G) (Q : Option Value → kw_H → Prop) (hp : kw_H) (x0 : Nat) (x1 : Nat) (x2 : Int32) (x3 : Int32) (x4 : Int32) (x5 : Int32) (x7 : Int32) (s0 : Int32) (r : ((Int32 × Int32 × kw_H) ⊕ (((Int32 × Int32 × kw_H) ⊕ (Int32 × kw_H))))) (h : X1_weeksUntilAllMet_J112 hp x0 x1 x2 x3 x4 x5 x7 s0 = some r) (hK : X1_weeksUntilAllMet_K51 G Q x0 x1 x2 x3 x4 x5 r) : kw_V G mX1_weeksUntilAllMet 112 [some (.ref x0), some (.ref x1), some (.int x2), some (.int x3), some (.int x4), some (.int x5), none, some (.int x7)] [.int s0] hp Q := by
  unfold X1_weeksUntilAllMet_J112 at h
  refine kw_istore (L' := [some (.ref x0), some (.ref x1), some (.int x2), some (.int x3), some (.int x4), some (.int x5), some (.int s0), some (.int x7)]) dX1_weeksUntilAllMet_112 (by decide) rfl ?_
  refine kv_iinc (w := nI 1) (L' := [some (.ref x0), some (.ref x1), some (.int x2), some (.int x3), some (.int x4), some (.int x5), some (.int s0), some (.int (x7 + (nI 1)))]) dX1_weeksUntilAllMet_114 (by decide) rfl (by decide) rfl ?_
  refine kw_goto 51 dX1_weeksUntilAllMet_117 (by decide) ?_
  have h := Option.some.inj h
  subst h
  exact hK
def X1_weeksUntilAllMet_J111 (hp : kw_H) (x0 : Nat) (x1 : Nat) (x2 : Int32) (x3 : Int32) (x4 : Int32) (x5 : Int32) (x7 : Int32) : Option (((Int32 × Int32 × kw_H) ⊕ (((Int32 × Int32 × kw_H) ⊕ (Int32 × kw_H))))) :=
  X1_weeksUntilAllMet_J112 hp x0 x1 x2 x3 x4 x5 x7 (nI 0)
set_option maxRecDepth 100000 in
set_option maxHeartbeats 4000000 in
theorem X1_weeksUntilAllMet_J111_t (G : kw_G) (Q : Option Value → kw_H → Prop) (hp : kw_H) (x0 : Nat) (x1 : Nat) (x2 : Int32) (x3 : Int32) (x4 : Int32) (x5 : Int32) (x7 : Int32) (r : ((Int32 × Int32 × kw_H) ⊕ (((Int32 × Int32 × kw_H) ⊕ (Int32 × kw_H))))) (h : X1_weeksUntilAllMet_J111 hp x0 x1 x2 x3 x4 x5 x7 = some r) (hK : X1_weeksUntilAllMet_K51 G Q x0 x1 x2 x3 x4 x5 r) : kw_V G mX1_weeksUntilAllMet 111 [some (.ref x0), some (.ref x1), some (.int x2), some (.int x3), some (.int x4), some (.int x5), none, some (.int x7)] [] hp Q := by
  unfold X1_weeksUntilAllMet_J111 at h
  refine kw_iconst (v := nI 0) dX1_weeksUntilAllMet_111 (by decide) ?_
  exact X1_weeksUntilAllMet_J112_t G Q hp x0 x1 x2 x3 x4 x5 x7 (nI 0) _ h hK
def X1_weeksUntilAllMet_J107 (hp : kw_H) (x0 : Nat) (x1 : Nat) (x2 : Int32) (x3 : Int32) (x4 : Int32) (x5 : Int32) (x7 : Int32) : Option (((Int32 × Int32 × kw_H) ⊕ (((Int32 × Int32 × kw_H) ⊕ (Int32 × kw_H))))) :=
  X1_weeksUntilAllMet_J112 hp x0 x1 x2 x3 x4 x5 x7 (nI 1)
set_option maxRecDepth 100000 in
set_option maxHeartbeats 4000000 in
theorem X1_weeksUntilAllMet_J107_t (G : kw_G) (Q : Option Value → kw_H → Prop) (hp : kw_H) (x0 : Nat) (x1 : Nat) (x2 : Int32) (x3 : Int32) (x4 : Int32) (x5 : Int32) (x7 : Int32) (r : ((Int32 × Int32 × kw_H) ⊕ (((Int32 × Int32 × kw_H) ⊕ (Int32 × kw_H))))) (h : X1_weeksUntilAllMet_J107 hp x0 x1 x2 x3 x4 x5 x7 = some r) (hK : X1_weeksUntilAllMet_K51 G Q x0 x1 x2 x3 x4 x5 r) : kw_V G mX1_weeksUntilAllMet 107 [some (.ref x0), some (.ref x1), some (.int x2), some (.int x3), some (.int x4), some (.int x5), none, some (.int x7)] [] hp Q := by
  unfold X1_weeksUntilAllMet_J107 at h
  refine kw_iconst (v := nI 1) dX1_weeksUntilAllMet_107 (by decide) ?_
  refine kw_goto 112 dX1_weeksUntilAllMet_108 (by decide) ?_
  exact X1_weeksUntilAllMet_J112_t G Q hp x0 x1 x2 x3 x4 x5 x7 (nI 1) _ h hK
def X1_weeksUntilAllMet_b51 (x0 : Nat) (x1 : Nat) (x2 : Int32) (x3 : Int32) (x4 : Int32) (x5 : Int32) (x6 : Int32) (x7 : Int32) (hp : kw_H) : Option (((Int32 × Int32 × kw_H) ⊕ (((Int32 × Int32 × kw_H) ⊕ (Int32 × kw_H))))) :=
  (if (nI 6) ≤ x7 then
  (X1_weeksUntilAllMet_J120 hp x0 x1 x2 x3 x4 x5 x6).map (fun r => .inr (r))
else
  (kp_gR hp x0 [1] 1).bind fun v12 =>
  (kp_ldI hp v12 x7).bind fun v13 =>
  ((kp_ob hp x1 2).bind fun _ => X2_awayBehind_F hp x1 x5).bind fun r14 =>
  ((kp_ob hp x1 2).bind fun _ => X2_jobsOf_F hp x1 x7 x4 r14).bind fun r15 =>
  (kp_stI hp v12 x7 (v13 ||| r15)).bind fun hp16 =>
  (if x6 = 0 then
  X1_weeksUntilAllMet_J111 hp16 x0 x1 x2 x3 x4 x5 x7
else
  (X11_holds_F hp16 x2 x7).bind fun r17 =>
  (if r17 = 0 then
  X1_weeksUntilAllMet_J107 hp16 x0 x1 x2 x3 x4 x5 x7
else
  (kp_gR hp16 x0 [1] 1).bind fun v18 =>
  (kp_ldI hp16 v18 x7).bind fun v19 =>
  (if v19 = x3 then
  X1_weeksUntilAllMet_J107 hp16 x0 x1 x2 x3 x4 x5 x7
else
  X1_weeksUntilAllMet_J111 hp16 x0 x1 x2 x3 x4 x5 x7))))
set_option maxRecDepth 100000 in
set_option maxHeartbeats 4000000 in
theorem X1_weeksUntilAllMet_b51_t (G : kw_G) (Q : Option Value → kw_H → Prop) (x0 : Nat) (x1 : Nat) (x2 : Int32) (x3 : Int32) (x4 : Int32) (x5 : Int32) (x6 : Int32) (x7 : Int32) (hp : kw_H) (r : ((Int32 × Int32 × kw_H) ⊕ (((Int32 × Int32 × kw_H) ⊕ (Int32 × kw_H))))) (h : X1_weeksUntilAllMet_b51 x0 x1 x2 x3 x4 x5 x6 x7 hp = some r) (hK : X1_weeksUntilAllMet_K51 G Q x0 x1 x2 x3 x4 x5 r) : kw_V G mX1_weeksUntilAllMet 51 [some (.ref x0), some (.ref x1), some (.int x2), some (.int x3), some (.int x4), some (.int x5), some (.int x6), some (.int x7)] [] hp Q := by
  unfold X1_weeksUntilAllMet_b51 at h
  refine kw_iload dX1_weeksUntilAllMet_51 rfl ?_
  refine kw_bipush (v := nI 6) dX1_weeksUntilAllMet_53 (by decide) ?_
  refine kw_icmp_ge 120 dX1_weeksUntilAllMet_55 (by decide) (fun c23 => ?_) (fun c23 => ?_)
  · have h := (if_pos c23).symm.trans h
    refine kw_mask [true, true, true, true, true, true, true, false] (L' := [some (.ref x0), some (.ref x1), some (.int x2), some (.int x3), some (.int x4), some (.int x5), some (.int x6), none]) rfl ?_
    obtain ⟨r11, hr11, hrr11⟩ := Option.map_eq_some_iff.mp h
    subst hrr11
    exact X1_weeksUntilAllMet_J120_t G Q hp x0 x1 x2 x3 x4 x5 x6 r11 hr11 hK
  · have h := (if_neg c23).symm.trans h
    refine kw_aload_n dX1_weeksUntilAllMet_58 rfl ?_
    obtain ⟨v12, ev12, h⟩ := Option.bind_eq_some_iff.mp h
    refine kv_gR gfX1_18 dX1_weeksUntilAllMet_59 ev12 ?_
    refine kw_iload dX1_weeksUntilAllMet_62 rfl ?_
    refine kw_dup2 dX1_weeksUntilAllMet_64 rfl rfl ?_
    obtain ⟨v13, ev13, h⟩ := Option.bind_eq_some_iff.mp h
    refine kv_ldI dX1_weeksUntilAllMet_65 ev13 ?_
    refine kw_aload_n dX1_weeksUntilAllMet_66 rfl ?_
    refine kw_iload dX1_weeksUntilAllMet_67 rfl ?_
    refine kw_iload dX1_weeksUntilAllMet_69 rfl ?_
    refine kw_aload_n dX1_weeksUntilAllMet_71 rfl ?_
    refine kw_iload dX1_weeksUntilAllMet_72 rfl ?_
    obtain ⟨r14, er14, h⟩ := Option.bind_eq_some_iff.mp h
    obtain ⟨ur14, eur14, er14⟩ := Option.bind_eq_some_iff.mp er14
    obtain ⟨fsr14, hor14⟩ := kp_ob_inv eur14
    refine kw_callV (As := [.int x5]) (S := [.int x4, .int x7, .ref x1, .int v13, .int x7, .ref v12]) kcX2 cbX1_weeksUntilAllMet_X2_awayBehind lkX1_40 imX2_awayBehind seX2_X2_awayBehind_X2_awayBehind rfl rfl (Nat.le_of_ble_eq_true rfl) dX1_weeksUntilAllMet_74 hor14 (X2_awayBehind_c G hp x1 x5 _ er14) (fun vv hh hq => ?_)
    rw [hq.1, hq.2]
    show kw_V G mX1_weeksUntilAllMet 77 [some (.ref x0), some (.ref x1), some (.int x2), some (.int x3), some (.int x4), some (.int x5), some (.int x6), some (.int x7)] [.int r14, .int x4, .int x7, .ref x1, .int v13, .int x7, .ref v12] hp Q
    obtain ⟨r15, er15, h⟩ := Option.bind_eq_some_iff.mp h
    obtain ⟨ur15, eur15, er15⟩ := Option.bind_eq_some_iff.mp er15
    obtain ⟨fsr15, hor15⟩ := kp_ob_inv eur15
    refine kw_callV (As := [.int x7, .int x4, .int r14]) (S := [.int v13, .int x7, .ref v12]) kcX2 cbX1_weeksUntilAllMet_X2_jobsOf lkX1_75 imX2_jobsOf seX2_X2_jobsOf_X2_jobsOf rfl rfl (Nat.le_of_ble_eq_true rfl) dX1_weeksUntilAllMet_77 hor15 (X2_jobsOf_c G hp x1 x7 x4 r14 _ er15) (fun vv hh hq => ?_)
    rw [hq.1, hq.2]
    show kw_V G mX1_weeksUntilAllMet 80 [some (.ref x0), some (.ref x1), some (.int x2), some (.int x3), some (.int x4), some (.int x5), some (.int x6), some (.int x7)] [.int r15, .int v13, .int x7, .ref v12] hp Q
    refine kw_ior dX1_weeksUntilAllMet_80 ?_
    obtain ⟨hp16, ehp16, h⟩ := Option.bind_eq_some_iff.mp h
    refine kv_stI dX1_weeksUntilAllMet_81 ehp16 ?_
    refine kw_iload dX1_weeksUntilAllMet_82 rfl ?_
    refine kw_if_eq 111 dX1_weeksUntilAllMet_84 (by decide) (fun c22 => ?_) (fun c22 => ?_)
    · have h := (if_pos c22).symm.trans h
      refine kw_mask [true, true, true, true, true, true, false, true] (L' := [some (.ref x0), some (.ref x1), some (.int x2), some (.int x3), some (.int x4), some (.int x5), none, some (.int x7)]) rfl ?_
      exact X1_weeksUntilAllMet_J111_t G Q hp16 x0 x1 x2 x3 x4 x5 x7 _ h hK
    · have h := (if_neg c22).symm.trans h
      refine kw_iload_n dX1_weeksUntilAllMet_87 rfl ?_
      refine kw_iload dX1_weeksUntilAllMet_88 rfl ?_
      obtain ⟨r17, er17, h⟩ := Option.bind_eq_some_iff.mp h
      refine kw_callSN (As := [.int x2, .int x7]) (S := []) cbX1_weeksUntilAllMet_X11_holds lnX1_57 stX11_holds rfl rfl (Nat.le_of_ble_eq_true rfl) dX1_weeksUntilAllMet_90 (X11_holds_c G hp16 x2 x7 _ er17) (fun vv hh hq => ?_)
      rw [hq.1, hq.2]
      show kw_V G mX1_weeksUntilAllMet 93 [some (.ref x0), some (.ref x1), some (.int x2), some (.int x3), some (.int x4), some (.int x5), some (.int x6), some (.int x7)] [.int r17] hp16 Q
      refine kw_if_eq 107 dX1_weeksUntilAllMet_93 (by decide) (fun c21 => ?_) (fun c21 => ?_)
      · have h := (if_pos c21).symm.trans h
        refine kw_mask [true, true, true, true, true, true, false, true] (L' := [some (.ref x0), some (.ref x1), some (.int x2), some (.int x3), some (.int x4), some (.int x5), none, some (.int x7)]) rfl ?_
        exact X1_weeksUntilAllMet_J107_t G Q hp16 x0 x1 x2 x3 x4 x5 x7 _ h hK
      · have h := (if_neg c21).symm.trans h
        refine kw_aload_n dX1_weeksUntilAllMet_96 rfl ?_
        obtain ⟨v18, ev18, h⟩ := Option.bind_eq_some_iff.mp h
        refine kv_gR gfX1_18 dX1_weeksUntilAllMet_97 ev18 ?_
        refine kw_iload dX1_weeksUntilAllMet_100 rfl ?_
        obtain ⟨v19, ev19, h⟩ := Option.bind_eq_some_iff.mp h
        refine kv_ldI dX1_weeksUntilAllMet_102 ev19 ?_
        refine kw_iload_n dX1_weeksUntilAllMet_103 rfl ?_
        refine kw_icmp_ne 111 dX1_weeksUntilAllMet_104 (by decide) (fun c20 => ?_) (fun c20 => ?_)
        · have h := (if_neg c20).symm.trans h
          refine kw_mask [true, true, true, true, true, true, false, true] (L' := [some (.ref x0), some (.ref x1), some (.int x2), some (.int x3), some (.int x4), some (.int x5), none, some (.int x7)]) rfl ?_
          exact X1_weeksUntilAllMet_J111_t G Q hp16 x0 x1 x2 x3 x4 x5 x7 _ h hK
        · have h := (if_pos c20).symm.trans h
          refine kw_mask [true, true, true, true, true, true, false, true] (L' := [some (.ref x0), some (.ref x1), some (.int x2), some (.int x3), some (.int x4), some (.int x5), none, some (.int x7)]) rfl ?_
          exact X1_weeksUntilAllMet_J107_t G Q hp16 x0 x1 x2 x3 x4 x5 x7 _ h hK
def X1_weeksUntilAllMet_B51 (x0 : Nat) (x1 : Nat) (x2 : Int32) (x3 : Int32) (x4 : Int32) (x5 : Int32) (z : Int32 × Int32 × kw_H) : Option (((Int32 × Int32 × kw_H) ⊕ (((Int32 × Int32 × kw_H) ⊕ (Int32 × kw_H))))) := X1_weeksUntilAllMet_b51 x0 x1 x2 x3 x4 x5 z.1 z.2.1 z.2.2
theorem X1_weeksUntilAllMet_L51_t (G : kw_G) (Q : Option Value → kw_H → Prop) (x0 : Nat) (x1 : Nat) (x2 : Int32) (x3 : Int32) (x4 : Int32) (x5 : Int32) (n : Nat) (z : Int32 × Int32 × kw_H) (r : ((Int32 × Int32 × kw_H) ⊕ (Int32 × kw_H))) (h : kp_lp (X1_weeksUntilAllMet_B51 x0 x1 x2 x3 x4 x5) n z = some r) (hK : X1_weeksUntilAllMet_K38 G Q x0 x1 x2 x3 r) : kw_V G mX1_weeksUntilAllMet 51 [some (.ref x0), some (.ref x1), some (.int x2), some (.int x3), some (.int x4), some (.int x5), some (.int z.1), some (.int z.2.1)] [] z.2.2 Q :=
  kv_lp _ (fun z => kw_V G mX1_weeksUntilAllMet 51 [some (.ref x0), some (.ref x1), some (.int x2), some (.int x3), some (.int x4), some (.int x5), some (.int z.1), some (.int z.2.1)] [] z.2.2 Q) (fun r => X1_weeksUntilAllMet_K38 G Q x0 x1 x2 x3 r) (fun z x hb hx => X1_weeksUntilAllMet_b51_t G Q x0 x1 x2 x3 x4 x5 z.1 z.2.1 z.2.2 x hb (by cases x <;> exact hx)) n z r h hK
def X1_weeksUntilAllMet_b38 (x0 : Nat) (x1 : Nat) (x2 : Int32) (x3 : Int32) (x4 : Int32) (x5 : Int32) (hp : kw_H) : Option (((Int32 × Int32 × kw_H) ⊕ (Int32 × kw_H))) :=
  (if (nI 60) ≤ x5 then
  (X1_weeksUntilAllMet_J151 hp).map (fun r => .inr (r))
else
  kp_lp (X1_weeksUntilAllMet_B51 x0 x1 x2 x3 x4 x5) 2000 (nI 1, nI 0, hp))
set_option maxRecDepth 100000 in
set_option maxHeartbeats 4000000 in
theorem X1_weeksUntilAllMet_b38_t (G : kw_G) (Q : Option Value → kw_H → Prop) (x0 : Nat) (x1 : Nat) (x2 : Int32) (x3 : Int32) (x4 : Int32) (x5 : Int32) (hp : kw_H) (r : ((Int32 × Int32 × kw_H) ⊕ (Int32 × kw_H))) (h : X1_weeksUntilAllMet_b38 x0 x1 x2 x3 x4 x5 hp = some r) (hK : X1_weeksUntilAllMet_K38 G Q x0 x1 x2 x3 r) : kw_V G mX1_weeksUntilAllMet 38 [some (.ref x0), some (.ref x1), some (.int x2), some (.int x3), some (.int x4), some (.int x5), none, none] [] hp Q := by
  unfold X1_weeksUntilAllMet_b38 at h
  refine kw_iload dX1_weeksUntilAllMet_38 rfl ?_
  refine kw_bipush (v := nI 60) dX1_weeksUntilAllMet_40 (by decide) ?_
  refine kw_icmp_ge 151 dX1_weeksUntilAllMet_42 (by decide) (fun c24 => ?_) (fun c24 => ?_)
  · have h := (if_pos c24).symm.trans h
    refine kw_mask [false, false, false, false, false, false, true, true] (L' := [none, none, none, none, none, none, none, none]) rfl ?_
    obtain ⟨r6, hr6, hrr6⟩ := Option.map_eq_some_iff.mp h
    subst hrr6
    exact X1_weeksUntilAllMet_J151_t G Q hp r6 hr6 hK
  · have h := (if_neg c24).symm.trans h
    refine kw_iconst (v := nI 1) dX1_weeksUntilAllMet_45 (by decide) ?_
    refine kw_istore (L' := [some (.ref x0), some (.ref x1), some (.int x2), some (.int x3), some (.int x4), some (.int x5), some (.int (nI 1)), none]) dX1_weeksUntilAllMet_46 (by decide) rfl ?_
    refine kw_iconst (v := nI 0) dX1_weeksUntilAllMet_48 (by decide) ?_
    refine kw_istore (L' := [some (.ref x0), some (.ref x1), some (.int x2), some (.int x3), some (.int x4), some (.int x5), some (.int (nI 1)), some (.int (nI 0))]) dX1_weeksUntilAllMet_49 (by decide) rfl ?_
    exact X1_weeksUntilAllMet_L51_t G Q x0 x1 x2 x3 x4 x5 _ (nI 1, nI 0, hp) _ h hK
def X1_weeksUntilAllMet_B38 (x0 : Nat) (x1 : Nat) (x2 : Int32) (x3 : Int32) (z : Int32 × Int32 × kw_H) : Option (((Int32 × Int32 × kw_H) ⊕ (Int32 × kw_H))) := X1_weeksUntilAllMet_b38 x0 x1 x2 x3 z.1 z.2.1 z.2.2
theorem X1_weeksUntilAllMet_L38_t (G : kw_G) (Q : Option Value → kw_H → Prop) (x0 : Nat) (x1 : Nat) (x2 : Int32) (x3 : Int32) (n : Nat) (z : Int32 × Int32 × kw_H) (r : Int32 × kw_H) (h : kp_lp (X1_weeksUntilAllMet_B38 x0 x1 x2 x3) n z = some r) (hK : Q (some (.int r.1)) r.2) : kw_V G mX1_weeksUntilAllMet 38 [some (.ref x0), some (.ref x1), some (.int x2), some (.int x3), some (.int z.1), some (.int z.2.1), none, none] [] z.2.2 Q :=
  kv_lp _ (fun z => kw_V G mX1_weeksUntilAllMet 38 [some (.ref x0), some (.ref x1), some (.int x2), some (.int x3), some (.int z.1), some (.int z.2.1), none, none] [] z.2.2 Q) (fun r => Q (some (.int r.1)) r.2) (fun z x hb hx => X1_weeksUntilAllMet_b38_t G Q x0 x1 x2 x3 z.1 z.2.1 z.2.2 x hb (by cases x <;> exact hx)) n z r h hK
def X1_weeksUntilAllMet_F (hp : kw_H) (x0 : Nat) (x1 : Nat) : Option (Int32 × kw_H) :=
  ((kp_ob hp x1 2).bind fun _ => X2_peopleOnIt_F hp x1).bind fun r1 =>
  ((kp_ob hp x1 2).bind fun _ => X2_jobsOnIt_F hp x1).bind fun r2 =>
  (if r1 = 0 then
  some (((-1000000), hp))
else
  (if r2 = 0 then
  some (((-1000000), hp))
else
  (kp_gR hp x0 [1] 1).bind fun v3 =>
  (J7_fill_53178_F hp v3 (nI 0)).bind fun r4 =>
  (kp_gI r4 x1 [2] 8).bind fun v5 =>
  kp_lp (X1_weeksUntilAllMet_B38 x0 x1 r1 r2) 2000 (v5, nI 0, r4)))
set_option maxRecDepth 100000 in
set_option maxHeartbeats 4000000 in
theorem X1_weeksUntilAllMet_c (G : kw_G) (hp : kw_H) (x0 : Nat) (x1 : Nat) (r : Int32 × kw_H) (h : X1_weeksUntilAllMet_F hp x0 x1 = some r) : kw_Met G mX1_weeksUntilAllMet [.ref x0, .ref x1] hp (fun v h2 => v = some (.int r.1) ∧ h2 = r.2) := by
  refine kw_met (L := [some (.ref x0), some (.ref x1), none, none, none, none, none, none]) (r := 6) (by decide +kernel) (Nat.le_of_ble_eq_true rfl) rfl ?_
  unfold X1_weeksUntilAllMet_F at h
  obtain ⟨Q, hQ⟩ : ∃ Q : Option Value → kw_H → Prop, Q = (fun v h2 => v = some (.int r.1) ∧ h2 = r.2) := ⟨_, rfl⟩
  have hK : Q (some (.int r.1)) r.2 := by rw [hQ]; exact ⟨rfl, rfl⟩
  rw [← hQ]
  clear hQ
  refine kw_aload_n dX1_weeksUntilAllMet_0 rfl ?_
  obtain ⟨r1, er1, h⟩ := Option.bind_eq_some_iff.mp h
  obtain ⟨ur1, eur1, er1⟩ := Option.bind_eq_some_iff.mp er1
  obtain ⟨fsr1, hor1⟩ := kp_ob_inv eur1
  refine kw_callV (As := []) (S := []) kcX2 cbX1_weeksUntilAllMet_X2_peopleOnIt lkX1_62 imX2_peopleOnIt seX2_X2_peopleOnIt_X2_peopleOnIt rfl rfl (Nat.le_of_ble_eq_true rfl) dX1_weeksUntilAllMet_1 hor1 (X2_peopleOnIt_c G hp x1 _ er1) (fun vv hh hq => ?_)
  rw [hq.1, hq.2]
  show kw_V G mX1_weeksUntilAllMet 4 [some (.ref x0), some (.ref x1), none, none, none, none, none, none] [.int r1] hp Q
  refine kw_istore_n (L' := [some (.ref x0), some (.ref x1), some (.int r1), none, none, none, none, none]) dX1_weeksUntilAllMet_4 (by decide) rfl ?_
  refine kw_aload_n dX1_weeksUntilAllMet_5 rfl ?_
  obtain ⟨r2, er2, h⟩ := Option.bind_eq_some_iff.mp h
  obtain ⟨ur2, eur2, er2⟩ := Option.bind_eq_some_iff.mp er2
  obtain ⟨fsr2, hor2⟩ := kp_ob_inv eur2
  refine kw_callV (As := []) (S := []) kcX2 cbX1_weeksUntilAllMet_X2_jobsOnIt lkX1_66 imX2_jobsOnIt seX2_X2_jobsOnIt_X2_jobsOnIt rfl rfl (Nat.le_of_ble_eq_true rfl) dX1_weeksUntilAllMet_6 hor2 (X2_jobsOnIt_c G hp x1 _ er2) (fun vv hh hq => ?_)
  rw [hq.1, hq.2]
  show kw_V G mX1_weeksUntilAllMet 9 [some (.ref x0), some (.ref x1), some (.int r1), none, none, none, none, none] [.int r2] hp Q
  refine kw_istore_n (L' := [some (.ref x0), some (.ref x1), some (.int r1), some (.int r2), none, none, none, none]) dX1_weeksUntilAllMet_9 (by decide) rfl ?_
  refine kw_iload_n dX1_weeksUntilAllMet_10 rfl ?_
  refine kw_if_eq 18 dX1_weeksUntilAllMet_11 (by decide) (fun c26 => ?_) (fun c26 => ?_)
  · have h := (if_pos c26).symm.trans h
    refine kw_ldc (v := (-1000000)) dX1_weeksUntilAllMet_18 ckX1_61 ?_
    have h := Option.some.inj h
    subst h
    exact kw_iret rfl dX1_weeksUntilAllMet_20 hK
  · have h := (if_neg c26).symm.trans h
    refine kw_iload_n dX1_weeksUntilAllMet_14 rfl ?_
    refine kw_if_ne 21 dX1_weeksUntilAllMet_15 (by decide) (fun c25 => ?_) (fun c25 => ?_)
    · have h := (if_neg c25).symm.trans h
      refine kw_aload_n dX1_weeksUntilAllMet_21 rfl ?_
      obtain ⟨v3, ev3, h⟩ := Option.bind_eq_some_iff.mp h
      refine kv_gR gfX1_18 dX1_weeksUntilAllMet_22 ev3 ?_
      refine kw_iconst (v := nI 0) dX1_weeksUntilAllMet_25 (by decide) ?_
      obtain ⟨r4, er4, h⟩ := Option.bind_eq_some_iff.mp h
      refine kw_callS (As := [.ref v3, .int (nI 0)]) (S := []) cbX1_weeksUntilAllMet_J7_fill_53178 lkX1_69 stJ7_fill_53178 rfl rfl (Nat.le_of_ble_eq_true rfl) dX1_weeksUntilAllMet_26 (J7_fill_53178_c G hp v3 (nI 0) _ er4) (fun vv hh hq => ?_)
      rw [hq.1, hq.2]
      show kw_V G mX1_weeksUntilAllMet 29 [some (.ref x0), some (.ref x1), some (.int r1), some (.int r2), none, none, none, none] [] r4 Q
      refine kw_aload_n dX1_weeksUntilAllMet_29 rfl ?_
      obtain ⟨v5, ev5, h⟩ := Option.bind_eq_some_iff.mp h
      refine kv_gI gfX1_29 dX1_weeksUntilAllMet_30 ev5 ?_
      refine kw_istore (L' := [some (.ref x0), some (.ref x1), some (.int r1), some (.int r2), some (.int v5), none, none, none]) dX1_weeksUntilAllMet_33 (by decide) rfl ?_
      refine kw_iconst (v := nI 0) dX1_weeksUntilAllMet_35 (by decide) ?_
      refine kw_istore (L' := [some (.ref x0), some (.ref x1), some (.int r1), some (.int r2), some (.int v5), some (.int (nI 0)), none, none]) dX1_weeksUntilAllMet_36 (by decide) rfl ?_
      exact X1_weeksUntilAllMet_L38_t G Q x0 x1 r1 r2 _ (v5, nI 0, r4) _ h hK
    · have h := (if_pos c25).symm.trans h
      refine kw_ldc (v := (-1000000)) dX1_weeksUntilAllMet_18 ckX1_61 ?_
      have h := Option.some.inj h
      subst h
      exact kw_iret rfl dX1_weeksUntilAllMet_20 hK
