/-! KitchenWheelsModel.drop(I)I -/
def X12_drop_F (hp : kw_H) (x0 : Nat) (x1 : Int32) : Option (Int32 × kw_H) :=
  (X12_isRow_F hp x1).bind fun r1 =>
  (if r1 = 0 then
  some (((-1000001), hp))
else
  (kp_gR hp x0 [11] 5).bind fun v2 =>
  (kp_ldI hp v2 x1).bind fun v3 =>
  (if 0 ≤ v3 then
  (kp_gR hp x0 [11] 5).bind fun v4 =>
  (kp_ldI hp v4 x1).bind fun v5 =>
  (kp_gR hp x0 [11] 5).bind fun v6 =>
  (kp_stI hp v6 x1 ((-1))).bind fun hp7 =>
  ((kp_ob hp7 x0 11).bind fun _ => X12_well_F hp7 x0 v5).bind fun r8 =>
  some ((r8.1, r8.2))
else
  ((kp_ob hp x0 11).bind fun _ => X12_find_F hp x0 (nI 1)).bind fun r9 =>
  some ((r9.1, r9.2))))
set_option maxRecDepth 100000 in
set_option maxHeartbeats 4000000 in
theorem X12_drop_c (G : kw_G) (hp : kw_H) (x0 : Nat) (x1 : Int32) (r : Int32 × kw_H) (h : X12_drop_F hp x0 x1 = some r) : kw_Met G mX12_drop [.ref x0, .int x1] hp (fun v h2 => v = some (.int r.1) ∧ h2 = r.2) := by
  refine kw_met (L := [some (.ref x0), some (.int x1), none]) (r := 1) (by decide +kernel) (Nat.le_of_ble_eq_true rfl) rfl ?_
  unfold X12_drop_F at h
  obtain ⟨Q, hQ⟩ : ∃ Q : Option Value → kw_H → Prop, Q = (fun v h2 => v = some (.int r.1) ∧ h2 = r.2) := ⟨_, rfl⟩
  have hK : Q (some (.int r.1)) r.2 := by rw [hQ]; exact ⟨rfl, rfl⟩
  rw [← hQ]
  clear hQ
  refine kw_iload_n dX12_drop_0 rfl ?_
  obtain ⟨r1, er1, h⟩ := Option.bind_eq_some_iff.mp h
  refine kw_callS (As := [.int x1]) (S := []) cbX12_drop_X12_isRow lkX12_46 stX12_isRow rfl rfl (Nat.le_of_ble_eq_true rfl) dX12_drop_1 (X12_isRow_c G hp x1 _ er1) (fun vv hh hq => ?_)
  rw [hq.1, hq.2]
  show kw_V G mX12_drop 4 [some (.ref x0), some (.int x1), none] [.int r1] hp Q
  refine kw_if_ne 10 dX12_drop_4 (by decide) (fun c11 => ?_) (fun c11 => ?_)
  · have h := (if_neg c11).symm.trans h
    refine kw_aload_n dX12_drop_10 rfl ?_
    obtain ⟨v2, ev2, h⟩ := Option.bind_eq_some_iff.mp h
    refine kv_gR gfX12_20 dX12_drop_11 ev2 ?_
    refine kw_iload_n dX12_drop_14 rfl ?_
    obtain ⟨v3, ev3, h⟩ := Option.bind_eq_some_iff.mp h
    refine kv_ldI dX12_drop_15 ev3 ?_
    refine kw_if_ge 25 dX12_drop_16 (by decide) (fun c10 => ?_) (fun c10 => ?_)
    · have h := (if_pos c10).symm.trans h
      refine kw_aload_n dX12_drop_25 rfl ?_
      obtain ⟨v4, ev4, h⟩ := Option.bind_eq_some_iff.mp h
      refine kv_gR gfX12_20 dX12_drop_26 ev4 ?_
      refine kw_iload_n dX12_drop_29 rfl ?_
      obtain ⟨v5, ev5, h⟩ := Option.bind_eq_some_iff.mp h
      refine kv_ldI dX12_drop_30 ev5 ?_
      refine kw_istore_n (L' := [some (.ref x0), some (.int x1), some (.int v5)]) dX12_drop_31 (by decide) rfl ?_
      refine kw_aload_n dX12_drop_32 rfl ?_
      obtain ⟨v6, ev6, h⟩ := Option.bind_eq_some_iff.mp h
      refine kv_gR gfX12_20 dX12_drop_33 ev6 ?_
      refine kw_iload_n dX12_drop_36 rfl ?_
      refine kw_iconst (v := (-1)) dX12_drop_37 (by decide) ?_
      obtain ⟨hp7, ehp7, h⟩ := Option.bind_eq_some_iff.mp h
      refine kv_stI dX12_drop_38 ehp7 ?_
      refine kw_aload_n dX12_drop_39 rfl ?_
      refine kw_iload_n dX12_drop_40 rfl ?_
      obtain ⟨r8, er8, h⟩ := Option.bind_eq_some_iff.mp h
      obtain ⟨ur8, eur8, er8⟩ := Option.bind_eq_some_iff.mp er8
      obtain ⟨fsr8, hor8⟩ := kp_ob_inv eur8
      refine kw_callV (As := [.int v5]) (S := []) kcX12 cbX12_drop_X12_well lkX12_57 imX12_well seX12_X12_well_X12_well rfl rfl (Nat.le_of_ble_eq_true rfl) dX12_drop_41 hor8 (X12_well_c G hp7 x0 v5 _ er8) (fun vv hh hq => ?_)
      rw [hq.1, hq.2]
      show kw_V G mX12_drop 44 [some (.ref x0), some (.int x1), some (.int v5)] [.int r8.1] r8.2 Q
      have h := Option.some.inj h
      subst h
      exact kw_iret rfl dX12_drop_44 hK
    · have h := (if_neg c10).symm.trans h
      refine kw_aload_n dX12_drop_19 rfl ?_
      refine kw_iconst (v := nI 1) dX12_drop_20 (by decide) ?_
      obtain ⟨r9, er9, h⟩ := Option.bind_eq_some_iff.mp h
      obtain ⟨ur9, eur9, er9⟩ := Option.bind_eq_some_iff.mp er9
      obtain ⟨fsr9, hor9⟩ := kp_ob_inv eur9
      refine kw_callV (As := [.int (nI 1)]) (S := []) kcX12 cbX12_drop_X12_find lkX12_53 imX12_find seX12_X12_find_X12_find rfl rfl (Nat.le_of_ble_eq_true rfl) dX12_drop_21 hor9 (X12_find_c G hp x0 (nI 1) _ er9) (fun vv hh hq => ?_)
      rw [hq.1, hq.2]
      show kw_V G mX12_drop 24 [some (.ref x0), some (.int x1), none] [.int r9.1] r9.2 Q
      have h := Option.some.inj h
      subst h
      exact kw_iret rfl dX12_drop_24 hK
  · have h := (if_pos c11).symm.trans h
    refine kw_ldc (v := (-1000001)) dX12_drop_7 ckX12_52 ?_
    have h := Option.some.inj h
    subst h
    exact kw_iret rfl dX12_drop_9 hK
/-! KitchenWheelsModel.feed(I)I -/
def X12_feed_F (hp : kw_H) (x0 : Nat) (x1 : Int32) : Option (Int32 × kw_H) :=
  (X12_in_F hp (Int32.toInt64 x1) (lN 0) (lN 255)).bind fun r1 =>
  (if r1 = 0 then
  some (((-1000001), hp))
else
  (kp_gI hp x0 [11] 8).bind fun v2 =>
  (if v2 = (nI 80) then
  some (((-1000003), hp))
else
  (kp_gR hp x0 [11] 7).bind fun v3 =>
  (kp_gI hp x0 [11] 8).bind fun v4 =>
  (kp_stI hp v3 v4 x1).bind fun hp5 =>
  (kp_gI hp5 x0 [11] 8).bind fun v6 =>
  (kp_put hp5 x0 [11] 8 (.int (v6 + (nI 1)))).bind fun hp7 =>
  (kp_gI hp7 x0 [11] 8).bind fun v8 =>
  some ((v8, hp7))))
set_option maxRecDepth 100000 in
set_option maxHeartbeats 4000000 in
theorem X12_feed_c (G : kw_G) (hp : kw_H) (x0 : Nat) (x1 : Int32) (r : Int32 × kw_H) (h : X12_feed_F hp x0 x1 = some r) : kw_Met G mX12_feed [.ref x0, .int x1] hp (fun v h2 => v = some (.int r.1) ∧ h2 = r.2) := by
  refine kw_met (L := [some (.ref x0), some (.int x1)]) (r := 0) (by decide +kernel) (Nat.le_of_ble_eq_true rfl) rfl ?_
  unfold X12_feed_F at h
  obtain ⟨Q, hQ⟩ : ∃ Q : Option Value → kw_H → Prop, Q = (fun v h2 => v = some (.int r.1) ∧ h2 = r.2) := ⟨_, rfl⟩
  have hK : Q (some (.int r.1)) r.2 := by rw [hQ]; exact ⟨rfl, rfl⟩
  rw [← hQ]
  clear hQ
  refine kw_iload_n dX12_feed_0 rfl ?_
  refine kw_i2l dX12_feed_1 ?_
  refine kw_lconst (v := lN 0) dX12_feed_2 (by decide) ?_
  refine kw_ldc2_w (v := lN 255) dX12_feed_3 ckX12_68 ?_
  obtain ⟨r1, er1, h⟩ := Option.bind_eq_some_iff.mp h
  refine kw_callS (As := [.long (Int32.toInt64 x1), .long (lN 0), .long (lN 255)]) (S := []) cbX12_feed_X12_in lkX12_42 stX12_in rfl rfl (Nat.le_of_ble_eq_true rfl) dX12_feed_6 (X12_in_c G hp (Int32.toInt64 x1) (lN 0) (lN 255) _ er1) (fun vv hh hq => ?_)
  rw [hq.1, hq.2]
  show kw_V G mX12_feed 9 [some (.ref x0), some (.int x1)] [.int r1] hp Q
  refine kw_if_ne 15 dX12_feed_9 (by decide) (fun c10 => ?_) (fun c10 => ?_)
  · have h := (if_neg c10).symm.trans h
    refine kw_aload_n dX12_feed_15 rfl ?_
    obtain ⟨v2, ev2, h⟩ := Option.bind_eq_some_iff.mp h
    refine kv_gI gfX12_70 dX12_feed_16 ev2 ?_
    refine kw_bipush (v := nI 80) dX12_feed_19 (by decide) ?_
    refine kw_icmp_ne 27 dX12_feed_21 (by decide) (fun c9 => ?_) (fun c9 => ?_)
    · have h := (if_neg c9).symm.trans h
      refine kw_aload_n dX12_feed_27 rfl ?_
      obtain ⟨v3, ev3, h⟩ := Option.bind_eq_some_iff.mp h
      refine kv_gR gfX12_26 dX12_feed_28 ev3 ?_
      refine kw_aload_n dX12_feed_31 rfl ?_
      obtain ⟨v4, ev4, h⟩ := Option.bind_eq_some_iff.mp h
      refine kv_gI gfX12_70 dX12_feed_32 ev4 ?_
      refine kw_iload_n dX12_feed_35 rfl ?_
      obtain ⟨hp5, ehp5, h⟩ := Option.bind_eq_some_iff.mp h
      refine kv_stI dX12_feed_36 ehp5 ?_
      refine kw_aload_n dX12_feed_37 rfl ?_
      refine kw_dup dX12_feed_38 rfl ?_
      obtain ⟨v6, ev6, h⟩ := Option.bind_eq_some_iff.mp h
      refine kv_gI gfX12_70 dX12_feed_39 ev6 ?_
      refine kw_iconst (v := nI 1) dX12_feed_42 (by decide) ?_
      refine kw_iadd dX12_feed_43 ?_
      obtain ⟨hp7, ehp7, h⟩ := Option.bind_eq_some_iff.mp h
      refine kv_put pfX12_feed_70 (fun _ => ⟨rfl, rfl⟩) dX12_feed_44 ehp7 ?_
      refine kw_aload_n dX12_feed_47 rfl ?_
      obtain ⟨v8, ev8, h⟩ := Option.bind_eq_some_iff.mp h
      refine kv_gI gfX12_70 dX12_feed_48 ev8 ?_
      have h := Option.some.inj h
      subst h
      exact kw_iret rfl dX12_feed_51 hK
    · have h := (if_pos c9).symm.trans h
      refine kw_ldc (v := (-1000003)) dX12_feed_24 ckX12_73 ?_
      have h := Option.some.inj h
      subst h
      exact kw_iret rfl dX12_feed_26 hK
  · have h := (if_pos c10).symm.trans h
    refine kw_ldc (v := (-1000001)) dX12_feed_12 ckX12_52 ?_
    have h := Option.some.inj h
    subst h
    exact kw_iret rfl dX12_feed_14 hK
/-! KitchenWheelsModel.isLetter(I)Z -/
def X12_isLetter_F (hp : kw_H) (x0 : Nat) (x1 : Int32) : Option (Int32) :=
  (kp_gI hp x0 [11] 13).bind fun v1 =>
  (kp_gI hp x0 [11] 8).bind fun v2 =>
  (if v2 ≤ v1 then
  some (nI 0)
else
  (kp_gR hp x0 [11] 7).bind fun v3 =>
  (kp_gI hp x0 [11] 13).bind fun v4 =>
  (kp_ldI hp v3 v4).bind fun v5 =>
  (if v5 = x1 then
  some (nI 1)
else
  some (nI 0)))
set_option maxRecDepth 100000 in
set_option maxHeartbeats 4000000 in
theorem X12_isLetter_c (G : kw_G) (hp : kw_H) (x0 : Nat) (x1 : Int32) (r : Int32) (h : X12_isLetter_F hp x0 x1 = some r) : kw_Met G mX12_isLetter [.ref x0, .int x1] hp (fun v h2 => v = some (.int r) ∧ h2 = hp) := by
  refine kw_met (L := [some (.ref x0), some (.int x1)]) (r := 0) (by decide +kernel) (Nat.le_of_ble_eq_true rfl) rfl ?_
  unfold X12_isLetter_F at h
  obtain ⟨Q, hQ⟩ : ∃ Q : Option Value → kw_H → Prop, Q = (fun v h2 => v = some (.int r) ∧ h2 = hp) := ⟨_, rfl⟩
  have hK : Q (some (.int r)) hp := by rw [hQ]; exact ⟨rfl, rfl⟩
  rw [← hQ]
  clear hQ
  refine kw_aload_n dX12_isLetter_0 rfl ?_
  obtain ⟨v1, ev1, h⟩ := Option.bind_eq_some_iff.mp h
  refine kv_gI gfX12_74 dX12_isLetter_1 ev1 ?_
  refine kw_aload_n dX12_isLetter_4 rfl ?_
  obtain ⟨v2, ev2, h⟩ := Option.bind_eq_some_iff.mp h
  refine kv_gI gfX12_70 dX12_isLetter_5 ev2 ?_
  refine kw_icmp_ge 28 dX12_isLetter_8 (by decide) (fun c7 => ?_) (fun c7 => ?_)
  · have h := (if_pos c7).symm.trans h
    refine kw_iconst (v := nI 0) dX12_isLetter_28 (by decide) ?_
    have h := Option.some.inj h
    subst h
    exact kw_zret rfl (Or.inl rfl) dX12_isLetter_29 hK
  · have h := (if_neg c7).symm.trans h
    refine kw_aload_n dX12_isLetter_11 rfl ?_
    obtain ⟨v3, ev3, h⟩ := Option.bind_eq_some_iff.mp h
    refine kv_gR gfX12_26 dX12_isLetter_12 ev3 ?_
    refine kw_aload_n dX12_isLetter_15 rfl ?_
    obtain ⟨v4, ev4, h⟩ := Option.bind_eq_some_iff.mp h
    refine kv_gI gfX12_74 dX12_isLetter_16 ev4 ?_
    obtain ⟨v5, ev5, h⟩ := Option.bind_eq_some_iff.mp h
    refine kv_ldI dX12_isLetter_19 ev5 ?_
    refine kw_iload_n dX12_isLetter_20 rfl ?_
    refine kw_icmp_ne 28 dX12_isLetter_21 (by decide) (fun c6 => ?_) (fun c6 => ?_)
    · have h := (if_neg c6).symm.trans h
      refine kw_iconst (v := nI 0) dX12_isLetter_28 (by decide) ?_
      have h := Option.some.inj h
      subst h
      exact kw_zret rfl (Or.inl rfl) dX12_isLetter_29 hK
    · have h := (if_pos c6).symm.trans h
      refine kw_iconst (v := nI 1) dX12_isLetter_24 (by decide) ?_
      refine kw_goto 29 dX12_isLetter_25 (by decide) ?_
      have h := Option.some.inj h
      subst h
      exact kw_zret rfl (Or.inr rfl) dX12_isLetter_29 hK
/-! KitchenWheelsModel.isFigure(I)Z -/
def X12_isFigure_F (hp : kw_H) (x0 : Nat) (x1 : Int32) : Option (Int32) :=
  (kp_gI hp x0 [11] 8).bind fun v1 =>
  (if v1 ≤ x1 then
  some (nI 0)
else
  (kp_gR hp x0 [11] 7).bind fun v2 =>
  (kp_ldI hp v2 x1).bind fun v3 =>
  (X12_in_F hp (Int32.toInt64 v3) (lN 48) (lN 57)).bind fun r4 =>
  (if r4 = 0 then
  some (nI 0)
else
  some (nI 1)))
set_option maxRecDepth 100000 in
set_option maxHeartbeats 4000000 in
theorem X12_isFigure_c (G : kw_G) (hp : kw_H) (x0 : Nat) (x1 : Int32) (r : Int32) (h : X12_isFigure_F hp x0 x1 = some r) : kw_Met G mX12_isFigure [.ref x0, .int x1] hp (fun v h2 => v = some (.int r) ∧ h2 = hp) := by
  refine kw_met (L := [some (.ref x0), some (.int x1)]) (r := 0) (by decide +kernel) (Nat.le_of_ble_eq_true rfl) rfl ?_
  unfold X12_isFigure_F at h
  obtain ⟨Q, hQ⟩ : ∃ Q : Option Value → kw_H → Prop, Q = (fun v h2 => v = some (.int r) ∧ h2 = hp) := ⟨_, rfl⟩
  have hK : Q (some (.int r)) hp := by rw [hQ]; exact ⟨rfl, rfl⟩
  rw [← hQ]
  clear hQ
  refine kw_iload_n dX12_isFigure_0 rfl ?_
  refine kw_aload_n dX12_isFigure_1 rfl ?_
  obtain ⟨v1, ev1, h⟩ := Option.bind_eq_some_iff.mp h
  refine kv_gI gfX12_70 dX12_isFigure_2 ev1 ?_
  refine kw_icmp_ge 31 dX12_isFigure_5 (by decide) (fun c6 => ?_) (fun c6 => ?_)
  · have h := (if_pos c6).symm.trans h
    refine kw_iconst (v := nI 0) dX12_isFigure_31 (by decide) ?_
    have h := Option.some.inj h
    subst h
    exact kw_zret rfl (Or.inl rfl) dX12_isFigure_32 hK
  · have h := (if_neg c6).symm.trans h
    refine kw_aload_n dX12_isFigure_8 rfl ?_
    obtain ⟨v2, ev2, h⟩ := Option.bind_eq_some_iff.mp h
    refine kv_gR gfX12_26 dX12_isFigure_9 ev2 ?_
    refine kw_iload_n dX12_isFigure_12 rfl ?_
    obtain ⟨v3, ev3, h⟩ := Option.bind_eq_some_iff.mp h
    refine kv_ldI dX12_isFigure_13 ev3 ?_
    refine kw_i2l dX12_isFigure_14 ?_
    refine kw_ldc2_w (v := lN 48) dX12_isFigure_15 ckX12_77 ?_
    refine kw_ldc2_w (v := lN 57) dX12_isFigure_18 ckX12_79 ?_
    obtain ⟨r4, er4, h⟩ := Option.bind_eq_some_iff.mp h
    refine kw_callS (As := [.long (Int32.toInt64 v3), .long (lN 48), .long (lN 57)]) (S := []) cbX12_isFigure_X12_in lkX12_42 stX12_in rfl rfl (Nat.le_of_ble_eq_true rfl) dX12_isFigure_21 (X12_in_c G hp (Int32.toInt64 v3) (lN 48) (lN 57) _ er4) (fun vv hh hq => ?_)
    rw [hq.1, hq.2]
    show kw_V G mX12_isFigure 24 [some (.ref x0), some (.int x1)] [.int r4] hp Q
    refine kw_if_eq 31 dX12_isFigure_24 (by decide) (fun c5 => ?_) (fun c5 => ?_)
    · have h := (if_pos c5).symm.trans h
      refine kw_iconst (v := nI 0) dX12_isFigure_31 (by decide) ?_
      have h := Option.some.inj h
      subst h
      exact kw_zret rfl (Or.inl rfl) dX12_isFigure_32 hK
    · have h := (if_neg c5).symm.trans h
      refine kw_iconst (v := nI 1) dX12_isFigure_27 (by decide) ?_
      refine kw_goto 32 dX12_isFigure_28 (by decide) ?_
      have h := Option.some.inj h
      subst h
      exact kw_zret rfl (Or.inr rfl) dX12_isFigure_32 hK
/-! KitchenWheelsModel.refuse(I)Z -/
def X12_refuse_F (hp : kw_H) (x0 : Nat) (x1 : Int32) : Option (Int32 × kw_H) :=
  (kp_put hp x0 [11] 14 (.int x1)).bind fun hp1 =>
  some ((nI 0, hp1))
set_option maxRecDepth 100000 in
set_option maxHeartbeats 4000000 in
theorem X12_refuse_c (G : kw_G) (hp : kw_H) (x0 : Nat) (x1 : Int32) (r : Int32 × kw_H) (h : X12_refuse_F hp x0 x1 = some r) : kw_Met G mX12_refuse [.ref x0, .int x1] hp (fun v h2 => v = some (.int r.1) ∧ h2 = r.2) := by
  refine kw_met (L := [some (.ref x0), some (.int x1)]) (r := 0) (by decide +kernel) (Nat.le_of_ble_eq_true rfl) rfl ?_
  unfold X12_refuse_F at h
  obtain ⟨Q, hQ⟩ : ∃ Q : Option Value → kw_H → Prop, Q = (fun v h2 => v = some (.int r.1) ∧ h2 = r.2) := ⟨_, rfl⟩
  have hK : Q (some (.int r.1)) r.2 := by rw [hQ]; exact ⟨rfl, rfl⟩
  rw [← hQ]
  clear hQ
  refine kw_aload_n dX12_refuse_0 rfl ?_
  refine kw_iload_n dX12_refuse_1 rfl ?_
  obtain ⟨hp1, ehp1, h⟩ := Option.bind_eq_some_iff.mp h
  refine kv_put pfX12_refuse_81 (fun _ => ⟨rfl, rfl⟩) dX12_refuse_2 ehp1 ?_
  refine kw_iconst (v := nI 0) dX12_refuse_5 (by decide) ?_
  have h := Option.some.inj h
  subst h
  exact kw_zret rfl (Or.inl rfl) dX12_refuse_6 hK
/-! KitchenWheelsModel.sign(I)Z -/
def X12_sign_F (hp : kw_H) (x0 : Nat) (x1 : Int32) : Option (Int32 × kw_H) :=
  ((kp_ob hp x0 11).bind fun _ => X12_isLetter_F hp x0 x1).bind fun r1 =>
  (if r1 = 0 then
  ((kp_ob hp x0 11).bind fun _ => X12_refuse_F hp x0 (nI 1)).bind fun r4 =>
  (kp_bool r4.1).bind fun v5 =>
  some ((v5, r4.2))
else
  (kp_gI hp x0 [11] 13).bind fun v2 =>
  (kp_put hp x0 [11] 13 (.int (v2 + (nI 1)))).bind fun hp3 =>
  some ((nI 1, hp3)))
set_option maxRecDepth 100000 in
set_option maxHeartbeats 4000000 in
theorem X12_sign_c (G : kw_G) (hp : kw_H) (x0 : Nat) (x1 : Int32) (r : Int32 × kw_H) (h : X12_sign_F hp x0 x1 = some r) : kw_Met G mX12_sign [.ref x0, .int x1] hp (fun v h2 => v = some (.int r.1) ∧ h2 = r.2) := by
  refine kw_met (L := [some (.ref x0), some (.int x1)]) (r := 0) (by decide +kernel) (Nat.le_of_ble_eq_true rfl) rfl ?_
  unfold X12_sign_F at h
  obtain ⟨Q, hQ⟩ : ∃ Q : Option Value → kw_H → Prop, Q = (fun v h2 => v = some (.int r.1) ∧ h2 = r.2) := ⟨_, rfl⟩
  have hK : Q (some (.int r.1)) r.2 := by rw [hQ]; exact ⟨rfl, rfl⟩
  rw [← hQ]
  clear hQ
  refine kw_aload_n dX12_sign_0 rfl ?_
  refine kw_iload_n dX12_sign_1 rfl ?_
  obtain ⟨r1, er1, h⟩ := Option.bind_eq_some_iff.mp h
  obtain ⟨ur1, eur1, er1⟩ := Option.bind_eq_some_iff.mp er1
  obtain ⟨fsr1, hor1⟩ := kp_ob_inv eur1
  refine kw_callV (As := [.int x1]) (S := []) kcX12 cbX12_sign_X12_isLetter lkX12_84 imX12_isLetter seX12_X12_isLetter_X12_isLetter rfl rfl (Nat.le_of_ble_eq_true rfl) dX12_sign_2 hor1 (X12_isLetter_c G hp x0 x1 _ er1) (fun vv hh hq => ?_)
  rw [hq.1, hq.2]
  show kw_V G mX12_sign 5 [some (.ref x0), some (.int x1)] [.int r1] hp Q
  refine kw_if_ne 14 dX12_sign_5 (by decide) (fun c6 => ?_) (fun c6 => ?_)
  · have h := (if_neg c6).symm.trans h
    refine kw_aload_n dX12_sign_14 rfl ?_
    refine kw_dup dX12_sign_15 rfl ?_
    obtain ⟨v2, ev2, h⟩ := Option.bind_eq_some_iff.mp h
    refine kv_gI gfX12_74 dX12_sign_16 ev2 ?_
    refine kw_iconst (v := nI 1) dX12_sign_19 (by decide) ?_
    refine kw_iadd dX12_sign_20 ?_
    obtain ⟨hp3, ehp3, h⟩ := Option.bind_eq_some_iff.mp h
    refine kv_put pfX12_sign_74 (fun _ => ⟨rfl, rfl⟩) dX12_sign_21 ehp3 ?_
    refine kw_iconst (v := nI 1) dX12_sign_24 (by decide) ?_
    have h := Option.some.inj h
    subst h
    exact kw_zret rfl (Or.inr rfl) dX12_sign_25 hK
  · have h := (if_pos c6).symm.trans h
    refine kw_aload_n dX12_sign_8 rfl ?_
    refine kw_iconst (v := nI 1) dX12_sign_9 (by decide) ?_
    obtain ⟨r4, er4, h⟩ := Option.bind_eq_some_iff.mp h
    obtain ⟨ur4, eur4, er4⟩ := Option.bind_eq_some_iff.mp er4
    obtain ⟨fsr4, hor4⟩ := kp_ob_inv eur4
    refine kw_callV (As := [.int (nI 1)]) (S := []) kcX12 cbX12_sign_X12_refuse lkX12_87 imX12_refuse seX12_X12_refuse_X12_refuse rfl rfl (Nat.le_of_ble_eq_true rfl) dX12_sign_10 hor4 (X12_refuse_c G hp x0 (nI 1) _ er4) (fun vv hh hq => ?_)
    rw [hq.1, hq.2]
    show kw_V G mX12_sign 13 [some (.ref x0), some (.int x1)] [.int r4.1] r4.2 Q
    obtain ⟨v5, ev5, h⟩ := Option.bind_eq_some_iff.mp h
    obtain ⟨qv5, bv5⟩ := kv_bool ev5
    have h := Option.some.inj h
    subst h
    rw [qv5]
    exact kw_zret rfl bv5 dX12_sign_13 hK
/-! KitchenWheelsModel.readsNumber(II)Z -/
def X12_readsNumber_J37 (hp : kw_H) (x0 : Nat) : Option (Int32 × kw_H) :=
  ((kp_ob hp x0 11).bind fun _ => X12_refuse_F hp x0 (nI 1)).bind fun r3 =>
  (kp_bool r3.1).bind fun v4 =>
  some ((v4, r3.2))
set_option maxRecDepth 100000 in
set_option maxHeartbeats 4000000 in
theorem X12_readsNumber_J37_t (G : kw_G) (Q : Option Value → kw_H → Prop) (hp : kw_H) (x0 : Nat) (r : Int32 × kw_H) (h : X12_readsNumber_J37 hp x0 = some r) (hK : Q (some (.int r.1)) r.2) : kw_V G mX12_readsNumber 37 [some (.ref x0), none, none, none] [] hp Q := by
  unfold X12_readsNumber_J37 at h
  refine kw_aload_n dX12_readsNumber_37 rfl ?_
  refine kw_iconst (v := nI 1) dX12_readsNumber_38 (by decide) ?_
  obtain ⟨r3, er3, h⟩ := Option.bind_eq_some_iff.mp h
  obtain ⟨ur3, eur3, er3⟩ := Option.bind_eq_some_iff.mp er3
  obtain ⟨fsr3, hor3⟩ := kp_ob_inv eur3
  refine kw_callV (As := [.int (nI 1)]) (S := []) kcX12 cbX12_readsNumber_X12_refuse lkX12_87 imX12_refuse seX12_X12_refuse_X12_refuse rfl rfl (Nat.le_of_ble_eq_true rfl) dX12_readsNumber_39 hor3 (X12_refuse_c G hp x0 (nI 1) _ er3) (fun vv hh hq => ?_)
  rw [hq.1, hq.2]
  show kw_V G mX12_readsNumber 42 [some (.ref x0), none, none, none] [.int r3.1] r3.2 Q
  obtain ⟨v4, ev4, h⟩ := Option.bind_eq_some_iff.mp h
  obtain ⟨qv4, bv4⟩ := kv_bool ev4
  have h := Option.some.inj h
  subst h
  rw [qv4]
  exact kw_zret rfl bv4 dX12_readsNumber_42 hK
def X12_readsNumber_J113 (hp : kw_H) (x0 : Nat) (x1 : Int32) (x2 : Int32) (x3 : Int32) (s0 : Int32) (s1 : Nat) : Option (Int32 × kw_H) :=
  (kp_put hp s1 [11] 15 (.int s0)).bind fun hp14 =>
  (kp_gI hp14 x0 [11] 15).bind fun v15 =>
  (X12_in_F hp14 (Int32.toInt64 v15) (Int32.toInt64 x1) (Int32.toInt64 x2)).bind fun r16 =>
  (if r16 = 0 then
  ((kp_ob hp14 x0 11).bind fun _ => X12_refuse_F hp14 x0 (nI 2)).bind fun r19 =>
  (kp_bool r19.1).bind fun v20 =>
  some ((v20, r19.2))
else
  (kp_gI hp14 x0 [11] 13).bind fun v17 =>
  (kp_put hp14 x0 [11] 13 (.int (v17 + x3))).bind fun hp18 =>
  some ((nI 1, hp18)))
set_option maxRecDepth 100000 in
set_option maxHeartbeats 4000000 in
theorem X12_readsNumber_J113_t (G : kw_G) (Q : Option Value → kw_H → Prop) (hp : kw_H) (x0 : Nat) (x1 : Int32) (x2 : Int32) (x3 : Int32) (s0 : Int32) (s1 : Nat) (r : Int32 × kw_H) (h : X12_readsNumber_J113 hp x0 x1 x2 x3 s0 s1 = some r) (hK : Q (some (.int r.1)) r.2) : kw_V G mX12_readsNumber 113 [some (.ref x0), some (.int x1), some (.int x2), some (.int x3)] [.int s0, .ref s1] hp Q := by
  unfold X12_readsNumber_J113 at h
  obtain ⟨hp14, ehp14, h⟩ := Option.bind_eq_some_iff.mp h
  refine kv_put pfX12_readsNumber_93 (fun _ => ⟨rfl, rfl⟩) dX12_readsNumber_113 ehp14 ?_
  refine kw_aload_n dX12_readsNumber_116 rfl ?_
  obtain ⟨v15, ev15, h⟩ := Option.bind_eq_some_iff.mp h
  refine kv_gI gfX12_93 dX12_readsNumber_117 ev15 ?_
  refine kw_i2l dX12_readsNumber_120 ?_
  refine kw_iload_n dX12_readsNumber_121 rfl ?_
  refine kw_i2l dX12_readsNumber_122 ?_
  refine kw_iload_n dX12_readsNumber_123 rfl ?_
  refine kw_i2l dX12_readsNumber_124 ?_
  obtain ⟨r16, er16, h⟩ := Option.bind_eq_some_iff.mp h
  refine kw_callS (As := [.long (Int32.toInt64 v15), .long (Int32.toInt64 x1), .long (Int32.toInt64 x2)]) (S := []) cbX12_readsNumber_X12_in lkX12_42 stX12_in rfl rfl (Nat.le_of_ble_eq_true rfl) dX12_readsNumber_125 (X12_in_c G hp14 (Int32.toInt64 v15) (Int32.toInt64 x1) (Int32.toInt64 x2) _ er16) (fun vv hh hq => ?_)
  rw [hq.1, hq.2]
  show kw_V G mX12_readsNumber 128 [some (.ref x0), some (.int x1), some (.int x2), some (.int x3)] [.int r16] hp14 Q
  refine kw_if_ne 137 dX12_readsNumber_128 (by decide) (fun c21 => ?_) (fun c21 => ?_)
  · have h := (if_neg c21).symm.trans h
    refine kw_aload_n dX12_readsNumber_137 rfl ?_
    refine kw_dup dX12_readsNumber_138 rfl ?_
    obtain ⟨v17, ev17, h⟩ := Option.bind_eq_some_iff.mp h
    refine kv_gI gfX12_74 dX12_readsNumber_139 ev17 ?_
    refine kw_iload_n dX12_readsNumber_142 rfl ?_
    refine kw_iadd dX12_readsNumber_143 ?_
    obtain ⟨hp18, ehp18, h⟩ := Option.bind_eq_some_iff.mp h
    refine kv_put pfX12_readsNumber_74 (fun _ => ⟨rfl, rfl⟩) dX12_readsNumber_144 ehp18 ?_
    refine kw_iconst (v := nI 1) dX12_readsNumber_147 (by decide) ?_
    have h := Option.some.inj h
    subst h
    exact kw_zret rfl (Or.inr rfl) dX12_readsNumber_148 hK
  · have h := (if_pos c21).symm.trans h
    refine kw_aload_n dX12_readsNumber_131 rfl ?_
    refine kw_iconst (v := nI 2) dX12_readsNumber_132 (by decide) ?_
    obtain ⟨r19, er19, h⟩ := Option.bind_eq_some_iff.mp h
    obtain ⟨ur19, eur19, er19⟩ := Option.bind_eq_some_iff.mp er19
    obtain ⟨fsr19, hor19⟩ := kp_ob_inv eur19
    refine kw_callV (As := [.int (nI 2)]) (S := []) kcX12 cbX12_readsNumber_X12_refuse lkX12_87 imX12_refuse seX12_X12_refuse_X12_refuse rfl rfl (Nat.le_of_ble_eq_true rfl) dX12_readsNumber_133 hor19 (X12_refuse_c G hp14 x0 (nI 2) _ er19) (fun vv hh hq => ?_)
    rw [hq.1, hq.2]
    show kw_V G mX12_readsNumber 136 [some (.ref x0), some (.int x1), some (.int x2), some (.int x3)] [.int r19.1] r19.2 Q
    obtain ⟨v20, ev20, h⟩ := Option.bind_eq_some_iff.mp h
    obtain ⟨qv20, bv20⟩ := kv_bool ev20
    have h := Option.some.inj h
    subst h
    rw [qv20]
    exact kw_zret rfl bv20 dX12_readsNumber_136 hK
def X12_readsNumber_J77 (hp : kw_H) (x0 : Nat) (x1 : Int32) (x2 : Int32) (s0 : Int32) : Option (Int32 × kw_H) :=
  (if s0 = (nI 2) then
  (kp_gI hp x0 [11] 15).bind fun v22 =>
  (kp_gR hp x0 [11] 7).bind fun v23 =>
  (kp_gI hp x0 [11] 13).bind fun v24 =>
  (kp_ldI hp v23 (v24 + (nI 1))).bind fun v25 =>
  X12_readsNumber_J113 hp x0 x1 x2 s0 ((((nI 10) * v22) + v25) - (nI 48)) x0
else
  (kp_gI hp x0 [11] 15).bind fun v13 =>
  X12_readsNumber_J113 hp x0 x1 x2 s0 v13 x0)
set_option maxRecDepth 100000 in
set_option maxHeartbeats 4000000 in
theorem X12_readsNumber_J77_t (G : kw_G) (Q : Option Value → kw_H → Prop) (hp : kw_H) (x0 : Nat) (x1 : Int32) (x2 : Int32) (s0 : Int32) (r : Int32 × kw_H) (h : X12_readsNumber_J77 hp x0 x1 x2 s0 = some r) (hK : Q (some (.int r.1)) r.2) : kw_V G mX12_readsNumber 77 [some (.ref x0), some (.int x1), some (.int x2), none] [.int s0] hp Q := by
  unfold X12_readsNumber_J77 at h
  refine kw_istore_n (L' := [some (.ref x0), some (.int x1), some (.int x2), some (.int s0)]) dX12_readsNumber_77 (by decide) rfl ?_
  refine kw_aload_n dX12_readsNumber_78 rfl ?_
  refine kw_iload_n dX12_readsNumber_79 rfl ?_
  refine kw_iconst (v := nI 2) dX12_readsNumber_80 (by decide) ?_
  refine kw_icmp_ne 109 dX12_readsNumber_81 (by decide) (fun c26 => ?_) (fun c26 => ?_)
  · have h := (if_neg c26).symm.trans h
    refine kw_aload_n dX12_readsNumber_109 rfl ?_
    obtain ⟨v13, ev13, h⟩ := Option.bind_eq_some_iff.mp h
    refine kv_gI gfX12_93 dX12_readsNumber_110 ev13 ?_
    exact X12_readsNumber_J113_t G Q hp x0 x1 x2 s0 v13 x0 _ h hK
  · have h := (if_pos c26).symm.trans h
    refine kw_bipush (v := nI 10) dX12_readsNumber_84 (by decide) ?_
    refine kw_aload_n dX12_readsNumber_86 rfl ?_
    obtain ⟨v22, ev22, h⟩ := Option.bind_eq_some_iff.mp h
    refine kv_gI gfX12_93 dX12_readsNumber_87 ev22 ?_
    refine kw_imul dX12_readsNumber_90 ?_
    refine kw_aload_n dX12_readsNumber_91 rfl ?_
    obtain ⟨v23, ev23, h⟩ := Option.bind_eq_some_iff.mp h
    refine kv_gR gfX12_26 dX12_readsNumber_92 ev23 ?_
    refine kw_aload_n dX12_readsNumber_95 rfl ?_
    obtain ⟨v24, ev24, h⟩ := Option.bind_eq_some_iff.mp h
    refine kv_gI gfX12_74 dX12_readsNumber_96 ev24 ?_
    refine kw_iconst (v := nI 1) dX12_readsNumber_99 (by decide) ?_
    refine kw_iadd dX12_readsNumber_100 ?_
    obtain ⟨v25, ev25, h⟩ := Option.bind_eq_some_iff.mp h
    refine kv_ldI dX12_readsNumber_101 ev25 ?_
    refine kw_iadd dX12_readsNumber_102 ?_
    refine kw_bipush (v := nI 48) dX12_readsNumber_103 (by decide) ?_
    refine kw_isub dX12_readsNumber_105 ?_
    refine kw_goto 113 dX12_readsNumber_106 (by decide) ?_
    exact X12_readsNumber_J113_t G Q hp x0 x1 x2 s0 ((((nI 10) * v22) + v25) - (nI 48)) x0 _ h hK
def X12_readsNumber_J43 (hp : kw_H) (x0 : Nat) (x1 : Int32) (x2 : Int32) : Option (Int32 × kw_H) :=
  (kp_gR hp x0 [11] 7).bind fun v7 =>
  (kp_gI hp x0 [11] 13).bind fun v8 =>
  (kp_ldI hp v7 v8).bind fun v9 =>
  (kp_put hp x0 [11] 15 (.int (v9 - (nI 48)))).bind fun hp10 =>
  (kp_gI hp10 x0 [11] 13).bind fun v11 =>
  ((kp_ob hp10 x0 11).bind fun _ => X12_isFigure_F hp10 x0 (v11 + (nI 1))).bind fun r12 =>
  (if r12 = 0 then
  X12_readsNumber_J77 hp10 x0 x1 x2 (nI 1)
else
  X12_readsNumber_J77 hp10 x0 x1 x2 (nI 2))
set_option maxRecDepth 100000 in
set_option maxHeartbeats 4000000 in
theorem X12_readsNumber_J43_t (G : kw_G) (Q : Option Value → kw_H → Prop) (hp : kw_H) (x0 : Nat) (x1 : Int32) (x2 : Int32) (r : Int32 × kw_H) (h : X12_readsNumber_J43 hp x0 x1 x2 = some r) (hK : Q (some (.int r.1)) r.2) : kw_V G mX12_readsNumber 43 [some (.ref x0), some (.int x1), some (.int x2), none] [] hp Q := by
  unfold X12_readsNumber_J43 at h
  refine kw_aload_n dX12_readsNumber_43 rfl ?_
  refine kw_aload_n dX12_readsNumber_44 rfl ?_
  obtain ⟨v7, ev7, h⟩ := Option.bind_eq_some_iff.mp h
  refine kv_gR gfX12_26 dX12_readsNumber_45 ev7 ?_
  refine kw_aload_n dX12_readsNumber_48 rfl ?_
  obtain ⟨v8, ev8, h⟩ := Option.bind_eq_some_iff.mp h
  refine kv_gI gfX12_74 dX12_readsNumber_49 ev8 ?_
  obtain ⟨v9, ev9, h⟩ := Option.bind_eq_some_iff.mp h
  refine kv_ldI dX12_readsNumber_52 ev9 ?_
  refine kw_bipush (v := nI 48) dX12_readsNumber_53 (by decide) ?_
  refine kw_isub dX12_readsNumber_55 ?_
  obtain ⟨hp10, ehp10, h⟩ := Option.bind_eq_some_iff.mp h
  refine kv_put pfX12_readsNumber_93 (fun _ => ⟨rfl, rfl⟩) dX12_readsNumber_56 ehp10 ?_
  refine kw_aload_n dX12_readsNumber_59 rfl ?_
  refine kw_aload_n dX12_readsNumber_60 rfl ?_
  obtain ⟨v11, ev11, h⟩ := Option.bind_eq_some_iff.mp h
  refine kv_gI gfX12_74 dX12_readsNumber_61 ev11 ?_
  refine kw_iconst (v := nI 1) dX12_readsNumber_64 (by decide) ?_
  refine kw_iadd dX12_readsNumber_65 ?_
  obtain ⟨r12, er12, h⟩ := Option.bind_eq_some_iff.mp h
  obtain ⟨ur12, eur12, er12⟩ := Option.bind_eq_some_iff.mp er12
  obtain ⟨fsr12, hor12⟩ := kp_ob_inv eur12
  refine kw_callV (As := [.int (v11 + (nI 1))]) (S := []) kcX12 cbX12_readsNumber_X12_isFigure lkX12_90 imX12_isFigure seX12_X12_isFigure_X12_isFigure rfl rfl (Nat.le_of_ble_eq_true rfl) dX12_readsNumber_66 hor12 (X12_isFigure_c G hp10 x0 (v11 + (nI 1)) _ er12) (fun vv hh hq => ?_)
  rw [hq.1, hq.2]
  show kw_V G mX12_readsNumber 69 [some (.ref x0), some (.int x1), some (.int x2), none] [.int r12] hp10 Q
  refine kw_if_eq 76 dX12_readsNumber_69 (by decide) (fun c27 => ?_) (fun c27 => ?_)
  · have h := (if_pos c27).symm.trans h
    refine kw_iconst (v := nI 1) dX12_readsNumber_76 (by decide) ?_
    exact X12_readsNumber_J77_t G Q hp10 x0 x1 x2 (nI 1) _ h hK
  · have h := (if_neg c27).symm.trans h
    refine kw_iconst (v := nI 2) dX12_readsNumber_72 (by decide) ?_
    refine kw_goto 77 dX12_readsNumber_73 (by decide) ?_
    exact X12_readsNumber_J77_t G Q hp10 x0 x1 x2 (nI 2) _ h hK
def X12_readsNumber_F (hp : kw_H) (x0 : Nat) (x1 : Int32) (x2 : Int32) : Option (Int32 × kw_H) :=
  (kp_gI hp x0 [11] 13).bind fun v1 =>
  ((kp_ob hp x0 11).bind fun _ => X12_isFigure_F hp x0 v1).bind fun r2 =>
  (if r2 = 0 then
  X12_readsNumber_J37 hp x0
else
  (kp_gI hp x0 [11] 13).bind fun v5 =>
  ((kp_ob hp x0 11).bind fun _ => X12_isFigure_F hp x0 (v5 + (nI 1))).bind fun r6 =>
  (if r6 = 0 then
  X12_readsNumber_J43 hp x0 x1 x2
else
  (kp_gI hp x0 [11] 13).bind fun v28 =>
  ((kp_ob hp x0 11).bind fun _ => X12_isFigure_F hp x0 (v28 + (nI 2))).bind fun r29 =>
  (if r29 = 0 then
  X12_readsNumber_J43 hp x0 x1 x2
else
  X12_readsNumber_J37 hp x0)))
set_option maxRecDepth 100000 in
set_option maxHeartbeats 4000000 in
theorem X12_readsNumber_c (G : kw_G) (hp : kw_H) (x0 : Nat) (x1 : Int32) (x2 : Int32) (r : Int32 × kw_H) (h : X12_readsNumber_F hp x0 x1 x2 = some r) : kw_Met G mX12_readsNumber [.ref x0, .int x1, .int x2] hp (fun v h2 => v = some (.int r.1) ∧ h2 = r.2) := by
  refine kw_met (L := [some (.ref x0), some (.int x1), some (.int x2), none]) (r := 1) (by decide +kernel) (Nat.le_of_ble_eq_true rfl) rfl ?_
  unfold X12_readsNumber_F at h
  obtain ⟨Q, hQ⟩ : ∃ Q : Option Value → kw_H → Prop, Q = (fun v h2 => v = some (.int r.1) ∧ h2 = r.2) := ⟨_, rfl⟩
  have hK : Q (some (.int r.1)) r.2 := by rw [hQ]; exact ⟨rfl, rfl⟩
  rw [← hQ]
  clear hQ
  refine kw_aload_n dX12_readsNumber_0 rfl ?_
  refine kw_aload_n dX12_readsNumber_1 rfl ?_
  obtain ⟨v1, ev1, h⟩ := Option.bind_eq_some_iff.mp h
  refine kv_gI gfX12_74 dX12_readsNumber_2 ev1 ?_
  obtain ⟨r2, er2, h⟩ := Option.bind_eq_some_iff.mp h
  obtain ⟨ur2, eur2, er2⟩ := Option.bind_eq_some_iff.mp er2
  obtain ⟨fsr2, hor2⟩ := kp_ob_inv eur2
  refine kw_callV (As := [.int v1]) (S := []) kcX12 cbX12_readsNumber_X12_isFigure lkX12_90 imX12_isFigure seX12_X12_isFigure_X12_isFigure rfl rfl (Nat.le_of_ble_eq_true rfl) dX12_readsNumber_5 hor2 (X12_isFigure_c G hp x0 v1 _ er2) (fun vv hh hq => ?_)
  rw [hq.1, hq.2]
  show kw_V G mX12_readsNumber 8 [some (.ref x0), some (.int x1), some (.int x2), none] [.int r2] hp Q
  refine kw_if_eq 37 dX12_readsNumber_8 (by decide) (fun c32 => ?_) (fun c32 => ?_)
  · have h := (if_pos c32).symm.trans h
    refine kw_mask [true, false, false, true] (L' := [some (.ref x0), none, none, none]) rfl ?_
    exact X12_readsNumber_J37_t G Q hp x0 _ h hK
  · have h := (if_neg c32).symm.trans h
    refine kw_aload_n dX12_readsNumber_11 rfl ?_
    refine kw_aload_n dX12_readsNumber_12 rfl ?_
    obtain ⟨v5, ev5, h⟩ := Option.bind_eq_some_iff.mp h
    refine kv_gI gfX12_74 dX12_readsNumber_13 ev5 ?_
    refine kw_iconst (v := nI 1) dX12_readsNumber_16 (by decide) ?_
    refine kw_iadd dX12_readsNumber_17 ?_
    obtain ⟨r6, er6, h⟩ := Option.bind_eq_some_iff.mp h
    obtain ⟨ur6, eur6, er6⟩ := Option.bind_eq_some_iff.mp er6
    obtain ⟨fsr6, hor6⟩ := kp_ob_inv eur6
    refine kw_callV (As := [.int (v5 + (nI 1))]) (S := []) kcX12 cbX12_readsNumber_X12_isFigure lkX12_90 imX12_isFigure seX12_X12_isFigure_X12_isFigure rfl rfl (Nat.le_of_ble_eq_true rfl) dX12_readsNumber_18 hor6 (X12_isFigure_c G hp x0 (v5 + (nI 1)) _ er6) (fun vv hh hq => ?_)
    rw [hq.1, hq.2]
    show kw_V G mX12_readsNumber 21 [some (.ref x0), some (.int x1), some (.int x2), none] [.int r6] hp Q
    refine kw_if_eq 43 dX12_readsNumber_21 (by decide) (fun c31 => ?_) (fun c31 => ?_)
    · have h := (if_pos c31).symm.trans h
      exact X12_readsNumber_J43_t G Q hp x0 x1 x2 _ h hK
    · have h := (if_neg c31).symm.trans h
      refine kw_aload_n dX12_readsNumber_24 rfl ?_
      refine kw_aload_n dX12_readsNumber_25 rfl ?_
      obtain ⟨v28, ev28, h⟩ := Option.bind_eq_some_iff.mp h
      refine kv_gI gfX12_74 dX12_readsNumber_26 ev28 ?_
      refine kw_iconst (v := nI 2) dX12_readsNumber_29 (by decide) ?_
      refine kw_iadd dX12_readsNumber_30 ?_
      obtain ⟨r29, er29, h⟩ := Option.bind_eq_some_iff.mp h
      obtain ⟨ur29, eur29, er29⟩ := Option.bind_eq_some_iff.mp er29
      obtain ⟨fsr29, hor29⟩ := kp_ob_inv eur29
      refine kw_callV (As := [.int (v28 + (nI 2))]) (S := []) kcX12 cbX12_readsNumber_X12_isFigure lkX12_90 imX12_isFigure seX12_X12_isFigure_X12_isFigure rfl rfl (Nat.le_of_ble_eq_true rfl) dX12_readsNumber_31 hor29 (X12_isFigure_c G hp x0 (v28 + (nI 2)) _ er29) (fun vv hh hq => ?_)
      rw [hq.1, hq.2]
      show kw_V G mX12_readsNumber 34 [some (.ref x0), some (.int x1), some (.int x2), none] [.int r29] hp Q
      refine kw_if_eq 43 dX12_readsNumber_34 (by decide) (fun c30 => ?_) (fun c30 => ?_)
      · have h := (if_pos c30).symm.trans h
        exact X12_readsNumber_J43_t G Q hp x0 x1 x2 _ h hK
      · have h := (if_neg c30).symm.trans h
        refine kw_mask [true, false, false, true] (L' := [some (.ref x0), none, none, none]) rfl ?_
        exact X12_readsNumber_J37_t G Q hp x0 _ h hK
/-! KitchenWheelsModel.readsWheel(II)I -/
def X12_readsWheel_K13 (G : kw_G) (Q : Option Value → kw_H → Prop) (x0 : Nat) (x2 : Int32) (r : (Int32 × kw_H) ⊕ (Int32 × kw_H)) : Prop := match r with
  | .inl z => kw_V G mX12_readsWheel 13 [some (.ref x0), none, some (.int x2), some (.int z.1)] [] z.2 Q
  | .inr r => Q (some (.int r.1)) r.2
def X12_readsWheel_J121 (hp : kw_H) (x0 : Nat) (x3 : Int32) : Option (Int32 × kw_H) :=
  (if x3 = 0 then
  (kp_put hp x0 [11] 14 (.int (nI 1))).bind fun hp6 =>
  some (((-1000000), hp6))
else
  ((kp_ob hp x0 11).bind fun _ => X12_sign_F hp x0 (nI 59)).bind fun r4 =>
  (if r4.1 = 0 then
  some (((-1000000), r4.2))
else
  some ((x3, r4.2))))
set_option maxRecDepth 100000 in
set_option maxHeartbeats 4000000 in
theorem X12_readsWheel_J121_t (G : kw_G) (Q : Option Value → kw_H → Prop) (hp : kw_H) (x0 : Nat) (x3 : Int32) (r : Int32 × kw_H) (h : X12_readsWheel_J121 hp x0 x3 = some r) (hK : Q (some (.int r.1)) r.2) : kw_V G mX12_readsWheel 121 [some (.ref x0), none, none, some (.int x3)] [] hp Q := by
  unfold X12_readsWheel_J121 at h
  refine kw_iload_n dX12_readsWheel_121 rfl ?_
  refine kw_if_ne 133 dX12_readsWheel_122 (by decide) (fun c7 => ?_) (fun c7 => ?_)
  · have h := (if_neg c7).symm.trans h
    refine kw_aload_n dX12_readsWheel_133 rfl ?_
    refine kw_bipush (v := nI 59) dX12_readsWheel_134 (by decide) ?_
    obtain ⟨r4, er4, h⟩ := Option.bind_eq_some_iff.mp h
    obtain ⟨ur4, eur4, er4⟩ := Option.bind_eq_some_iff.mp er4
    obtain ⟨fsr4, hor4⟩ := kp_ob_inv eur4
    refine kw_callV (As := [.int (nI 59)]) (S := []) kcX12 cbX12_readsWheel_X12_sign lkX12_96 imX12_sign seX12_X12_sign_X12_sign rfl rfl (Nat.le_of_ble_eq_true rfl) dX12_readsWheel_136 hor4 (X12_sign_c G hp x0 (nI 59) _ er4) (fun vv hh hq => ?_)
    rw [hq.1, hq.2]
    show kw_V G mX12_readsWheel 139 [some (.ref x0), none, none, some (.int x3)] [.int r4.1] r4.2 Q
    refine kw_if_eq 146 dX12_readsWheel_139 (by decide) (fun c5 => ?_) (fun c5 => ?_)
    · have h := (if_pos c5).symm.trans h
      refine kw_ldc (v := (-1000000)) dX12_readsWheel_146 ckX12_99 ?_
      have h := Option.some.inj h
      subst h
      exact kw_iret rfl dX12_readsWheel_148 hK
    · have h := (if_neg c5).symm.trans h
      refine kw_iload_n dX12_readsWheel_142 rfl ?_
      refine kw_goto 148 dX12_readsWheel_143 (by decide) ?_
      have h := Option.some.inj h
      subst h
      exact kw_iret rfl dX12_readsWheel_148 hK
  · have h := (if_pos c7).symm.trans h
    refine kw_aload_n dX12_readsWheel_125 rfl ?_
    refine kw_iconst (v := nI 1) dX12_readsWheel_126 (by decide) ?_
    obtain ⟨hp6, ehp6, h⟩ := Option.bind_eq_some_iff.mp h
    refine kv_put pfX12_readsWheel_81 (fun _ => ⟨rfl, rfl⟩) dX12_readsWheel_127 ehp6 ?_
    refine kw_ldc (v := (-1000000)) dX12_readsWheel_130 ckX12_99 ?_
    have h := Option.some.inj h
    subst h
    exact kw_iret rfl dX12_readsWheel_132 hK
def X12_readsWheel_J104 (hp : kw_H) (x0 : Nat) (x2 : Int32) (x3 : Int32) (s0 : Int32) (s1 : Int32) (s2 : Nat) : Option (((Int32 × kw_H) ⊕ (Int32 × kw_H))) :=
  (kp_stI hp s2 s1 s0).bind fun hp21 =>
  (kp_gI hp21 x0 [11] 13).bind fun v22 =>
  (kp_put hp21 x0 [11] 13 (.int (v22 + (nI 1)))).bind fun hp23 =>
  some (.inl (x3 + (nI 1), hp23))
set_option maxRecDepth 100000 in
set_option maxHeartbeats 4000000 in
theorem X12_readsWheel_J104_t (G : kw_G) (Q : Option Value → kw_H → Prop) (hp : kw_H) (x0 : Nat) (x2 : Int32) (x3 : Int32) (s0 : Int32) (s1 : Int32) (s2 : Nat) (r : ((Int32 × kw_H) ⊕ (Int32 × kw_H))) (h : X12_readsWheel_J104 hp x0 x2 x3 s0 s1 s2 = some r) (hK : X12_readsWheel_K13 G Q x0 x2 r) : kw_V G mX12_readsWheel 104 [some (.ref x0), none, some (.int x2), some (.int x3)] [.int s0, .int s1, .ref s2] hp Q := by
  unfold X12_readsWheel_J104 at h
  obtain ⟨hp21, ehp21, h⟩ := Option.bind_eq_some_iff.mp h
  refine kv_stI dX12_readsWheel_104 ehp21 ?_
  refine kv_iinc (w := nI 1) (L' := [some (.ref x0), none, some (.int x2), some (.int (x3 + (nI 1)))]) dX12_readsWheel_105 (by decide) rfl (by decide) rfl ?_
  refine kw_aload_n dX12_readsWheel_108 rfl ?_
  refine kw_dup dX12_readsWheel_109 rfl ?_
  obtain ⟨v22, ev22, h⟩ := Option.bind_eq_some_iff.mp h
  refine kv_gI gfX12_74 dX12_readsWheel_110 ev22 ?_
  refine kw_iconst (v := nI 1) dX12_readsWheel_113 (by decide) ?_
  refine kw_iadd dX12_readsWheel_114 ?_
  obtain ⟨hp23, ehp23, h⟩ := Option.bind_eq_some_iff.mp h
  refine kv_put pfX12_readsWheel_74 (fun _ => ⟨rfl, rfl⟩) dX12_readsWheel_115 ehp23 ?_
  refine kw_goto 13 dX12_readsWheel_118 (by decide) ?_
  have h := Option.some.inj h
  subst h
  exact hK
def X12_readsWheel_J66 (hp : kw_H) (x0 : Nat) (x2 : Int32) (x3 : Int32) : Option (((Int32 × kw_H) ⊕ (Int32 × kw_H))) :=
  (kp_gR hp x0 [11] 0).bind fun v14 =>
  (kp_gR hp x0 [11] 7).bind fun v15 =>
  (kp_gI hp x0 [11] 13).bind fun v16 =>
  (kp_ldI hp v15 v16).bind fun v17 =>
  (if v17 = (nI 122) then
  X12_readsWheel_J104 hp x0 x2 x3 (nI 6) (x2 + x3) v14
else
  (kp_gR hp x0 [11] 7).bind fun v18 =>
  (kp_gI hp x0 [11] 13).bind fun v19 =>
  (kp_ldI hp v18 v19).bind fun v20 =>
  X12_readsWheel_J104 hp x0 x2 x3 (v20 - (nI 97)) (x2 + x3) v14)
set_option maxRecDepth 100000 in
set_option maxHeartbeats 4000000 in
theorem X12_readsWheel_J66_t (G : kw_G) (Q : Option Value → kw_H → Prop) (hp : kw_H) (x0 : Nat) (x2 : Int32) (x3 : Int32) (r : ((Int32 × kw_H) ⊕ (Int32 × kw_H))) (h : X12_readsWheel_J66 hp x0 x2 x3 = some r) (hK : X12_readsWheel_K13 G Q x0 x2 r) : kw_V G mX12_readsWheel 66 [some (.ref x0), none, some (.int x2), some (.int x3)] [] hp Q := by
  unfold X12_readsWheel_J66 at h
  refine kw_aload_n dX12_readsWheel_66 rfl ?_
  obtain ⟨v14, ev14, h⟩ := Option.bind_eq_some_iff.mp h
  refine kv_gR gfX12_7 dX12_readsWheel_67 ev14 ?_
  refine kw_iload_n dX12_readsWheel_70 rfl ?_
  refine kw_iload_n dX12_readsWheel_71 rfl ?_
  refine kw_iadd dX12_readsWheel_72 ?_
  refine kw_aload_n dX12_readsWheel_73 rfl ?_
  obtain ⟨v15, ev15, h⟩ := Option.bind_eq_some_iff.mp h
  refine kv_gR gfX12_26 dX12_readsWheel_74 ev15 ?_
  refine kw_aload_n dX12_readsWheel_77 rfl ?_
  obtain ⟨v16, ev16, h⟩ := Option.bind_eq_some_iff.mp h
  refine kv_gI gfX12_74 dX12_readsWheel_78 ev16 ?_
  obtain ⟨v17, ev17, h⟩ := Option.bind_eq_some_iff.mp h
  refine kv_ldI dX12_readsWheel_81 ev17 ?_
  refine kw_bipush (v := nI 122) dX12_readsWheel_82 (by decide) ?_
  refine kw_icmp_ne 92 dX12_readsWheel_84 (by decide) (fun c24 => ?_) (fun c24 => ?_)
  · have h := (if_neg c24).symm.trans h
    refine kw_aload_n dX12_readsWheel_92 rfl ?_
    obtain ⟨v18, ev18, h⟩ := Option.bind_eq_some_iff.mp h
    refine kv_gR gfX12_26 dX12_readsWheel_93 ev18 ?_
    refine kw_aload_n dX12_readsWheel_96 rfl ?_
    obtain ⟨v19, ev19, h⟩ := Option.bind_eq_some_iff.mp h
    refine kv_gI gfX12_74 dX12_readsWheel_97 ev19 ?_
    obtain ⟨v20, ev20, h⟩ := Option.bind_eq_some_iff.mp h
    refine kv_ldI dX12_readsWheel_100 ev20 ?_
    refine kw_bipush (v := nI 97) dX12_readsWheel_101 (by decide) ?_
    refine kw_isub dX12_readsWheel_103 ?_
    exact X12_readsWheel_J104_t G Q hp x0 x2 x3 (v20 - (nI 97)) (x2 + x3) v14 _ h hK
  · have h := (if_pos c24).symm.trans h
    refine kw_bipush (v := nI 6) dX12_readsWheel_87 (by decide) ?_
    refine kw_goto 104 dX12_readsWheel_89 (by decide) ?_
    exact X12_readsWheel_J104_t G Q hp x0 x2 x3 (nI 6) (x2 + x3) v14 _ h hK
def X12_readsWheel_b13 (x0 : Nat) (x2 : Int32) (x3 : Int32) (hp : kw_H) : Option (((Int32 × kw_H) ⊕ (Int32 × kw_H))) :=
  (kp_gI hp x0 [11] 13).bind fun v2 =>
  (kp_gI hp x0 [11] 8).bind fun v3 =>
  (if v3 ≤ v2 then
  (X12_readsWheel_J121 hp x0 x3).map (fun r => .inr (r))
else
  (if (nI 8) ≤ x3 then
  (X12_readsWheel_J121 hp x0 x3).map (fun r => .inr (r))
else
  (kp_gR hp x0 [11] 7).bind fun v10 =>
  (kp_gI hp x0 [11] 13).bind fun v11 =>
  (kp_ldI hp v10 v11).bind fun v12 =>
  (X12_in_F hp (Int32.toInt64 v12) (lN 97) (lN 102)).bind fun r13 =>
  (if r13 = 0 then
  (kp_gR hp x0 [11] 7).bind fun v25 =>
  (kp_gI hp x0 [11] 13).bind fun v26 =>
  (kp_ldI hp v25 v26).bind fun v27 =>
  (if v27 = (nI 122) then
  X12_readsWheel_J66 hp x0 x2 x3
else
  (X12_readsWheel_J121 hp x0 x3).map (fun r => .inr (r)))
else
  X12_readsWheel_J66 hp x0 x2 x3)))
set_option maxRecDepth 100000 in
set_option maxHeartbeats 4000000 in
theorem X12_readsWheel_b13_t (G : kw_G) (Q : Option Value → kw_H → Prop) (x0 : Nat) (x2 : Int32) (x3 : Int32) (hp : kw_H) (r : ((Int32 × kw_H) ⊕ (Int32 × kw_H))) (h : X12_readsWheel_b13 x0 x2 x3 hp = some r) (hK : X12_readsWheel_K13 G Q x0 x2 r) : kw_V G mX12_readsWheel 13 [some (.ref x0), none, some (.int x2), some (.int x3)] [] hp Q := by
  unfold X12_readsWheel_b13 at h
  refine kw_aload_n dX12_readsWheel_13 rfl ?_
  obtain ⟨v2, ev2, h⟩ := Option.bind_eq_some_iff.mp h
  refine kv_gI gfX12_74 dX12_readsWheel_14 ev2 ?_
  refine kw_aload_n dX12_readsWheel_17 rfl ?_
  obtain ⟨v3, ev3, h⟩ := Option.bind_eq_some_iff.mp h
  refine kv_gI gfX12_70 dX12_readsWheel_18 ev3 ?_
  refine kw_icmp_ge 121 dX12_readsWheel_21 (by decide) (fun c32 => ?_) (fun c32 => ?_)
  · have h := (if_pos c32).symm.trans h
    refine kw_mask [true, true, false, true] (L' := [some (.ref x0), none, none, some (.int x3)]) rfl ?_
    obtain ⟨r8, hr8, hrr8⟩ := Option.map_eq_some_iff.mp h
    subst hrr8
    exact X12_readsWheel_J121_t G Q hp x0 x3 r8 hr8 hK
  · have h := (if_neg c32).symm.trans h
    refine kw_iload_n dX12_readsWheel_24 rfl ?_
    refine kw_bipush (v := nI 8) dX12_readsWheel_25 (by decide) ?_
    refine kw_icmp_ge 121 dX12_readsWheel_27 (by decide) (fun c31 => ?_) (fun c31 => ?_)
    · have h := (if_pos c31).symm.trans h
      refine kw_mask [true, true, false, true] (L' := [some (.ref x0), none, none, some (.int x3)]) rfl ?_
      obtain ⟨r9, hr9, hrr9⟩ := Option.map_eq_some_iff.mp h
      subst hrr9
      exact X12_readsWheel_J121_t G Q hp x0 x3 r9 hr9 hK
    · have h := (if_neg c31).symm.trans h
      refine kw_aload_n dX12_readsWheel_30 rfl ?_
      obtain ⟨v10, ev10, h⟩ := Option.bind_eq_some_iff.mp h
      refine kv_gR gfX12_26 dX12_readsWheel_31 ev10 ?_
      refine kw_aload_n dX12_readsWheel_34 rfl ?_
      obtain ⟨v11, ev11, h⟩ := Option.bind_eq_some_iff.mp h
      refine kv_gI gfX12_74 dX12_readsWheel_35 ev11 ?_
      obtain ⟨v12, ev12, h⟩ := Option.bind_eq_some_iff.mp h
      refine kv_ldI dX12_readsWheel_38 ev12 ?_
      refine kw_i2l dX12_readsWheel_39 ?_
      refine kw_ldc2_w (v := lN 97) dX12_readsWheel_40 ckX12_100 ?_
      refine kw_ldc2_w (v := lN 102) dX12_readsWheel_43 ckX12_102 ?_
      obtain ⟨r13, er13, h⟩ := Option.bind_eq_some_iff.mp h
      refine kw_callS (As := [.long (Int32.toInt64 v12), .long (lN 97), .long (lN 102)]) (S := []) cbX12_readsWheel_X12_in lkX12_42 stX12_in rfl rfl (Nat.le_of_ble_eq_true rfl) dX12_readsWheel_46 (X12_in_c G hp (Int32.toInt64 v12) (lN 97) (lN 102) _ er13) (fun vv hh hq => ?_)
      rw [hq.1, hq.2]
      show kw_V G mX12_readsWheel 49 [some (.ref x0), none, some (.int x2), some (.int x3)] [.int r13] hp Q
      refine kw_if_ne 66 dX12_readsWheel_49 (by decide) (fun c30 => ?_) (fun c30 => ?_)
      · have h := (if_neg c30).symm.trans h
        exact X12_readsWheel_J66_t G Q hp x0 x2 x3 _ h hK
      · have h := (if_pos c30).symm.trans h
        refine kw_aload_n dX12_readsWheel_52 rfl ?_
        obtain ⟨v25, ev25, h⟩ := Option.bind_eq_some_iff.mp h
        refine kv_gR gfX12_26 dX12_readsWheel_53 ev25 ?_
        refine kw_aload_n dX12_readsWheel_56 rfl ?_
        obtain ⟨v26, ev26, h⟩ := Option.bind_eq_some_iff.mp h
        refine kv_gI gfX12_74 dX12_readsWheel_57 ev26 ?_
        obtain ⟨v27, ev27, h⟩ := Option.bind_eq_some_iff.mp h
        refine kv_ldI dX12_readsWheel_60 ev27 ?_
        refine kw_bipush (v := nI 122) dX12_readsWheel_61 (by decide) ?_
        refine kw_icmp_ne 121 dX12_readsWheel_63 (by decide) (fun c29 => ?_) (fun c29 => ?_)
        · have h := (if_neg c29).symm.trans h
          refine kw_mask [true, true, false, true] (L' := [some (.ref x0), none, none, some (.int x3)]) rfl ?_
          obtain ⟨r28, hr28, hrr28⟩ := Option.map_eq_some_iff.mp h
          subst hrr28
          exact X12_readsWheel_J121_t G Q hp x0 x3 r28 hr28 hK
        · have h := (if_pos c29).symm.trans h
          exact X12_readsWheel_J66_t G Q hp x0 x2 x3 _ h hK
def X12_readsWheel_B13 (x0 : Nat) (x2 : Int32) (z : Int32 × kw_H) : Option (((Int32 × kw_H) ⊕ (Int32 × kw_H))) := X12_readsWheel_b13 x0 x2 z.1 z.2
theorem X12_readsWheel_L13_t (G : kw_G) (Q : Option Value → kw_H → Prop) (x0 : Nat) (x2 : Int32) (n : Nat) (z : Int32 × kw_H) (r : Int32 × kw_H) (h : kp_lp (X12_readsWheel_B13 x0 x2) n z = some r) (hK : Q (some (.int r.1)) r.2) : kw_V G mX12_readsWheel 13 [some (.ref x0), none, some (.int x2), some (.int z.1)] [] z.2 Q :=
  kv_lp _ (fun z => kw_V G mX12_readsWheel 13 [some (.ref x0), none, some (.int x2), some (.int z.1)] [] z.2 Q) (fun r => Q (some (.int r.1)) r.2) (fun z x hb hx => X12_readsWheel_b13_t G Q x0 x2 z.1 z.2 x hb (by cases x <;> exact hx)) n z r h hK
def X12_readsWheel_F (hp : kw_H) (x0 : Nat) (x1 : Int32) (x2 : Int32) : Option (Int32 × kw_H) :=
  ((kp_ob hp x0 11).bind fun _ => X12_sign_F hp x0 x1).bind fun r1 =>
  (if r1.1 = 0 then
  some (((-1000000), r1.2))
else
  kp_lp (X12_readsWheel_B13 x0 x2) 2000 (nI 0, r1.2))
set_option maxRecDepth 100000 in
set_option maxHeartbeats 4000000 in
theorem X12_readsWheel_c (G : kw_G) (hp : kw_H) (x0 : Nat) (x1 : Int32) (x2 : Int32) (r : Int32 × kw_H) (h : X12_readsWheel_F hp x0 x1 x2 = some r) : kw_Met G mX12_readsWheel [.ref x0, .int x1, .int x2] hp (fun v h2 => v = some (.int r.1) ∧ h2 = r.2) := by
  refine kw_met (L := [some (.ref x0), some (.int x1), some (.int x2), none]) (r := 1) (by decide +kernel) (Nat.le_of_ble_eq_true rfl) rfl ?_
  unfold X12_readsWheel_F at h
  obtain ⟨Q, hQ⟩ : ∃ Q : Option Value → kw_H → Prop, Q = (fun v h2 => v = some (.int r.1) ∧ h2 = r.2) := ⟨_, rfl⟩
  have hK : Q (some (.int r.1)) r.2 := by rw [hQ]; exact ⟨rfl, rfl⟩
  rw [← hQ]
  clear hQ
  refine kw_aload_n dX12_readsWheel_0 rfl ?_
  refine kw_iload_n dX12_readsWheel_1 rfl ?_
  obtain ⟨r1, er1, h⟩ := Option.bind_eq_some_iff.mp h
  obtain ⟨ur1, eur1, er1⟩ := Option.bind_eq_some_iff.mp er1
  obtain ⟨fsr1, hor1⟩ := kp_ob_inv eur1
  refine kw_callV (As := [.int x1]) (S := []) kcX12 cbX12_readsWheel_X12_sign lkX12_96 imX12_sign seX12_X12_sign_X12_sign rfl rfl (Nat.le_of_ble_eq_true rfl) dX12_readsWheel_2 hor1 (X12_sign_c G hp x0 x1 _ er1) (fun vv hh hq => ?_)
  rw [hq.1, hq.2]
  show kw_V G mX12_readsWheel 5 [some (.ref x0), some (.int x1), some (.int x2), none] [.int r1.1] r1.2 Q
  refine kw_if_ne 11 dX12_readsWheel_5 (by decide) (fun c33 => ?_) (fun c33 => ?_)
  · have h := (if_neg c33).symm.trans h
    refine kw_iconst (v := nI 0) dX12_readsWheel_11 (by decide) ?_
    refine kw_istore_n (L' := [some (.ref x0), some (.int x1), some (.int x2), some (.int (nI 0))]) dX12_readsWheel_12 (by decide) rfl ?_
    refine kw_mask [true, false, true, true] (L' := [some (.ref x0), none, some (.int x2), some (.int (nI 0))]) rfl ?_
    exact X12_readsWheel_L13_t G Q x0 x2 _ (nI 0, r1.2) _ h hK
  · have h := (if_pos c33).symm.trans h
    refine kw_ldc (v := (-1000000)) dX12_readsWheel_8 ckX12_99 ?_
    have h := Option.some.inj h
    subst h
    exact kw_iret rfl dX12_readsWheel_10 hK
/-! KitchenWheelsModel.kindOfLetter(I)I -/
def X12_kindOfLetter_F (hp : kw_H) (x0 : Int32) : Option (Int32) :=
  (if x0 = (nI 111) then
  some (nI 1)
else
  (if x0 = (nI 115) then
  some (nI 2)
else
  (if x0 = (nI 98) then
  some (nI 3)
else
  (if x0 = (nI 108) then
  some (nI 4)
else
  (if x0 = (nI 114) then
  some (nI 5)
else
  some (nI 0))))))
set_option maxRecDepth 100000 in
set_option maxHeartbeats 4000000 in
theorem X12_kindOfLetter_c (G : kw_G) (hp : kw_H) (x0 : Int32) (r : Int32) (h : X12_kindOfLetter_F hp x0 = some r) : kw_Met G mX12_kindOfLetter [.int x0] hp (fun v h2 => v = some (.int r) ∧ h2 = hp) := by
  refine kw_met (L := [some (.int x0)]) (r := 0) (by decide +kernel) (Nat.le_of_ble_eq_true rfl) rfl ?_
  unfold X12_kindOfLetter_F at h
  obtain ⟨Q, hQ⟩ : ∃ Q : Option Value → kw_H → Prop, Q = (fun v h2 => v = some (.int r) ∧ h2 = hp) := ⟨_, rfl⟩
  have hK : Q (some (.int r)) hp := by rw [hQ]; exact ⟨rfl, rfl⟩
  rw [← hQ]
  clear hQ
  refine kw_iload_n dX12_kindOfLetter_0 rfl ?_
  refine kw_bipush (v := nI 111) dX12_kindOfLetter_1 (by decide) ?_
  refine kw_icmp_ne 10 dX12_kindOfLetter_3 (by decide) (fun c5 => ?_) (fun c5 => ?_)
  · have h := (if_neg c5).symm.trans h
    refine kw_iload_n dX12_kindOfLetter_10 rfl ?_
    refine kw_bipush (v := nI 115) dX12_kindOfLetter_11 (by decide) ?_
    refine kw_icmp_ne 20 dX12_kindOfLetter_13 (by decide) (fun c4 => ?_) (fun c4 => ?_)
    · have h := (if_neg c4).symm.trans h
      refine kw_iload_n dX12_kindOfLetter_20 rfl ?_
      refine kw_bipush (v := nI 98) dX12_kindOfLetter_21 (by decide) ?_
      refine kw_icmp_ne 30 dX12_kindOfLetter_23 (by decide) (fun c3 => ?_) (fun c3 => ?_)
      · have h := (if_neg c3).symm.trans h
        refine kw_iload_n dX12_kindOfLetter_30 rfl ?_
        refine kw_bipush (v := nI 108) dX12_kindOfLetter_31 (by decide) ?_
        refine kw_icmp_ne 40 dX12_kindOfLetter_33 (by decide) (fun c2 => ?_) (fun c2 => ?_)
        · have h := (if_neg c2).symm.trans h
          refine kw_iload_n dX12_kindOfLetter_40 rfl ?_
          refine kw_bipush (v := nI 114) dX12_kindOfLetter_41 (by decide) ?_
          refine kw_icmp_ne 50 dX12_kindOfLetter_43 (by decide) (fun c1 => ?_) (fun c1 => ?_)
          · have h := (if_neg c1).symm.trans h
            refine kw_iconst (v := nI 0) dX12_kindOfLetter_50 (by decide) ?_
            have h := Option.some.inj h
            subst h
            exact kw_iret rfl dX12_kindOfLetter_51 hK
          · have h := (if_pos c1).symm.trans h
            refine kw_iconst (v := nI 5) dX12_kindOfLetter_46 (by decide) ?_
            refine kw_goto 51 dX12_kindOfLetter_47 (by decide) ?_
            have h := Option.some.inj h
            subst h
            exact kw_iret rfl dX12_kindOfLetter_51 hK
        · have h := (if_pos c2).symm.trans h
          refine kw_iconst (v := nI 4) dX12_kindOfLetter_36 (by decide) ?_
          refine kw_goto 51 dX12_kindOfLetter_37 (by decide) ?_
          have h := Option.some.inj h
          subst h
          exact kw_iret rfl dX12_kindOfLetter_51 hK
      · have h := (if_pos c3).symm.trans h
        refine kw_iconst (v := nI 3) dX12_kindOfLetter_26 (by decide) ?_
        refine kw_goto 51 dX12_kindOfLetter_27 (by decide) ?_
        have h := Option.some.inj h
        subst h
        exact kw_iret rfl dX12_kindOfLetter_51 hK
    · have h := (if_pos c4).symm.trans h
      refine kw_iconst (v := nI 2) dX12_kindOfLetter_16 (by decide) ?_
      refine kw_goto 51 dX12_kindOfLetter_17 (by decide) ?_
      have h := Option.some.inj h
      subst h
      exact kw_iret rfl dX12_kindOfLetter_51 hK
  · have h := (if_pos c5).symm.trans h
    refine kw_iconst (v := nI 1) dX12_kindOfLetter_6 (by decide) ?_
    refine kw_goto 51 dX12_kindOfLetter_7 (by decide) ?_
    have h := Option.some.inj h
    subst h
    exact kw_iret rfl dX12_kindOfLetter_51 hK
/-! KitchenWheelsModel.readsTurner()Z -/
def X12_readsTurner_F (hp : kw_H) (x0 : Nat) : Option (Int32 × kw_H) :=
  (kp_gR hp x0 [11] 0).bind fun v1 =>
  (kp_ldI hp v1 (nI 1784)).bind fun v2 =>
  (if v2 = (nI 4) then
  ((kp_ob hp x0 11).bind fun _ => X12_refuse_F hp x0 (nI 3)).bind fun r21 =>
  (kp_bool r21.1).bind fun v22 =>
  some ((v22, r21.2))
else
  (kp_gR hp x0 [11] 0).bind fun v3 =>
  (kp_gR hp x0 [11] 7).bind fun v4 =>
  (kp_gI hp x0 [11] 13).bind fun v5 =>
  (kp_ldI hp v4 v5).bind fun v6 =>
  (X12_kindOfLetter_F hp v6).bind fun r7 =>
  (kp_stI hp v3 ((nI 1804) + v2) r7).bind fun hp8 =>
  (kp_gI hp8 x0 [11] 13).bind fun v9 =>
  (kp_put hp8 x0 [11] 13 (.int (v9 + (nI 1)))).bind fun hp10 =>
  ((kp_ob hp10 x0 11).bind fun _ => X12_readsNumber_F hp10 x0 (nI 0) (nI 9)).bind fun r11 =>
  (if r11.1 = 0 then
  some ((nI 0, r11.2))
else
  (kp_gR r11.2 x0 [11] 0).bind fun v12 =>
  (kp_gI r11.2 x0 [11] 15).bind fun v13 =>
  (kp_stI r11.2 v12 ((nI 1808) + v2) v13).bind fun hp14 =>
  (kp_gR hp14 x0 [11] 0).bind fun v15 =>
  (kp_ldI hp14 v15 (nI 1784)).bind fun v16 =>
  (kp_stI hp14 v15 (nI 1784) (v16 + (nI 1))).bind fun hp17 =>
  ((kp_ob hp17 x0 11).bind fun _ => X12_sign_F hp17 x0 (nI 59)).bind fun r18 =>
  (kp_bool r18.1).bind fun v19 =>
  some ((v19, r18.2))))
set_option maxRecDepth 100000 in
set_option maxHeartbeats 4000000 in
theorem X12_readsTurner_c (G : kw_G) (hp : kw_H) (x0 : Nat) (r : Int32 × kw_H) (h : X12_readsTurner_F hp x0 = some r) : kw_Met G mX12_readsTurner [.ref x0] hp (fun v h2 => v = some (.int r.1) ∧ h2 = r.2) := by
  refine kw_met (L := [some (.ref x0), none]) (r := 1) (by decide +kernel) (Nat.le_of_ble_eq_true rfl) rfl ?_
  unfold X12_readsTurner_F at h
  obtain ⟨Q, hQ⟩ : ∃ Q : Option Value → kw_H → Prop, Q = (fun v h2 => v = some (.int r.1) ∧ h2 = r.2) := ⟨_, rfl⟩
  have hK : Q (some (.int r.1)) r.2 := by rw [hQ]; exact ⟨rfl, rfl⟩
  rw [← hQ]
  clear hQ
  refine kw_aload_n dX12_readsTurner_0 rfl ?_
  obtain ⟨v1, ev1, h⟩ := Option.bind_eq_some_iff.mp h
  refine kv_gR gfX12_7 dX12_readsTurner_1 ev1 ?_
  refine kw_sipush (v := nI 1784) dX12_readsTurner_4 (by decide) ?_
  obtain ⟨v2, ev2, h⟩ := Option.bind_eq_some_iff.mp h
  refine kv_ldI dX12_readsTurner_7 ev2 ?_
  refine kw_istore_n (L' := [some (.ref x0), some (.int v2)]) dX12_readsTurner_8 (by decide) rfl ?_
  refine kw_iload_n dX12_readsTurner_9 rfl ?_
  refine kw_iconst (v := nI 4) dX12_readsTurner_10 (by decide) ?_
  refine kw_icmp_ne 20 dX12_readsTurner_11 (by decide) (fun c23 => ?_) (fun c23 => ?_)
  · have h := (if_neg c23).symm.trans h
    refine kw_aload_n dX12_readsTurner_20 rfl ?_
    obtain ⟨v3, ev3, h⟩ := Option.bind_eq_some_iff.mp h
    refine kv_gR gfX12_7 dX12_readsTurner_21 ev3 ?_
    refine kw_sipush (v := nI 1804) dX12_readsTurner_24 (by decide) ?_
    refine kw_iload_n dX12_readsTurner_27 rfl ?_
    refine kw_iadd dX12_readsTurner_28 ?_
    refine kw_aload_n dX12_readsTurner_29 rfl ?_
    obtain ⟨v4, ev4, h⟩ := Option.bind_eq_some_iff.mp h
    refine kv_gR gfX12_26 dX12_readsTurner_30 ev4 ?_
    refine kw_aload_n dX12_readsTurner_33 rfl ?_
    obtain ⟨v5, ev5, h⟩ := Option.bind_eq_some_iff.mp h
    refine kv_gI gfX12_74 dX12_readsTurner_34 ev5 ?_
    obtain ⟨v6, ev6, h⟩ := Option.bind_eq_some_iff.mp h
    refine kv_ldI dX12_readsTurner_37 ev6 ?_
    obtain ⟨r7, er7, h⟩ := Option.bind_eq_some_iff.mp h
    refine kw_callS (As := [.int v6]) (S := [.int ((nI 1804) + v2), .ref v3]) cbX12_readsTurner_X12_kindOfLetter lkX12_104 stX12_kindOfLetter rfl rfl (Nat.le_of_ble_eq_true rfl) dX12_readsTurner_38 (X12_kindOfLetter_c G hp v6 _ er7) (fun vv hh hq => ?_)
    rw [hq.1, hq.2]
    show kw_V G mX12_readsTurner 41 [some (.ref x0), some (.int v2)] [.int r7, .int ((nI 1804) + v2), .ref v3] hp Q
    obtain ⟨hp8, ehp8, h⟩ := Option.bind_eq_some_iff.mp h
    refine kv_stI dX12_readsTurner_41 ehp8 ?_
    refine kw_aload_n dX12_readsTurner_42 rfl ?_
    refine kw_dup dX12_readsTurner_43 rfl ?_
    obtain ⟨v9, ev9, h⟩ := Option.bind_eq_some_iff.mp h
    refine kv_gI gfX12_74 dX12_readsTurner_44 ev9 ?_
    refine kw_iconst (v := nI 1) dX12_readsTurner_47 (by decide) ?_
    refine kw_iadd dX12_readsTurner_48 ?_
    obtain ⟨hp10, ehp10, h⟩ := Option.bind_eq_some_iff.mp h
    refine kv_put pfX12_readsTurner_74 (fun _ => ⟨rfl, rfl⟩) dX12_readsTurner_49 ehp10 ?_
    refine kw_aload_n dX12_readsTurner_52 rfl ?_
    refine kw_iconst (v := nI 0) dX12_readsTurner_53 (by decide) ?_
    refine kw_bipush (v := nI 9) dX12_readsTurner_54 (by decide) ?_
    obtain ⟨r11, er11, h⟩ := Option.bind_eq_some_iff.mp h
    obtain ⟨ur11, eur11, er11⟩ := Option.bind_eq_some_iff.mp er11
    obtain ⟨fsr11, hor11⟩ := kp_ob_inv eur11
    refine kw_callV (As := [.int (nI 0), .int (nI 9)]) (S := []) kcX12 cbX12_readsTurner_X12_readsNumber lkX12_107 imX12_readsNumber seX12_X12_readsNumber_X12_readsNumber rfl rfl (Nat.le_of_ble_eq_true rfl) dX12_readsTurner_56 hor11 (X12_readsNumber_c G hp10 x0 (nI 0) (nI 9) _ er11) (fun vv hh hq => ?_)
    rw [hq.1, hq.2]
    show kw_V G mX12_readsTurner 59 [some (.ref x0), some (.int v2)] [.int r11.1] r11.2 Q
    refine kw_if_ne 64 dX12_readsTurner_59 (by decide) (fun c20 => ?_) (fun c20 => ?_)
    · have h := (if_neg c20).symm.trans h
      refine kw_aload_n dX12_readsTurner_64 rfl ?_
      obtain ⟨v12, ev12, h⟩ := Option.bind_eq_some_iff.mp h
      refine kv_gR gfX12_7 dX12_readsTurner_65 ev12 ?_
      refine kw_sipush (v := nI 1808) dX12_readsTurner_68 (by decide) ?_
      refine kw_iload_n dX12_readsTurner_71 rfl ?_
      refine kw_iadd dX12_readsTurner_72 ?_
      refine kw_aload_n dX12_readsTurner_73 rfl ?_
      obtain ⟨v13, ev13, h⟩ := Option.bind_eq_some_iff.mp h
      refine kv_gI gfX12_93 dX12_readsTurner_74 ev13 ?_
      obtain ⟨hp14, ehp14, h⟩ := Option.bind_eq_some_iff.mp h
      refine kv_stI dX12_readsTurner_77 ehp14 ?_
      refine kw_aload_n dX12_readsTurner_78 rfl ?_
      obtain ⟨v15, ev15, h⟩ := Option.bind_eq_some_iff.mp h
      refine kv_gR gfX12_7 dX12_readsTurner_79 ev15 ?_
      refine kw_sipush (v := nI 1784) dX12_readsTurner_82 (by decide) ?_
      refine kw_dup2 dX12_readsTurner_85 rfl rfl ?_
      obtain ⟨v16, ev16, h⟩ := Option.bind_eq_some_iff.mp h
      refine kv_ldI dX12_readsTurner_86 ev16 ?_
      refine kw_iconst (v := nI 1) dX12_readsTurner_87 (by decide) ?_
      refine kw_iadd dX12_readsTurner_88 ?_
      obtain ⟨hp17, ehp17, h⟩ := Option.bind_eq_some_iff.mp h
      refine kv_stI dX12_readsTurner_89 ehp17 ?_
      refine kw_aload_n dX12_readsTurner_90 rfl ?_
      refine kw_bipush (v := nI 59) dX12_readsTurner_91 (by decide) ?_
      obtain ⟨r18, er18, h⟩ := Option.bind_eq_some_iff.mp h
      obtain ⟨ur18, eur18, er18⟩ := Option.bind_eq_some_iff.mp er18
      obtain ⟨fsr18, hor18⟩ := kp_ob_inv eur18
      refine kw_callV (As := [.int (nI 59)]) (S := []) kcX12 cbX12_readsTurner_X12_sign lkX12_96 imX12_sign seX12_X12_sign_X12_sign rfl rfl (Nat.le_of_ble_eq_true rfl) dX12_readsTurner_93 hor18 (X12_sign_c G hp17 x0 (nI 59) _ er18) (fun vv hh hq => ?_)
      rw [hq.1, hq.2]
      show kw_V G mX12_readsTurner 96 [some (.ref x0), some (.int v2)] [.int r18.1] r18.2 Q
      obtain ⟨v19, ev19, h⟩ := Option.bind_eq_some_iff.mp h
      obtain ⟨qv19, bv19⟩ := kv_bool ev19
      have h := Option.some.inj h
      subst h
      rw [qv19]
      exact kw_zret rfl bv19 dX12_readsTurner_96 hK
    · have h := (if_pos c20).symm.trans h
      refine kw_iconst (v := nI 0) dX12_readsTurner_62 (by decide) ?_
      have h := Option.some.inj h
      subst h
      exact kw_zret rfl (Or.inl rfl) dX12_readsTurner_63 hK
  · have h := (if_pos c23).symm.trans h
    refine kw_aload_n dX12_readsTurner_14 rfl ?_
    refine kw_iconst (v := nI 3) dX12_readsTurner_15 (by decide) ?_
    obtain ⟨r21, er21, h⟩ := Option.bind_eq_some_iff.mp h
    obtain ⟨ur21, eur21, er21⟩ := Option.bind_eq_some_iff.mp er21
    obtain ⟨fsr21, hor21⟩ := kp_ob_inv eur21
    refine kw_callV (As := [.int (nI 3)]) (S := []) kcX12 cbX12_readsTurner_X12_refuse lkX12_87 imX12_refuse seX12_X12_refuse_X12_refuse rfl rfl (Nat.le_of_ble_eq_true rfl) dX12_readsTurner_16 hor21 (X12_refuse_c G hp x0 (nI 3) _ er21) (fun vv hh hq => ?_)
    rw [hq.1, hq.2]
    show kw_V G mX12_readsTurner 19 [some (.ref x0), some (.int v2)] [.int r21.1] r21.2 Q
    obtain ⟨v22, ev22, h⟩ := Option.bind_eq_some_iff.mp h
    obtain ⟨qv22, bv22⟩ := kv_bool ev22
    have h := Option.some.inj h
    subst h
    rw [qv22]
    exact kw_zret rfl bv22 dX12_readsTurner_19 hK
/-! KitchenWheelsModel.isSort()Z -/
def X12_isSort_F (hp : kw_H) (x0 : Nat) : Option (Int32) :=
  (kp_gI hp x0 [11] 13).bind fun v1 =>
  (kp_gI hp x0 [11] 8).bind fun v2 =>
  (if v2 ≤ v1 then
  some (nI 0)
else
  (kp_gR hp x0 [11] 7).bind fun v3 =>
  (kp_gI hp x0 [11] 13).bind fun v4 =>
  (kp_ldI hp v3 v4).bind fun v5 =>
  (X12_kindOfLetter_F hp v5).bind fun r6 =>
  (if r6 ≤ 0 then
  some (nI 0)
else
  some (nI 1)))
set_option maxRecDepth 100000 in
set_option maxHeartbeats 4000000 in
theorem X12_isSort_c (G : kw_G) (hp : kw_H) (x0 : Nat) (r : Int32) (h : X12_isSort_F hp x0 = some r) : kw_Met G mX12_isSort [.ref x0] hp (fun v h2 => v = some (.int r) ∧ h2 = hp) := by
  refine kw_met (L := [some (.ref x0)]) (r := 0) (by decide +kernel) (Nat.le_of_ble_eq_true rfl) rfl ?_
  unfold X12_isSort_F at h
  obtain ⟨Q, hQ⟩ : ∃ Q : Option Value → kw_H → Prop, Q = (fun v h2 => v = some (.int r) ∧ h2 = hp) := ⟨_, rfl⟩
  have hK : Q (some (.int r)) hp := by rw [hQ]; exact ⟨rfl, rfl⟩
  rw [← hQ]
  clear hQ
  refine kw_aload_n dX12_isSort_0 rfl ?_
  obtain ⟨v1, ev1, h⟩ := Option.bind_eq_some_iff.mp h
  refine kv_gI gfX12_74 dX12_isSort_1 ev1 ?_
  refine kw_aload_n dX12_isSort_4 rfl ?_
  obtain ⟨v2, ev2, h⟩ := Option.bind_eq_some_iff.mp h
  refine kv_gI gfX12_70 dX12_isSort_5 ev2 ?_
  refine kw_icmp_ge 30 dX12_isSort_8 (by decide) (fun c8 => ?_) (fun c8 => ?_)
  · have h := (if_pos c8).symm.trans h
    refine kw_iconst (v := nI 0) dX12_isSort_30 (by decide) ?_
    have h := Option.some.inj h
    subst h
    exact kw_zret rfl (Or.inl rfl) dX12_isSort_31 hK
  · have h := (if_neg c8).symm.trans h
    refine kw_aload_n dX12_isSort_11 rfl ?_
    obtain ⟨v3, ev3, h⟩ := Option.bind_eq_some_iff.mp h
    refine kv_gR gfX12_26 dX12_isSort_12 ev3 ?_
    refine kw_aload_n dX12_isSort_15 rfl ?_
    obtain ⟨v4, ev4, h⟩ := Option.bind_eq_some_iff.mp h
    refine kv_gI gfX12_74 dX12_isSort_16 ev4 ?_
    obtain ⟨v5, ev5, h⟩ := Option.bind_eq_some_iff.mp h
    refine kv_ldI dX12_isSort_19 ev5 ?_
    obtain ⟨r6, er6, h⟩ := Option.bind_eq_some_iff.mp h
    refine kw_callS (As := [.int v5]) (S := []) cbX12_isSort_X12_kindOfLetter lkX12_104 stX12_kindOfLetter rfl rfl (Nat.le_of_ble_eq_true rfl) dX12_isSort_20 (X12_kindOfLetter_c G hp v5 _ er6) (fun vv hh hq => ?_)
    rw [hq.1, hq.2]
    show kw_V G mX12_isSort 23 [some (.ref x0)] [.int r6] hp Q
    refine kw_if_le 30 dX12_isSort_23 (by decide) (fun c7 => ?_) (fun c7 => ?_)
    · have h := (if_pos c7).symm.trans h
      refine kw_iconst (v := nI 0) dX12_isSort_30 (by decide) ?_
      have h := Option.some.inj h
      subst h
      exact kw_zret rfl (Or.inl rfl) dX12_isSort_31 hK
    · have h := (if_neg c7).symm.trans h
      refine kw_iconst (v := nI 1) dX12_isSort_26 (by decide) ?_
      refine kw_goto 31 dX12_isSort_27 (by decide) ?_
      have h := Option.some.inj h
      subst h
      exact kw_zret rfl (Or.inr rfl) dX12_isSort_31 hK
/-! KitchenWheelsModel.reads()Z -/
def X12_reads_K2 (G : kw_G) (Q : Option Value → kw_H → Prop) (x0 : Nat) (r : (Int32 × kw_H) ⊕ (Int32 × kw_H)) : Prop := match r with
  | .inl z => kw_V G mX12_reads 2 [some (.ref x0), some (.int z.1)] [] z.2 Q
  | .inr r => Q (some (.int r.1)) r.2
def X12_reads_K112 (G : kw_G) (Q : Option Value → kw_H → Prop) (x0 : Nat) (r : (Int32 × kw_H) ⊕ (Int32 × kw_H)) : Prop := match r with
  | .inl z => kw_V G mX12_reads 112 [some (.ref x0), some (.int z.1)] [] z.2 Q
  | .inr r => Q (some (.int r.1)) r.2
def X12_reads_J131 (hp : kw_H) (x0 : Nat) (x1 : Int32) : Option (Int32 × kw_H) :=
  (if x1 = 0 then
  some ((nI 0, hp))
else
  (kp_gI hp x0 [11] 13).bind fun v13 =>
  (kp_gI hp x0 [11] 8).bind fun v14 =>
  (if v13 = v14 then
  some ((nI 1, hp))
else
  ((kp_ob hp x0 11).bind fun _ => X12_refuse_F hp x0 (nI 1)).bind fun r15 =>
  (if r15.1 = 0 then
  some ((nI 0, r15.2))
else
  some ((nI 1, r15.2)))))
set_option maxRecDepth 100000 in
set_option maxHeartbeats 4000000 in
theorem X12_reads_J131_t (G : kw_G) (Q : Option Value → kw_H → Prop) (hp : kw_H) (x0 : Nat) (x1 : Int32) (r : Int32 × kw_H) (h : X12_reads_J131 hp x0 x1 = some r) (hK : Q (some (.int r.1)) r.2) : kw_V G mX12_reads 131 [some (.ref x0), some (.int x1)] [] hp Q := by
  unfold X12_reads_J131 at h
  refine kw_iload_n dX12_reads_131 rfl ?_
  refine kw_if_eq 158 dX12_reads_132 (by decide) (fun c18 => ?_) (fun c18 => ?_)
  · have h := (if_pos c18).symm.trans h
    refine kw_iconst (v := nI 0) dX12_reads_158 (by decide) ?_
    have h := Option.some.inj h
    subst h
    exact kw_zret rfl (Or.inl rfl) dX12_reads_159 hK
  · have h := (if_neg c18).symm.trans h
    refine kw_aload_n dX12_reads_135 rfl ?_
    obtain ⟨v13, ev13, h⟩ := Option.bind_eq_some_iff.mp h
    refine kv_gI gfX12_74 dX12_reads_136 ev13 ?_
    refine kw_aload_n dX12_reads_139 rfl ?_
    obtain ⟨v14, ev14, h⟩ := Option.bind_eq_some_iff.mp h
    refine kv_gI gfX12_70 dX12_reads_140 ev14 ?_
    refine kw_icmp_eq 154 dX12_reads_143 (by decide) (fun c17 => ?_) (fun c17 => ?_)
    · have h := (if_pos c17).symm.trans h
      refine kw_iconst (v := nI 1) dX12_reads_154 (by decide) ?_
      refine kw_goto 159 dX12_reads_155 (by decide) ?_
      have h := Option.some.inj h
      subst h
      exact kw_zret rfl (Or.inr rfl) dX12_reads_159 hK
    · have h := (if_neg c17).symm.trans h
      refine kw_aload_n dX12_reads_146 rfl ?_
      refine kw_iconst (v := nI 1) dX12_reads_147 (by decide) ?_
      obtain ⟨r15, er15, h⟩ := Option.bind_eq_some_iff.mp h
      obtain ⟨ur15, eur15, er15⟩ := Option.bind_eq_some_iff.mp er15
      obtain ⟨fsr15, hor15⟩ := kp_ob_inv eur15
      refine kw_callV (As := [.int (nI 1)]) (S := []) kcX12 cbX12_reads_X12_refuse lkX12_87 imX12_refuse seX12_X12_refuse_X12_refuse rfl rfl (Nat.le_of_ble_eq_true rfl) dX12_reads_148 hor15 (X12_refuse_c G hp x0 (nI 1) _ er15) (fun vv hh hq => ?_)
      rw [hq.1, hq.2]
      show kw_V G mX12_reads 151 [some (.ref x0), some (.int x1)] [.int r15.1] r15.2 Q
      refine kw_if_eq 158 dX12_reads_151 (by decide) (fun c16 => ?_) (fun c16 => ?_)
      · have h := (if_pos c16).symm.trans h
        refine kw_iconst (v := nI 0) dX12_reads_158 (by decide) ?_
        have h := Option.some.inj h
        subst h
        exact kw_zret rfl (Or.inl rfl) dX12_reads_159 hK
      · have h := (if_neg c16).symm.trans h
        refine kw_iconst (v := nI 1) dX12_reads_154 (by decide) ?_
        refine kw_goto 159 dX12_reads_155 (by decide) ?_
        have h := Option.some.inj h
        subst h
        exact kw_zret rfl (Or.inr rfl) dX12_reads_159 hK
def X12_reads_b112 (x0 : Nat) (x1 : Int32) (hp : kw_H) : Option (((Int32 × kw_H) ⊕ (Int32 × kw_H))) :=
  (if x1 = 0 then
  (X12_reads_J131 hp x0 x1).map (fun r => .inr (r))
else
  ((kp_ob hp x0 11).bind fun _ => X12_isSort_F hp x0).bind fun r20 =>
  (if r20 = 0 then
  (X12_reads_J131 hp x0 x1).map (fun r => .inr (r))
else
  ((kp_ob hp x0 11).bind fun _ => X12_readsTurner_F hp x0).bind fun r22 =>
  some (.inl (r22.1, r22.2))))
set_option maxRecDepth 100000 in
set_option maxHeartbeats 4000000 in
theorem X12_reads_b112_t (G : kw_G) (Q : Option Value → kw_H → Prop) (x0 : Nat) (x1 : Int32) (hp : kw_H) (r : ((Int32 × kw_H) ⊕ (Int32 × kw_H))) (h : X12_reads_b112 x0 x1 hp = some r) (hK : X12_reads_K112 G Q x0 r) : kw_V G mX12_reads 112 [some (.ref x0), some (.int x1)] [] hp Q := by
  unfold X12_reads_b112 at h
  refine kw_iload_n dX12_reads_112 rfl ?_
  refine kw_if_eq 131 dX12_reads_113 (by decide) (fun c24 => ?_) (fun c24 => ?_)
  · have h := (if_pos c24).symm.trans h
    obtain ⟨r19, hr19, hrr19⟩ := Option.map_eq_some_iff.mp h
    subst hrr19
    exact X12_reads_J131_t G Q hp x0 x1 r19 hr19 hK
  · have h := (if_neg c24).symm.trans h
    refine kw_aload_n dX12_reads_116 rfl ?_
    obtain ⟨r20, er20, h⟩ := Option.bind_eq_some_iff.mp h
    obtain ⟨ur20, eur20, er20⟩ := Option.bind_eq_some_iff.mp er20
    obtain ⟨fsr20, hor20⟩ := kp_ob_inv eur20
    refine kw_callV (As := []) (S := []) kcX12 cbX12_reads_X12_isSort lkX12_114 imX12_isSort seX12_X12_isSort_X12_isSort rfl rfl (Nat.le_of_ble_eq_true rfl) dX12_reads_117 hor20 (X12_isSort_c G hp x0 _ er20) (fun vv hh hq => ?_)
    rw [hq.1, hq.2]
    show kw_V G mX12_reads 120 [some (.ref x0), some (.int x1)] [.int r20] hp Q
    refine kw_if_eq 131 dX12_reads_120 (by decide) (fun c23 => ?_) (fun c23 => ?_)
    · have h := (if_pos c23).symm.trans h
      obtain ⟨r21, hr21, hrr21⟩ := Option.map_eq_some_iff.mp h
      subst hrr21
      exact X12_reads_J131_t G Q hp x0 x1 r21 hr21 hK
    · have h := (if_neg c23).symm.trans h
      refine kw_aload_n dX12_reads_123 rfl ?_
      obtain ⟨r22, er22, h⟩ := Option.bind_eq_some_iff.mp h
      obtain ⟨ur22, eur22, er22⟩ := Option.bind_eq_some_iff.mp er22
      obtain ⟨fsr22, hor22⟩ := kp_ob_inv eur22
      refine kw_callV (As := []) (S := []) kcX12 cbX12_reads_X12_readsTurner lkX12_118 imX12_readsTurner seX12_X12_readsTurner_X12_readsTurner rfl rfl (Nat.le_of_ble_eq_true rfl) dX12_reads_124 hor22 (X12_readsTurner_c G hp x0 _ er22) (fun vv hh hq => ?_)
      rw [hq.1, hq.2]
      show kw_V G mX12_reads 127 [some (.ref x0), some (.int x1)] [.int r22.1] r22.2 Q
      refine kw_istore_n (L' := [some (.ref x0), some (.int r22.1)]) dX12_reads_127 (by decide) rfl ?_
      refine kw_goto 112 dX12_reads_128 (by decide) ?_
      have h := Option.some.inj h
      subst h
      exact hK
def X12_reads_B112 (x0 : Nat) (z : Int32 × kw_H) : Option (((Int32 × kw_H) ⊕ (Int32 × kw_H))) := X12_reads_b112 x0 z.1 z.2
theorem X12_reads_L112_t (G : kw_G) (Q : Option Value → kw_H → Prop) (x0 : Nat) (n : Nat) (z : Int32 × kw_H) (r : Int32 × kw_H) (h : kp_lp (X12_reads_B112 x0) n z = some r) (hK : Q (some (.int r.1)) r.2) : kw_V G mX12_reads 112 [some (.ref x0), some (.int z.1)] [] z.2 Q :=
  kv_lp _ (fun z => kw_V G mX12_reads 112 [some (.ref x0), some (.int z.1)] [] z.2 Q) (fun r => Q (some (.int r.1)) r.2) (fun z x hb hx => X12_reads_b112_t G Q x0 z.1 z.2 x hb (by cases x <;> exact hx)) n z r h hK
def X12_reads_J81 (hp : kw_H) (x0 : Nat) (s0 : Int32) (s1 : Int32) (s2 : Nat) : Option (Int32 × kw_H) :=
  (kp_stI hp s2 s1 s0).bind fun hp9 =>
  (kp_gR hp9 x0 [11] 0).bind fun v10 =>
  (kp_ldI hp9 v10 (nI 1783)).bind fun v11 =>
  (if v11 = ((-1000000)) then
  some ((nI 0, hp9))
else
  ((kp_ob hp9 x0 11).bind fun _ => X12_isSort_F hp9 x0).bind fun r12 =>
  (if r12 = 0 then
  ((kp_ob hp9 x0 11).bind fun _ => X12_refuse_F hp9 x0 (nI 1)).bind fun r25 =>
  (kp_bool r25.1).bind fun v26 =>
  some ((v26, r25.2))
else
  kp_lp (X12_reads_B112 x0) 2000 (nI 1, hp9)))
set_option maxRecDepth 100000 in
set_option maxHeartbeats 4000000 in
theorem X12_reads_J81_t (G : kw_G) (Q : Option Value → kw_H → Prop) (hp : kw_H) (x0 : Nat) (s0 : Int32) (s1 : Int32) (s2 : Nat) (r : Int32 × kw_H) (h : X12_reads_J81 hp x0 s0 s1 s2 = some r) (hK : Q (some (.int r.1)) r.2) : kw_V G mX12_reads 81 [some (.ref x0), none] [.int s0, .int s1, .ref s2] hp Q := by
  unfold X12_reads_J81 at h
  obtain ⟨hp9, ehp9, h⟩ := Option.bind_eq_some_iff.mp h
  refine kv_stI dX12_reads_81 ehp9 ?_
  refine kw_aload_n dX12_reads_82 rfl ?_
  obtain ⟨v10, ev10, h⟩ := Option.bind_eq_some_iff.mp h
  refine kv_gR gfX12_7 dX12_reads_83 ev10 ?_
  refine kw_sipush (v := nI 1783) dX12_reads_86 (by decide) ?_
  obtain ⟨v11, ev11, h⟩ := Option.bind_eq_some_iff.mp h
  refine kv_ldI dX12_reads_89 ev11 ?_
  refine kw_ldc (v := (-1000000)) dX12_reads_90 ckX12_99 ?_
  refine kw_icmp_ne 97 dX12_reads_92 (by decide) (fun c28 => ?_) (fun c28 => ?_)
  · have h := (if_neg c28).symm.trans h
    refine kw_aload_n dX12_reads_97 rfl ?_
    obtain ⟨r12, er12, h⟩ := Option.bind_eq_some_iff.mp h
    obtain ⟨ur12, eur12, er12⟩ := Option.bind_eq_some_iff.mp er12
    obtain ⟨fsr12, hor12⟩ := kp_ob_inv eur12
    refine kw_callV (As := []) (S := []) kcX12 cbX12_reads_X12_isSort lkX12_114 imX12_isSort seX12_X12_isSort_X12_isSort rfl rfl (Nat.le_of_ble_eq_true rfl) dX12_reads_98 hor12 (X12_isSort_c G hp9 x0 _ er12) (fun vv hh hq => ?_)
    rw [hq.1, hq.2]
    show kw_V G mX12_reads 101 [some (.ref x0), none] [.int r12] hp9 Q
    refine kw_if_ne 110 dX12_reads_101 (by decide) (fun c27 => ?_) (fun c27 => ?_)
    · have h := (if_neg c27).symm.trans h
      refine kw_iconst (v := nI 1) dX12_reads_110 (by decide) ?_
      refine kw_istore_n (L' := [some (.ref x0), some (.int (nI 1))]) dX12_reads_111 (by decide) rfl ?_
      exact X12_reads_L112_t G Q x0 _ (nI 1, hp9) _ h hK
    · have h := (if_pos c27).symm.trans h
      refine kw_aload_n dX12_reads_104 rfl ?_
      refine kw_iconst (v := nI 1) dX12_reads_105 (by decide) ?_
      obtain ⟨r25, er25, h⟩ := Option.bind_eq_some_iff.mp h
      obtain ⟨ur25, eur25, er25⟩ := Option.bind_eq_some_iff.mp er25
      obtain ⟨fsr25, hor25⟩ := kp_ob_inv eur25
      refine kw_callV (As := [.int (nI 1)]) (S := []) kcX12 cbX12_reads_X12_refuse lkX12_87 imX12_refuse seX12_X12_refuse_X12_refuse rfl rfl (Nat.le_of_ble_eq_true rfl) dX12_reads_106 hor25 (X12_refuse_c G hp9 x0 (nI 1) _ er25) (fun vv hh hq => ?_)
      rw [hq.1, hq.2]
      show kw_V G mX12_reads 109 [some (.ref x0), none] [.int r25.1] r25.2 Q
      obtain ⟨v26, ev26, h⟩ := Option.bind_eq_some_iff.mp h
      obtain ⟨qv26, bv26⟩ := kv_bool ev26
      have h := Option.some.inj h
      subst h
      rw [qv26]
      exact kw_zret rfl bv26 dX12_reads_109 hK
  · have h := (if_pos c28).symm.trans h
    refine kw_iconst (v := nI 0) dX12_reads_95 (by decide) ?_
    have h := Option.some.inj h
    subst h
    exact kw_zret rfl (Or.inl rfl) dX12_reads_96 hK
def X12_reads_J25 (hp : kw_H) (x0 : Nat) : Option (Int32 × kw_H) :=
  (kp_put hp x0 [11] 13 (.int (nI 0))).bind fun hp1 =>
  (kp_gR hp1 x0 [11] 0).bind fun v2 =>
  ((kp_ob hp1 x0 11).bind fun _ => X12_readsWheel_F hp1 x0 (nI 110) (nI 1788)).bind fun r3 =>
  (kp_stI r3.2 v2 (nI 1782) r3.1).bind fun hp4 =>
  (kp_gR hp4 x0 [11] 0).bind fun v5 =>
  (kp_gR hp4 x0 [11] 0).bind fun v6 =>
  (kp_ldI hp4 v6 (nI 1782)).bind fun v7 =>
  (if v7 = ((-1000000)) then
  X12_reads_J81 hp4 x0 ((-1000000)) (nI 1783) v5
else
  ((kp_ob hp4 x0 11).bind fun _ => X12_readsWheel_F hp4 x0 (nI 106) (nI 1796)).bind fun r8 =>
  X12_reads_J81 r8.2 x0 r8.1 (nI 1783) v5)
set_option maxRecDepth 100000 in
set_option maxHeartbeats 4000000 in
theorem X12_reads_J25_t (G : kw_G) (Q : Option Value → kw_H → Prop) (hp : kw_H) (x0 : Nat) (r : Int32 × kw_H) (h : X12_reads_J25 hp x0 = some r) (hK : Q (some (.int r.1)) r.2) : kw_V G mX12_reads 25 [some (.ref x0), none] [] hp Q := by
  unfold X12_reads_J25 at h
  refine kw_aload_n dX12_reads_25 rfl ?_
  refine kw_iconst (v := nI 0) dX12_reads_26 (by decide) ?_
  obtain ⟨hp1, ehp1, h⟩ := Option.bind_eq_some_iff.mp h
  refine kv_put pfX12_reads_74 (fun _ => ⟨rfl, rfl⟩) dX12_reads_27 ehp1 ?_
  refine kw_aload_n dX12_reads_30 rfl ?_
  obtain ⟨v2, ev2, h⟩ := Option.bind_eq_some_iff.mp h
  refine kv_gR gfX12_7 dX12_reads_31 ev2 ?_
  refine kw_sipush (v := nI 1782) dX12_reads_34 (by decide) ?_
  refine kw_aload_n dX12_reads_37 rfl ?_
  refine kw_bipush (v := nI 110) dX12_reads_38 (by decide) ?_
  refine kw_sipush (v := nI 1788) dX12_reads_40 (by decide) ?_
  obtain ⟨r3, er3, h⟩ := Option.bind_eq_some_iff.mp h
  obtain ⟨ur3, eur3, er3⟩ := Option.bind_eq_some_iff.mp er3
  obtain ⟨fsr3, hor3⟩ := kp_ob_inv eur3
  refine kw_callV (As := [.int (nI 110), .int (nI 1788)]) (S := [.int (nI 1782), .ref v2]) kcX12 cbX12_reads_X12_readsWheel lkX12_111 imX12_readsWheel seX12_X12_readsWheel_X12_readsWheel rfl rfl (Nat.le_of_ble_eq_true rfl) dX12_reads_43 hor3 (X12_readsWheel_c G hp1 x0 (nI 110) (nI 1788) _ er3) (fun vv hh hq => ?_)
  rw [hq.1, hq.2]
  show kw_V G mX12_reads 46 [some (.ref x0), none] [.int r3.1, .int (nI 1782), .ref v2] r3.2 Q
  obtain ⟨hp4, ehp4, h⟩ := Option.bind_eq_some_iff.mp h
  refine kv_stI dX12_reads_46 ehp4 ?_
  refine kw_aload_n dX12_reads_47 rfl ?_
  obtain ⟨v5, ev5, h⟩ := Option.bind_eq_some_iff.mp h
  refine kv_gR gfX12_7 dX12_reads_48 ev5 ?_
  refine kw_sipush (v := nI 1783) dX12_reads_51 (by decide) ?_
  refine kw_aload_n dX12_reads_54 rfl ?_
  obtain ⟨v6, ev6, h⟩ := Option.bind_eq_some_iff.mp h
  refine kv_gR gfX12_7 dX12_reads_55 ev6 ?_
  refine kw_sipush (v := nI 1782) dX12_reads_58 (by decide) ?_
  obtain ⟨v7, ev7, h⟩ := Option.bind_eq_some_iff.mp h
  refine kv_ldI dX12_reads_61 ev7 ?_
  refine kw_ldc (v := (-1000000)) dX12_reads_62 ckX12_99 ?_
  refine kw_icmp_ne 72 dX12_reads_64 (by decide) (fun c29 => ?_) (fun c29 => ?_)
  · have h := (if_neg c29).symm.trans h
    refine kw_aload_n dX12_reads_72 rfl ?_
    refine kw_bipush (v := nI 106) dX12_reads_73 (by decide) ?_
    refine kw_sipush (v := nI 1796) dX12_reads_75 (by decide) ?_
    obtain ⟨r8, er8, h⟩ := Option.bind_eq_some_iff.mp h
    obtain ⟨ur8, eur8, er8⟩ := Option.bind_eq_some_iff.mp er8
    obtain ⟨fsr8, hor8⟩ := kp_ob_inv eur8
    refine kw_callV (As := [.int (nI 106), .int (nI 1796)]) (S := [.int (nI 1783), .ref v5]) kcX12 cbX12_reads_X12_readsWheel lkX12_111 imX12_readsWheel seX12_X12_readsWheel_X12_readsWheel rfl rfl (Nat.le_of_ble_eq_true rfl) dX12_reads_78 hor8 (X12_readsWheel_c G hp4 x0 (nI 106) (nI 1796) _ er8) (fun vv hh hq => ?_)
    rw [hq.1, hq.2]
    show kw_V G mX12_reads 81 [some (.ref x0), none] [.int r8.1, .int (nI 1783), .ref v5] r8.2 Q
    exact X12_reads_J81_t G Q r8.2 x0 r8.1 (nI 1783) v5 _ h hK
  · have h := (if_pos c29).symm.trans h
    refine kw_ldc (v := (-1000000)) dX12_reads_67 ckX12_99 ?_
    refine kw_goto 81 dX12_reads_69 (by decide) ?_
    exact X12_reads_J81_t G Q hp4 x0 ((-1000000)) (nI 1783) v5 _ h hK
def X12_reads_b2 (x0 : Nat) (x1 : Int32) (hp : kw_H) : Option (((Int32 × kw_H) ⊕ (Int32 × kw_H))) :=
  (if (nI 66) ≤ x1 then
  (X12_reads_J25 hp x0).map (fun r => .inr (r))
else
  (kp_gR hp x0 [11] 0).bind fun v31 =>
  (kp_stI hp v31 ((nI 1782) + x1) (nI 0)).bind fun hp32 =>
  some (.inl (x1 + (nI 1), hp32)))
set_option maxRecDepth 100000 in
set_option maxHeartbeats 4000000 in
theorem X12_reads_b2_t (G : kw_G) (Q : Option Value → kw_H → Prop) (x0 : Nat) (x1 : Int32) (hp : kw_H) (r : ((Int32 × kw_H) ⊕ (Int32 × kw_H))) (h : X12_reads_b2 x0 x1 hp = some r) (hK : X12_reads_K2 G Q x0 r) : kw_V G mX12_reads 2 [some (.ref x0), some (.int x1)] [] hp Q := by
  unfold X12_reads_b2 at h
  refine kw_iload_n dX12_reads_2 rfl ?_
  refine kw_bipush (v := nI 66) dX12_reads_3 (by decide) ?_
  refine kw_icmp_ge 25 dX12_reads_5 (by decide) (fun c33 => ?_) (fun c33 => ?_)
  · have h := (if_pos c33).symm.trans h
    refine kw_mask [true, false] (L' := [some (.ref x0), none]) rfl ?_
    obtain ⟨r30, hr30, hrr30⟩ := Option.map_eq_some_iff.mp h
    subst hrr30
    exact X12_reads_J25_t G Q hp x0 r30 hr30 hK
  · have h := (if_neg c33).symm.trans h
    refine kw_aload_n dX12_reads_8 rfl ?_
    obtain ⟨v31, ev31, h⟩ := Option.bind_eq_some_iff.mp h
    refine kv_gR gfX12_7 dX12_reads_9 ev31 ?_
    refine kw_sipush (v := nI 1782) dX12_reads_12 (by decide) ?_
    refine kw_iload_n dX12_reads_15 rfl ?_
    refine kw_iadd dX12_reads_16 ?_
    refine kw_iconst (v := nI 0) dX12_reads_17 (by decide) ?_
    obtain ⟨hp32, ehp32, h⟩ := Option.bind_eq_some_iff.mp h
    refine kv_stI dX12_reads_18 ehp32 ?_
    refine kv_iinc (w := nI 1) (L' := [some (.ref x0), some (.int (x1 + (nI 1)))]) dX12_reads_19 (by decide) rfl (by decide) rfl ?_
    refine kw_goto 2 dX12_reads_22 (by decide) ?_
    have h := Option.some.inj h
    subst h
    exact hK
def X12_reads_B2 (x0 : Nat) (z : Int32 × kw_H) : Option (((Int32 × kw_H) ⊕ (Int32 × kw_H))) := X12_reads_b2 x0 z.1 z.2
theorem X12_reads_L2_t (G : kw_G) (Q : Option Value → kw_H → Prop) (x0 : Nat) (n : Nat) (z : Int32 × kw_H) (r : Int32 × kw_H) (h : kp_lp (X12_reads_B2 x0) n z = some r) (hK : Q (some (.int r.1)) r.2) : kw_V G mX12_reads 2 [some (.ref x0), some (.int z.1)] [] z.2 Q :=
  kv_lp _ (fun z => kw_V G mX12_reads 2 [some (.ref x0), some (.int z.1)] [] z.2 Q) (fun r => Q (some (.int r.1)) r.2) (fun z x hb hx => X12_reads_b2_t G Q x0 z.1 z.2 x hb (by cases x <;> exact hx)) n z r h hK
def X12_reads_F (hp : kw_H) (x0 : Nat) : Option (Int32 × kw_H) :=
  kp_lp (X12_reads_B2 x0) 2000 (nI 0, hp)
set_option maxRecDepth 100000 in
set_option maxHeartbeats 4000000 in
theorem X12_reads_c (G : kw_G) (hp : kw_H) (x0 : Nat) (r : Int32 × kw_H) (h : X12_reads_F hp x0 = some r) : kw_Met G mX12_reads [.ref x0] hp (fun v h2 => v = some (.int r.1) ∧ h2 = r.2) := by
  refine kw_met (L := [some (.ref x0), none]) (r := 1) (by decide +kernel) (Nat.le_of_ble_eq_true rfl) rfl ?_
  unfold X12_reads_F at h
  obtain ⟨Q, hQ⟩ : ∃ Q : Option Value → kw_H → Prop, Q = (fun v h2 => v = some (.int r.1) ∧ h2 = r.2) := ⟨_, rfl⟩
  have hK : Q (some (.int r.1)) r.2 := by rw [hQ]; exact ⟨rfl, rfl⟩
  rw [← hQ]
  clear hQ
  refine kw_iconst (v := nI 0) dX12_reads_0 (by decide) ?_
  refine kw_istore_n (L' := [some (.ref x0), some (.int (nI 0))]) dX12_reads_1 (by decide) rfl ?_
  exact X12_reads_L2_t G Q x0 _ (nI 0, hp) _ h hK
/-! KitchenWheelsModel.copyTown(II)V -/
def X12_copyTown_K2 (G : kw_G) (Q : Option Value → kw_H → Prop) (x0 : Nat) (x1 : Int32) (x2 : Int32) (r : (Int32 × kw_H) ⊕ (kw_H)) : Prop := match r with
  | .inl z => kw_V G mX12_copyTown 2 [some (.ref x0), some (.int x1), some (.int x2), some (.int z.1)] [] z.2 Q
  | .inr r => Q none r
def X12_copyTown_J30 (hp : kw_H) : Option (kw_H) :=
  some (hp)
set_option maxRecDepth 100000 in
set_option maxHeartbeats 4000000 in
theorem X12_copyTown_J30_t (G : kw_G) (Q : Option Value → kw_H → Prop) (hp : kw_H) (r : kw_H) (h : X12_copyTown_J30 hp = some r) (hK : Q none r) : kw_V G mX12_copyTown 30 [none, none, none, none] [] hp Q := by
  unfold X12_copyTown_J30 at h
  have h := Option.some.inj h
  subst h
  exact kw_vret rfl dX12_copyTown_30 hK
def X12_copyTown_b2 (x0 : Nat) (x1 : Int32) (x2 : Int32) (x3 : Int32) (hp : kw_H) : Option (((Int32 × kw_H) ⊕ (kw_H))) :=
  (if (nI 66) ≤ x3 then
  (X12_copyTown_J30 hp).map (fun r => .inr (r))
else
  (kp_gR hp x0 [11] 0).bind fun v2 =>
  (kp_gR hp x0 [11] 0).bind fun v3 =>
  (kp_ldI hp v3 (x1 + x3)).bind fun v4 =>
  (kp_stI hp v2 (x2 + x3) v4).bind fun hp5 =>
  some (.inl (x3 + (nI 1), hp5)))
set_option maxRecDepth 100000 in
set_option maxHeartbeats 4000000 in
theorem X12_copyTown_b2_t (G : kw_G) (Q : Option Value → kw_H → Prop) (x0 : Nat) (x1 : Int32) (x2 : Int32) (x3 : Int32) (hp : kw_H) (r : ((Int32 × kw_H) ⊕ (kw_H))) (h : X12_copyTown_b2 x0 x1 x2 x3 hp = some r) (hK : X12_copyTown_K2 G Q x0 x1 x2 r) : kw_V G mX12_copyTown 2 [some (.ref x0), some (.int x1), some (.int x2), some (.int x3)] [] hp Q := by
  unfold X12_copyTown_b2 at h
  refine kw_iload_n dX12_copyTown_2 rfl ?_
  refine kw_bipush (v := nI 66) dX12_copyTown_3 (by decide) ?_
  refine kw_icmp_ge 30 dX12_copyTown_5 (by decide) (fun c6 => ?_) (fun c6 => ?_)
  · have h := (if_pos c6).symm.trans h
    refine kw_mask [false, false, false, false] (L' := [none, none, none, none]) rfl ?_
    obtain ⟨r1, hr1, hrr1⟩ := Option.map_eq_some_iff.mp h
    subst hrr1
    exact X12_copyTown_J30_t G Q hp r1 hr1 hK
  · have h := (if_neg c6).symm.trans h
    refine kw_aload_n dX12_copyTown_8 rfl ?_
    obtain ⟨v2, ev2, h⟩ := Option.bind_eq_some_iff.mp h
    refine kv_gR gfX12_7 dX12_copyTown_9 ev2 ?_
    refine kw_iload_n dX12_copyTown_12 rfl ?_
    refine kw_iload_n dX12_copyTown_13 rfl ?_
    refine kw_iadd dX12_copyTown_14 ?_
    refine kw_aload_n dX12_copyTown_15 rfl ?_
    obtain ⟨v3, ev3, h⟩ := Option.bind_eq_some_iff.mp h
    refine kv_gR gfX12_7 dX12_copyTown_16 ev3 ?_
    refine kw_iload_n dX12_copyTown_19 rfl ?_
    refine kw_iload_n dX12_copyTown_20 rfl ?_
    refine kw_iadd dX12_copyTown_21 ?_
    obtain ⟨v4, ev4, h⟩ := Option.bind_eq_some_iff.mp h
    refine kv_ldI dX12_copyTown_22 ev4 ?_
    obtain ⟨hp5, ehp5, h⟩ := Option.bind_eq_some_iff.mp h
    refine kv_stI dX12_copyTown_23 ehp5 ?_
    refine kv_iinc (w := nI 1) (L' := [some (.ref x0), some (.int x1), some (.int x2), some (.int (x3 + (nI 1)))]) dX12_copyTown_24 (by decide) rfl (by decide) rfl ?_
    refine kw_goto 2 dX12_copyTown_27 (by decide) ?_
    have h := Option.some.inj h
    subst h
    exact hK
def X12_copyTown_B2 (x0 : Nat) (x1 : Int32) (x2 : Int32) (z : Int32 × kw_H) : Option (((Int32 × kw_H) ⊕ (kw_H))) := X12_copyTown_b2 x0 x1 x2 z.1 z.2
theorem X12_copyTown_L2_t (G : kw_G) (Q : Option Value → kw_H → Prop) (x0 : Nat) (x1 : Int32) (x2 : Int32) (n : Nat) (z : Int32 × kw_H) (r : kw_H) (h : kp_lp (X12_copyTown_B2 x0 x1 x2) n z = some r) (hK : Q none r) : kw_V G mX12_copyTown 2 [some (.ref x0), some (.int x1), some (.int x2), some (.int z.1)] [] z.2 Q :=
  kv_lp _ (fun z => kw_V G mX12_copyTown 2 [some (.ref x0), some (.int x1), some (.int x2), some (.int z.1)] [] z.2 Q) (fun r => Q none r) (fun z x hb hx => X12_copyTown_b2_t G Q x0 x1 x2 z.1 z.2 x hb (by cases x <;> exact hx)) n z r h hK
def X12_copyTown_F (hp : kw_H) (x0 : Nat) (x1 : Int32) (x2 : Int32) : Option (kw_H) :=
  kp_lp (X12_copyTown_B2 x0 x1 x2) 2000 (nI 0, hp)
set_option maxRecDepth 100000 in
set_option maxHeartbeats 4000000 in
theorem X12_copyTown_c (G : kw_G) (hp : kw_H) (x0 : Nat) (x1 : Int32) (x2 : Int32) (r : kw_H) (h : X12_copyTown_F hp x0 x1 x2 = some r) : kw_Met G mX12_copyTown [.ref x0, .int x1, .int x2] hp (fun v h2 => v = none ∧ h2 = r) := by
  refine kw_met (L := [some (.ref x0), some (.int x1), some (.int x2), none]) (r := 1) (by decide +kernel) (Nat.le_of_ble_eq_true rfl) rfl ?_
  unfold X12_copyTown_F at h
  obtain ⟨Q, hQ⟩ : ∃ Q : Option Value → kw_H → Prop, Q = (fun v h2 => v = none ∧ h2 = r) := ⟨_, rfl⟩
  have hK : Q none r := by rw [hQ]; exact ⟨rfl, rfl⟩
  rw [← hQ]
  clear hQ
  refine kw_iconst (v := nI 0) dX12_copyTown_0 (by decide) ?_
  refine kw_istore_n (L' := [some (.ref x0), some (.int x1), some (.int x2), some (.int (nI 0))]) dX12_copyTown_1 (by decide) rfl ?_
  exact X12_copyTown_L2_t G Q x0 x1 x2 _ (nI 0, hp) _ h hK
/-! KitchenWheelsModel.kitchen()I -/
def X12_kitchen_F (hp : kw_H) (x0 : Nat) : Option (Int32 × kw_H) :=
  ((kp_ob hp x0 11).bind fun _ => X12_reads_F hp x0).bind fun r1 =>
  (kp_put r1.2 x0 [11] 8 (.int (nI 0))).bind fun hp2 =>
  (if r1.1 = 0 then
  (kp_gI hp2 x0 [11] 14).bind fun v8 =>
  (kp_put hp2 x0 [11] 9 (.int v8)).bind fun hp9 =>
  (kp_gI hp9 x0 [11] 13).bind fun v10 =>
  some ((((-1000100)) - v10, hp9))
else
  ((kp_ob hp2 x0 11).bind fun _ => X12_copyTown_F hp2 x0 (nI 1782) (nI 0)).bind fun r3 =>
  (kp_put r3 x0 [11] 1 (.int (nI 1))).bind fun hp4 =>
  (kp_put hp4 x0 [11] 2 (.int (nI 0))).bind fun hp5 =>
  (kp_gR hp5 x0 [11] 0).bind fun v6 =>
  (kp_ldI hp5 v6 (nI 2)).bind fun v7 =>
  some ((v7, hp5)))
set_option maxRecDepth 100000 in
set_option maxHeartbeats 4000000 in
theorem X12_kitchen_c (G : kw_G) (hp : kw_H) (x0 : Nat) (r : Int32 × kw_H) (h : X12_kitchen_F hp x0 = some r) : kw_Met G mX12_kitchen [.ref x0] hp (fun v h2 => v = some (.int r.1) ∧ h2 = r.2) := by
  refine kw_met (L := [some (.ref x0), none]) (r := 1) (by decide +kernel) (Nat.le_of_ble_eq_true rfl) rfl ?_
  unfold X12_kitchen_F at h
  obtain ⟨Q, hQ⟩ : ∃ Q : Option Value → kw_H → Prop, Q = (fun v h2 => v = some (.int r.1) ∧ h2 = r.2) := ⟨_, rfl⟩
  have hK : Q (some (.int r.1)) r.2 := by rw [hQ]; exact ⟨rfl, rfl⟩
  rw [← hQ]
  clear hQ
  refine kw_aload_n dX12_kitchen_0 rfl ?_
  obtain ⟨r1, er1, h⟩ := Option.bind_eq_some_iff.mp h
  obtain ⟨ur1, eur1, er1⟩ := Option.bind_eq_some_iff.mp er1
  obtain ⟨fsr1, hor1⟩ := kp_ob_inv eur1
  refine kw_callV (As := []) (S := []) kcX12 cbX12_kitchen_X12_reads lkX12_121 imX12_reads seX12_X12_reads_X12_reads rfl rfl (Nat.le_of_ble_eq_true rfl) dX12_kitchen_1 hor1 (X12_reads_c G hp x0 _ er1) (fun vv hh hq => ?_)
  rw [hq.1, hq.2]
  show kw_V G mX12_kitchen 4 [some (.ref x0), none] [.int r1.1] r1.2 Q
  refine kw_istore_n (L' := [some (.ref x0), some (.int r1.1)]) dX12_kitchen_4 (by decide) rfl ?_
  refine kw_aload_n dX12_kitchen_5 rfl ?_
  refine kw_iconst (v := nI 0) dX12_kitchen_6 (by decide) ?_
  obtain ⟨hp2, ehp2, h⟩ := Option.bind_eq_some_iff.mp h
  refine kv_put pfX12_kitchen_70 (fun _ => ⟨rfl, rfl⟩) dX12_kitchen_7 ehp2 ?_
  refine kw_iload_n dX12_kitchen_10 rfl ?_
  refine kw_if_ne 30 dX12_kitchen_11 (by decide) (fun c11 => ?_) (fun c11 => ?_)
  · have h := (if_neg c11).symm.trans h
    refine kw_aload_n dX12_kitchen_30 rfl ?_
    refine kw_sipush (v := nI 1782) dX12_kitchen_31 (by decide) ?_
    refine kw_iconst (v := nI 0) dX12_kitchen_34 (by decide) ?_
    obtain ⟨r3, er3, h⟩ := Option.bind_eq_some_iff.mp h
    obtain ⟨ur3, eur3, er3⟩ := Option.bind_eq_some_iff.mp er3
    obtain ⟨fsr3, hor3⟩ := kp_ob_inv eur3
    refine kw_callV (As := [.int (nI 1782), .int (nI 0)]) (S := []) kcX12 cbX12_kitchen_X12_copyTown lkX12_128 imX12_copyTown seX12_X12_copyTown_X12_copyTown rfl rfl (Nat.le_of_ble_eq_true rfl) dX12_kitchen_35 hor3 (X12_copyTown_c G hp2 x0 (nI 1782) (nI 0) _ er3) (fun vv hh hq => ?_)
    rw [hq.1, hq.2]
    show kw_V G mX12_kitchen 38 [some (.ref x0), some (.int r1.1)] [] r3 Q
    refine kw_aload_n dX12_kitchen_38 rfl ?_
    refine kw_iconst (v := nI 1) dX12_kitchen_39 (by decide) ?_
    obtain ⟨hp4, ehp4, h⟩ := Option.bind_eq_some_iff.mp h
    refine kv_put pfX12_kitchen_132 (fun _ => ⟨rfl, rfl⟩) dX12_kitchen_40 ehp4 ?_
    refine kw_aload_n dX12_kitchen_43 rfl ?_
    refine kw_iconst (v := nI 0) dX12_kitchen_44 (by decide) ?_
    obtain ⟨hp5, ehp5, h⟩ := Option.bind_eq_some_iff.mp h
    refine kv_put pfX12_kitchen_136 (fun _ => ⟨rfl, rfl⟩) dX12_kitchen_45 ehp5 ?_
    refine kw_aload_n dX12_kitchen_48 rfl ?_
    obtain ⟨v6, ev6, h⟩ := Option.bind_eq_some_iff.mp h
    refine kv_gR gfX12_7 dX12_kitchen_49 ev6 ?_
    refine kw_iconst (v := nI 2) dX12_kitchen_52 (by decide) ?_
    obtain ⟨v7, ev7, h⟩ := Option.bind_eq_some_iff.mp h
    refine kv_ldI dX12_kitchen_53 ev7 ?_
    have h := Option.some.inj h
    subst h
    exact kw_iret rfl dX12_kitchen_54 hK
  · have h := (if_pos c11).symm.trans h
    refine kw_aload_n dX12_kitchen_14 rfl ?_
    refine kw_aload_n dX12_kitchen_15 rfl ?_
    obtain ⟨v8, ev8, h⟩ := Option.bind_eq_some_iff.mp h
    refine kv_gI gfX12_81 dX12_kitchen_16 ev8 ?_
    obtain ⟨hp9, ehp9, h⟩ := Option.bind_eq_some_iff.mp h
    refine kv_put pfX12_kitchen_124 (fun _ => ⟨rfl, rfl⟩) dX12_kitchen_19 ehp9 ?_
    refine kw_ldc (v := (-1000100)) dX12_kitchen_22 ckX12_127 ?_
    refine kw_aload_n dX12_kitchen_24 rfl ?_
    obtain ⟨v10, ev10, h⟩ := Option.bind_eq_some_iff.mp h
    refine kv_gI gfX12_74 dX12_kitchen_25 ev10 ?_
    refine kw_isub dX12_kitchen_28 ?_
    have h := Option.some.inj h
    subst h
    exact kw_iret rfl dX12_kitchen_29 hK
/-! KitchenWheelsModel.fault()I -/
def X12_fault_F (hp : kw_H) (x0 : Nat) : Option (Int32) :=
  (kp_gI hp x0 [11] 9).bind fun v1 =>
  some (v1)
set_option maxRecDepth 100000 in
set_option maxHeartbeats 4000000 in
theorem X12_fault_c (G : kw_G) (hp : kw_H) (x0 : Nat) (r : Int32) (h : X12_fault_F hp x0 = some r) : kw_Met G mX12_fault [.ref x0] hp (fun v h2 => v = some (.int r) ∧ h2 = hp) := by
  refine kw_met (L := [some (.ref x0)]) (r := 0) (by decide +kernel) (Nat.le_of_ble_eq_true rfl) rfl ?_
  unfold X12_fault_F at h
  obtain ⟨Q, hQ⟩ : ∃ Q : Option Value → kw_H → Prop, Q = (fun v h2 => v = some (.int r) ∧ h2 = hp) := ⟨_, rfl⟩
  have hK : Q (some (.int r)) hp := by rw [hQ]; exact ⟨rfl, rfl⟩
  rw [← hQ]
  clear hQ
  refine kw_aload_n dX12_fault_0 rfl ?_
  obtain ⟨v1, ev1, h⟩ := Option.bind_eq_some_iff.mp h
  refine kv_gI gfX12_124 dX12_fault_1 ev1 ?_
  have h := Option.some.inj h
  subst h
  exact kw_iret rfl dX12_fault_4 hK
/-! KitchenWheelsModel.keepPast()V -/
def X12_keepPast_K2 (G : kw_G) (Q : Option Value → kw_H → Prop) (x0 : Nat) (r : (Int32 × kw_H) ⊕ (kw_H)) : Prop := match r with
  | .inl z => kw_V G mX12_keepPast 2 [some (.ref x0), some (.int z.1)] [] z.2 Q
  | .inr r => Q none r
def X12_keepPast_J62 (hp : kw_H) (x0 : Nat) (s0 : Int32) (s1 : Int32) (s2 : Nat) : Option (kw_H) :=
  (kp_put hp s2 [11] 2 (.int (s1 - s0))).bind fun hp3 =>
  (kp_gI hp3 x0 [11] 2).bind fun v4 =>
  ((kp_ob hp3 x0 11).bind fun _ => X12_copyTown_F hp3 x0 (nI 0) ((nI 66) + ((nI 66) * v4))).bind fun r5 =>
  (kp_gI r5 x0 [11] 2).bind fun v6 =>
  (kp_put r5 x0 [11] 2 (.int (v6 + (nI 1)))).bind fun hp7 =>
  some (hp7)
set_option maxRecDepth 100000 in
set_option maxHeartbeats 4000000 in
theorem X12_keepPast_J62_t (G : kw_G) (Q : Option Value → kw_H → Prop) (hp : kw_H) (x0 : Nat) (s0 : Int32) (s1 : Int32) (s2 : Nat) (r : kw_H) (h : X12_keepPast_J62 hp x0 s0 s1 s2 = some r) (hK : Q none r) : kw_V G mX12_keepPast 62 [some (.ref x0), none] [.int s0, .int s1, .ref s2] hp Q := by
  unfold X12_keepPast_J62 at h
  refine kw_isub dX12_keepPast_62 ?_
  obtain ⟨hp3, ehp3, h⟩ := Option.bind_eq_some_iff.mp h
  refine kv_put pfX12_keepPast_136 (fun _ => ⟨rfl, rfl⟩) dX12_keepPast_63 ehp3 ?_
  refine kw_aload_n dX12_keepPast_66 rfl ?_
  refine kw_iconst (v := nI 0) dX12_keepPast_67 (by decide) ?_
  refine kw_bipush (v := nI 66) dX12_keepPast_68 (by decide) ?_
  refine kw_bipush (v := nI 66) dX12_keepPast_70 (by decide) ?_
  refine kw_aload_n dX12_keepPast_72 rfl ?_
  obtain ⟨v4, ev4, h⟩ := Option.bind_eq_some_iff.mp h
  refine kv_gI gfX12_136 dX12_keepPast_73 ev4 ?_
  refine kw_imul dX12_keepPast_76 ?_
  refine kw_iadd dX12_keepPast_77 ?_
  obtain ⟨r5, er5, h⟩ := Option.bind_eq_some_iff.mp h
  obtain ⟨ur5, eur5, er5⟩ := Option.bind_eq_some_iff.mp er5
  obtain ⟨fsr5, hor5⟩ := kp_ob_inv eur5
  refine kw_callV (As := [.int (nI 0), .int ((nI 66) + ((nI 66) * v4))]) (S := []) kcX12 cbX12_keepPast_X12_copyTown lkX12_128 imX12_copyTown seX12_X12_copyTown_X12_copyTown rfl rfl (Nat.le_of_ble_eq_true rfl) dX12_keepPast_78 hor5 (X12_copyTown_c G hp3 x0 (nI 0) ((nI 66) + ((nI 66) * v4)) _ er5) (fun vv hh hq => ?_)
  rw [hq.1, hq.2]
  show kw_V G mX12_keepPast 81 [some (.ref x0), none] [] r5 Q
  refine kw_aload_n dX12_keepPast_81 rfl ?_
  refine kw_dup dX12_keepPast_82 rfl ?_
  obtain ⟨v6, ev6, h⟩ := Option.bind_eq_some_iff.mp h
  refine kv_gI gfX12_136 dX12_keepPast_83 ev6 ?_
  refine kw_iconst (v := nI 1) dX12_keepPast_86 (by decide) ?_
  refine kw_iadd dX12_keepPast_87 ?_
  obtain ⟨hp7, ehp7, h⟩ := Option.bind_eq_some_iff.mp h
  refine kv_put pfX12_keepPast_136 (fun _ => ⟨rfl, rfl⟩) dX12_keepPast_88 ehp7 ?_
  have h := Option.some.inj h
  subst h
  exact kw_vret rfl dX12_keepPast_91 hK
def X12_keepPast_J43 (hp : kw_H) (x0 : Nat) : Option (kw_H) :=
  (kp_gI hp x0 [11] 2).bind fun v1 =>
  (kp_gI hp x0 [11] 2).bind fun v2 =>
  (if v2 = (nI 24) then
  X12_keepPast_J62 hp x0 (nI 1) v1 x0
else
  X12_keepPast_J62 hp x0 (nI 0) v1 x0)
set_option maxRecDepth 100000 in
set_option maxHeartbeats 4000000 in
theorem X12_keepPast_J43_t (G : kw_G) (Q : Option Value → kw_H → Prop) (hp : kw_H) (x0 : Nat) (r : kw_H) (h : X12_keepPast_J43 hp x0 = some r) (hK : Q none r) : kw_V G mX12_keepPast 43 [some (.ref x0), none] [] hp Q := by
  unfold X12_keepPast_J43 at h
  refine kw_aload_n dX12_keepPast_43 rfl ?_
  refine kw_dup dX12_keepPast_44 rfl ?_
  obtain ⟨v1, ev1, h⟩ := Option.bind_eq_some_iff.mp h
  refine kv_gI gfX12_136 dX12_keepPast_45 ev1 ?_
  refine kw_aload_n dX12_keepPast_48 rfl ?_
  obtain ⟨v2, ev2, h⟩ := Option.bind_eq_some_iff.mp h
  refine kv_gI gfX12_136 dX12_keepPast_49 ev2 ?_
  refine kw_bipush (v := nI 24) dX12_keepPast_52 (by decide) ?_
  refine kw_icmp_ne 61 dX12_keepPast_54 (by decide) (fun c8 => ?_) (fun c8 => ?_)
  · have h := (if_neg c8).symm.trans h
    refine kw_iconst (v := nI 0) dX12_keepPast_61 (by decide) ?_
    exact X12_keepPast_J62_t G Q hp x0 (nI 0) v1 x0 _ h hK
  · have h := (if_pos c8).symm.trans h
    refine kw_iconst (v := nI 1) dX12_keepPast_57 (by decide) ?_
    refine kw_goto 62 dX12_keepPast_58 (by decide) ?_
    exact X12_keepPast_J62_t G Q hp x0 (nI 1) v1 x0 _ h hK
def X12_keepPast_b2 (x0 : Nat) (x1 : Int32) (hp : kw_H) : Option (((Int32 × kw_H) ⊕ (kw_H))) :=
  (if (nI 1518) ≤ x1 then
  (X12_keepPast_J43 hp x0).map (fun r => .inr (r))
else
  (kp_gI hp x0 [11] 2).bind fun v10 =>
  (if v10 = (nI 24) then
  (kp_gR hp x0 [11] 0).bind fun v12 =>
  (kp_gR hp x0 [11] 0).bind fun v13 =>
  (kp_ldI hp v13 ((nI 132) + x1)).bind fun v14 =>
  (kp_stI hp v12 ((nI 66) + x1) v14).bind fun hp15 =>
  some (.inl (x1 + (nI 1), hp15))
else
  (X12_keepPast_J43 hp x0).map (fun r => .inr (r))))
set_option maxRecDepth 100000 in
set_option maxHeartbeats 4000000 in
theorem X12_keepPast_b2_t (G : kw_G) (Q : Option Value → kw_H → Prop) (x0 : Nat) (x1 : Int32) (hp : kw_H) (r : ((Int32 × kw_H) ⊕ (kw_H))) (h : X12_keepPast_b2 x0 x1 hp = some r) (hK : X12_keepPast_K2 G Q x0 r) : kw_V G mX12_keepPast 2 [some (.ref x0), some (.int x1)] [] hp Q := by
  unfold X12_keepPast_b2 at h
  refine kw_iload_n dX12_keepPast_2 rfl ?_
  refine kw_sipush (v := nI 1518) dX12_keepPast_3 (by decide) ?_
  refine kw_icmp_ge 43 dX12_keepPast_6 (by decide) (fun c17 => ?_) (fun c17 => ?_)
  · have h := (if_pos c17).symm.trans h
    refine kw_mask [true, false] (L' := [some (.ref x0), none]) rfl ?_
    obtain ⟨r9, hr9, hrr9⟩ := Option.map_eq_some_iff.mp h
    subst hrr9
    exact X12_keepPast_J43_t G Q hp x0 r9 hr9 hK
  · have h := (if_neg c17).symm.trans h
    refine kw_aload_n dX12_keepPast_9 rfl ?_
    obtain ⟨v10, ev10, h⟩ := Option.bind_eq_some_iff.mp h
    refine kv_gI gfX12_136 dX12_keepPast_10 ev10 ?_
    refine kw_bipush (v := nI 24) dX12_keepPast_13 (by decide) ?_
    refine kw_icmp_ne 43 dX12_keepPast_15 (by decide) (fun c16 => ?_) (fun c16 => ?_)
    · have h := (if_neg c16).symm.trans h
      refine kw_mask [true, false] (L' := [some (.ref x0), none]) rfl ?_
      obtain ⟨r11, hr11, hrr11⟩ := Option.map_eq_some_iff.mp h
      subst hrr11
      exact X12_keepPast_J43_t G Q hp x0 r11 hr11 hK
    · have h := (if_pos c16).symm.trans h
      refine kw_aload_n dX12_keepPast_18 rfl ?_
      obtain ⟨v12, ev12, h⟩ := Option.bind_eq_some_iff.mp h
      refine kv_gR gfX12_7 dX12_keepPast_19 ev12 ?_
      refine kw_bipush (v := nI 66) dX12_keepPast_22 (by decide) ?_
      refine kw_iload_n dX12_keepPast_24 rfl ?_
      refine kw_iadd dX12_keepPast_25 ?_
      refine kw_aload_n dX12_keepPast_26 rfl ?_
      obtain ⟨v13, ev13, h⟩ := Option.bind_eq_some_iff.mp h
      refine kv_gR gfX12_7 dX12_keepPast_27 ev13 ?_
      refine kw_sipush (v := nI 132) dX12_keepPast_30 (by decide) ?_
      refine kw_iload_n dX12_keepPast_33 rfl ?_
      refine kw_iadd dX12_keepPast_34 ?_
      obtain ⟨v14, ev14, h⟩ := Option.bind_eq_some_iff.mp h
      refine kv_ldI dX12_keepPast_35 ev14 ?_
      obtain ⟨hp15, ehp15, h⟩ := Option.bind_eq_some_iff.mp h
      refine kv_stI dX12_keepPast_36 ehp15 ?_
      refine kv_iinc (w := nI 1) (L' := [some (.ref x0), some (.int (x1 + (nI 1)))]) dX12_keepPast_37 (by decide) rfl (by decide) rfl ?_
      refine kw_goto 2 dX12_keepPast_40 (by decide) ?_
      have h := Option.some.inj h
      subst h
      exact hK
def X12_keepPast_B2 (x0 : Nat) (z : Int32 × kw_H) : Option (((Int32 × kw_H) ⊕ (kw_H))) := X12_keepPast_b2 x0 z.1 z.2
theorem X12_keepPast_L2_t (G : kw_G) (Q : Option Value → kw_H → Prop) (x0 : Nat) (n : Nat) (z : Int32 × kw_H) (r : kw_H) (h : kp_lp (X12_keepPast_B2 x0) n z = some r) (hK : Q none r) : kw_V G mX12_keepPast 2 [some (.ref x0), some (.int z.1)] [] z.2 Q :=
  kv_lp _ (fun z => kw_V G mX12_keepPast 2 [some (.ref x0), some (.int z.1)] [] z.2 Q) (fun r => Q none r) (fun z x hb hx => X12_keepPast_b2_t G Q x0 z.1 z.2 x hb (by cases x <;> exact hx)) n z r h hK
def X12_keepPast_F (hp : kw_H) (x0 : Nat) : Option (kw_H) :=
  kp_lp (X12_keepPast_B2 x0) 2000 (nI 0, hp)
set_option maxRecDepth 100000 in
set_option maxHeartbeats 4000000 in
theorem X12_keepPast_c (G : kw_G) (hp : kw_H) (x0 : Nat) (r : kw_H) (h : X12_keepPast_F hp x0 = some r) : kw_Met G mX12_keepPast [.ref x0] hp (fun v h2 => v = none ∧ h2 = r) := by
  refine kw_met (L := [some (.ref x0), none]) (r := 1) (by decide +kernel) (Nat.le_of_ble_eq_true rfl) rfl ?_
  unfold X12_keepPast_F at h
  obtain ⟨Q, hQ⟩ : ∃ Q : Option Value → kw_H → Prop, Q = (fun v h2 => v = none ∧ h2 = r) := ⟨_, rfl⟩
  have hK : Q none r := by rw [hQ]; exact ⟨rfl, rfl⟩
  rw [← hQ]
  clear hQ
  refine kw_iconst (v := nI 0) dX12_keepPast_0 (by decide) ?_
  refine kw_istore_n (L' := [some (.ref x0), some (.int (nI 0))]) dX12_keepPast_1 (by decide) rfl ?_
  exact X12_keepPast_L2_t G Q x0 _ (nI 0, hp) _ h hK
/-! KitchenWheelsModel.undo()I -/
def X12_undo_F (hp : kw_H) (x0 : Nat) : Option (Int32 × kw_H) :=
  (kp_gI hp x0 [11] 2).bind fun v1 =>
  (if v1 = 0 then
  some (((-1000002), hp))
else
  (kp_gI hp x0 [11] 2).bind fun v2 =>
  (kp_put hp x0 [11] 2 (.int (v2 - (nI 1)))).bind fun hp3 =>
  (kp_gI hp3 x0 [11] 2).bind fun v4 =>
  ((kp_ob hp3 x0 11).bind fun _ => X12_copyTown_F hp3 x0 ((nI 66) + ((nI 66) * v4)) (nI 0)).bind fun r5 =>
  (kp_gI r5 x0 [11] 2).bind fun v6 =>
  some ((v6, r5)))
set_option maxRecDepth 100000 in
set_option maxHeartbeats 4000000 in
theorem X12_undo_c (G : kw_G) (hp : kw_H) (x0 : Nat) (r : Int32 × kw_H) (h : X12_undo_F hp x0 = some r) : kw_Met G mX12_undo [.ref x0] hp (fun v h2 => v = some (.int r.1) ∧ h2 = r.2) := by
  refine kw_met (L := [some (.ref x0)]) (r := 0) (by decide +kernel) (Nat.le_of_ble_eq_true rfl) rfl ?_
  unfold X12_undo_F at h
  obtain ⟨Q, hQ⟩ : ∃ Q : Option Value → kw_H → Prop, Q = (fun v h2 => v = some (.int r.1) ∧ h2 = r.2) := ⟨_, rfl⟩
  have hK : Q (some (.int r.1)) r.2 := by rw [hQ]; exact ⟨rfl, rfl⟩
  rw [← hQ]
  clear hQ
  refine kw_aload_n dX12_undo_0 rfl ?_
  obtain ⟨v1, ev1, h⟩ := Option.bind_eq_some_iff.mp h
  refine kv_gI gfX12_136 dX12_undo_1 ev1 ?_
  refine kw_if_ne 10 dX12_undo_4 (by decide) (fun c7 => ?_) (fun c7 => ?_)
  · have h := (if_neg c7).symm.trans h
    refine kw_aload_n dX12_undo_10 rfl ?_
    refine kw_dup dX12_undo_11 rfl ?_
    obtain ⟨v2, ev2, h⟩ := Option.bind_eq_some_iff.mp h
    refine kv_gI gfX12_136 dX12_undo_12 ev2 ?_
    refine kw_iconst (v := nI 1) dX12_undo_15 (by decide) ?_
    refine kw_isub dX12_undo_16 ?_
    obtain ⟨hp3, ehp3, h⟩ := Option.bind_eq_some_iff.mp h
    refine kv_put pfX12_undo_136 (fun _ => ⟨rfl, rfl⟩) dX12_undo_17 ehp3 ?_
    refine kw_aload_n dX12_undo_20 rfl ?_
    refine kw_bipush (v := nI 66) dX12_undo_21 (by decide) ?_
    refine kw_bipush (v := nI 66) dX12_undo_23 (by decide) ?_
    refine kw_aload_n dX12_undo_25 rfl ?_
    obtain ⟨v4, ev4, h⟩ := Option.bind_eq_some_iff.mp h
    refine kv_gI gfX12_136 dX12_undo_26 ev4 ?_
    refine kw_imul dX12_undo_29 ?_
    refine kw_iadd dX12_undo_30 ?_
    refine kw_iconst (v := nI 0) dX12_undo_31 (by decide) ?_
    obtain ⟨r5, er5, h⟩ := Option.bind_eq_some_iff.mp h
    obtain ⟨ur5, eur5, er5⟩ := Option.bind_eq_some_iff.mp er5
    obtain ⟨fsr5, hor5⟩ := kp_ob_inv eur5
    refine kw_callV (As := [.int ((nI 66) + ((nI 66) * v4)), .int (nI 0)]) (S := []) kcX12 cbX12_undo_X12_copyTown lkX12_128 imX12_copyTown seX12_X12_copyTown_X12_copyTown rfl rfl (Nat.le_of_ble_eq_true rfl) dX12_undo_32 hor5 (X12_copyTown_c G hp3 x0 ((nI 66) + ((nI 66) * v4)) (nI 0) _ er5) (fun vv hh hq => ?_)
    rw [hq.1, hq.2]
    show kw_V G mX12_undo 35 [some (.ref x0)] [] r5 Q
    refine kw_aload_n dX12_undo_35 rfl ?_
    obtain ⟨v6, ev6, h⟩ := Option.bind_eq_some_iff.mp h
    refine kv_gI gfX12_136 dX12_undo_36 ev6 ?_
    have h := Option.some.inj h
    subst h
    exact kw_iret rfl dX12_undo_39 hK
  · have h := (if_pos c7).symm.trans h
    refine kw_ldc (v := (-1000002)) dX12_undo_7 ckX12_139 ?_
    have h := Option.some.inj h
    subst h
    exact kw_iret rfl dX12_undo_9 hK
/-! KitchenWheelsModel.isSix(I)Z -/
def X12_isSix_F (hp : kw_H) (x0 : Int32) : Option (Int32) :=
  (X12_in_F hp (Int32.toInt64 x0) (lN 0) (lN 5)).bind fun r1 =>
  (kp_bool r1).bind fun v2 =>
  some (v2)
set_option maxRecDepth 100000 in
set_option maxHeartbeats 4000000 in
theorem X12_isSix_c (G : kw_G) (hp : kw_H) (x0 : Int32) (r : Int32) (h : X12_isSix_F hp x0 = some r) : kw_Met G mX12_isSix [.int x0] hp (fun v h2 => v = some (.int r) ∧ h2 = hp) := by
  refine kw_met (L := [some (.int x0)]) (r := 0) (by decide +kernel) (Nat.le_of_ble_eq_true rfl) rfl ?_
  unfold X12_isSix_F at h
  obtain ⟨Q, hQ⟩ : ∃ Q : Option Value → kw_H → Prop, Q = (fun v h2 => v = some (.int r) ∧ h2 = hp) := ⟨_, rfl⟩
  have hK : Q (some (.int r)) hp := by rw [hQ]; exact ⟨rfl, rfl⟩
  rw [← hQ]
  clear hQ
  refine kw_iload_n dX12_isSix_0 rfl ?_
  refine kw_i2l dX12_isSix_1 ?_
  refine kw_lconst (v := lN 0) dX12_isSix_2 (by decide) ?_
  refine kw_ldc2_w (v := lN 5) dX12_isSix_3 ckX12_140 ?_
  obtain ⟨r1, er1, h⟩ := Option.bind_eq_some_iff.mp h
  refine kw_callS (As := [.long (Int32.toInt64 x0), .long (lN 0), .long (lN 5)]) (S := []) cbX12_isSix_X12_in lkX12_42 stX12_in rfl rfl (Nat.le_of_ble_eq_true rfl) dX12_isSix_6 (X12_in_c G hp (Int32.toInt64 x0) (lN 0) (lN 5) _ er1) (fun vv hh hq => ?_)
  rw [hq.1, hq.2]
  show kw_V G mX12_isSix 9 [some (.int x0)] [.int r1] hp Q
  obtain ⟨v2, ev2, h⟩ := Option.bind_eq_some_iff.mp h
  obtain ⟨qv2, bv2⟩ := kv_bool ev2
  have h := Option.some.inj h
  subst h
  rw [qv2]
  exact kw_zret rfl bv2 dX12_isSix_9 hK
/-! KitchenWheelsModel.nameAt(II)I -/
def X12_nameAt_F (hp : kw_H) (x0 : Nat) (x1 : Int32) (x2 : Int32) : Option (Int32) :=
  (kp_gR hp x0 [11] 0).bind fun v1 =>
  (kp_ldI hp v1 ((x1 + (nI 6)) + x2)).bind fun v2 =>
  some (v2)
set_option maxRecDepth 100000 in
set_option maxHeartbeats 4000000 in
theorem X12_nameAt_c (G : kw_G) (hp : kw_H) (x0 : Nat) (x1 : Int32) (x2 : Int32) (r : Int32) (h : X12_nameAt_F hp x0 x1 x2 = some r) : kw_Met G mX12_nameAt [.ref x0, .int x1, .int x2] hp (fun v h2 => v = some (.int r) ∧ h2 = hp) := by
  refine kw_met (L := [some (.ref x0), some (.int x1), some (.int x2)]) (r := 0) (by decide +kernel) (Nat.le_of_ble_eq_true rfl) rfl ?_
  unfold X12_nameAt_F at h
  obtain ⟨Q, hQ⟩ : ∃ Q : Option Value → kw_H → Prop, Q = (fun v h2 => v = some (.int r) ∧ h2 = hp) := ⟨_, rfl⟩
  have hK : Q (some (.int r)) hp := by rw [hQ]; exact ⟨rfl, rfl⟩
  rw [← hQ]
  clear hQ
  refine kw_aload_n dX12_nameAt_0 rfl ?_
  obtain ⟨v1, ev1, h⟩ := Option.bind_eq_some_iff.mp h
  refine kv_gR gfX12_7 dX12_nameAt_1 ev1 ?_
  refine kw_iload_n dX12_nameAt_4 rfl ?_
  refine kw_bipush (v := nI 6) dX12_nameAt_5 (by decide) ?_
  refine kw_iadd dX12_nameAt_7 ?_
  refine kw_iload_n dX12_nameAt_8 rfl ?_
  refine kw_iadd dX12_nameAt_9 ?_
  obtain ⟨v2, ev2, h⟩ := Option.bind_eq_some_iff.mp h
  refine kv_ldI dX12_nameAt_10 ev2 ?_
  have h := Option.some.inj h
  subst h
  exact kw_iret rfl dX12_nameAt_11 hK
/-! KitchenWheelsModel.jobOf(II)I -/
def X12_jobOf_F (hp : kw_H) (x0 : Nat) (x1 : Int32) (x2 : Int32) : Option (Int32) :=
  (kp_gR hp x0 [11] 0).bind fun v1 =>
  (kp_gR hp x0 [11] 0).bind fun v2 =>
  (kp_ldI hp v2 (x1 + (nI 4))).bind fun v3 =>
  (kp_gR hp x0 [11] 0).bind fun v4 =>
  (kp_ldI hp v4 (x1 + (nI 1))).bind fun v5 =>
  (kp_rem (x2 + v3) v5).bind fun v6 =>
  (kp_ldI hp v1 ((x1 + (nI 14)) + v6)).bind fun v7 =>
  ((kp_ob hp x0 11).bind fun _ => X12_nameAt_F hp x0 x1 x2).bind fun r8 =>
  (if r8 = (nI 6) then
  some ((-1000000))
else
  (if v7 = (nI 6) then
  some ((-1000000))
else
  some (v7)))
set_option maxRecDepth 100000 in
set_option maxHeartbeats 4000000 in
theorem X12_jobOf_c (G : kw_G) (hp : kw_H) (x0 : Nat) (x1 : Int32) (x2 : Int32) (r : Int32) (h : X12_jobOf_F hp x0 x1 x2 = some r) : kw_Met G mX12_jobOf [.ref x0, .int x1, .int x2] hp (fun v h2 => v = some (.int r) ∧ h2 = hp) := by
  refine kw_met (L := [some (.ref x0), some (.int x1), some (.int x2), none]) (r := 1) (by decide +kernel) (Nat.le_of_ble_eq_true rfl) rfl ?_
  unfold X12_jobOf_F at h
  obtain ⟨Q, hQ⟩ : ∃ Q : Option Value → kw_H → Prop, Q = (fun v h2 => v = some (.int r) ∧ h2 = hp) := ⟨_, rfl⟩
  have hK : Q (some (.int r)) hp := by rw [hQ]; exact ⟨rfl, rfl⟩
  rw [← hQ]
  clear hQ
  refine kw_aload_n dX12_jobOf_0 rfl ?_
  obtain ⟨v1, ev1, h⟩ := Option.bind_eq_some_iff.mp h
  refine kv_gR gfX12_7 dX12_jobOf_1 ev1 ?_
  refine kw_iload_n dX12_jobOf_4 rfl ?_
  refine kw_bipush (v := nI 14) dX12_jobOf_5 (by decide) ?_
  refine kw_iadd dX12_jobOf_7 ?_
  refine kw_iload_n dX12_jobOf_8 rfl ?_
  refine kw_aload_n dX12_jobOf_9 rfl ?_
  obtain ⟨v2, ev2, h⟩ := Option.bind_eq_some_iff.mp h
  refine kv_gR gfX12_7 dX12_jobOf_10 ev2 ?_
  refine kw_iload_n dX12_jobOf_13 rfl ?_
  refine kw_iconst (v := nI 4) dX12_jobOf_14 (by decide) ?_
  refine kw_iadd dX12_jobOf_15 ?_
  obtain ⟨v3, ev3, h⟩ := Option.bind_eq_some_iff.mp h
  refine kv_ldI dX12_jobOf_16 ev3 ?_
  refine kw_iadd dX12_jobOf_17 ?_
  refine kw_aload_n dX12_jobOf_18 rfl ?_
  obtain ⟨v4, ev4, h⟩ := Option.bind_eq_some_iff.mp h
  refine kv_gR gfX12_7 dX12_jobOf_19 ev4 ?_
  refine kw_iload_n dX12_jobOf_22 rfl ?_
  refine kw_iconst (v := nI 1) dX12_jobOf_23 (by decide) ?_
  refine kw_iadd dX12_jobOf_24 ?_
  obtain ⟨v5, ev5, h⟩ := Option.bind_eq_some_iff.mp h
  refine kv_ldI dX12_jobOf_25 ev5 ?_
  obtain ⟨v6, ev6, h⟩ := Option.bind_eq_some_iff.mp h
  refine kv_irem dX12_jobOf_26 ev6 ?_
  refine kw_iadd dX12_jobOf_27 ?_
  obtain ⟨v7, ev7, h⟩ := Option.bind_eq_some_iff.mp h
  refine kv_ldI dX12_jobOf_28 ev7 ?_
  refine kw_istore_n (L' := [some (.ref x0), some (.int x1), some (.int x2), some (.int v7)]) dX12_jobOf_29 (by decide) rfl ?_
  refine kw_aload_n dX12_jobOf_30 rfl ?_
  refine kw_iload_n dX12_jobOf_31 rfl ?_
  refine kw_iload_n dX12_jobOf_32 rfl ?_
  obtain ⟨r8, er8, h⟩ := Option.bind_eq_some_iff.mp h
  obtain ⟨ur8, eur8, er8⟩ := Option.bind_eq_some_iff.mp er8
  obtain ⟨fsr8, hor8⟩ := kp_ob_inv eur8
  refine kw_callV (As := [.int x1, .int x2]) (S := []) kcX12 cbX12_jobOf_X12_nameAt lkX12_142 imX12_nameAt seX12_X12_nameAt_X12_nameAt rfl rfl (Nat.le_of_ble_eq_true rfl) dX12_jobOf_33 hor8 (X12_nameAt_c G hp x0 x1 x2 _ er8) (fun vv hh hq => ?_)
  rw [hq.1, hq.2]
  show kw_V G mX12_jobOf 36 [some (.ref x0), some (.int x1), some (.int x2), some (.int v7)] [.int r8] hp Q
  refine kw_bipush (v := nI 6) dX12_jobOf_36 (by decide) ?_
  refine kw_icmp_eq 47 dX12_jobOf_38 (by decide) (fun c10 => ?_) (fun c10 => ?_)
  · have h := (if_pos c10).symm.trans h
    refine kw_ldc (v := (-1000000)) dX12_jobOf_47 ckX12_99 ?_
    refine kw_goto 53 dX12_jobOf_49 (by decide) ?_
    have h := Option.some.inj h
    subst h
    exact kw_iret rfl dX12_jobOf_53 hK
  · have h := (if_neg c10).symm.trans h
    refine kw_iload_n dX12_jobOf_41 rfl ?_
    refine kw_bipush (v := nI 6) dX12_jobOf_42 (by decide) ?_
    refine kw_icmp_ne 52 dX12_jobOf_44 (by decide) (fun c9 => ?_) (fun c9 => ?_)
    · have h := (if_neg c9).symm.trans h
      refine kw_iload_n dX12_jobOf_52 rfl ?_
      have h := Option.some.inj h
      subst h
      exact kw_iret rfl dX12_jobOf_53 hK
    · have h := (if_pos c9).symm.trans h
      refine kw_ldc (v := (-1000000)) dX12_jobOf_47 ckX12_99 ?_
      refine kw_goto 53 dX12_jobOf_49 (by decide) ?_
      have h := Option.some.inj h
      subst h
      exact kw_iret rfl dX12_jobOf_53 hK
/-! KitchenWheelsModel.doerOf(II)I -/
def X12_doerOf_K26 (G : kw_G) (Q : Option Value → kw_H → Prop) (hp : kw_H) (x0 : Nat) (x1 : Int32) (x2 : Int32) (x3 : Int32) (r : (Int32) ⊕ (Int32)) : Prop := match r with
  | .inl z => kw_V G mX12_doerOf 26 [some (.ref x0), some (.int x1), some (.int x2), some (.int x3), some (.int z), none] [] hp Q
  | .inr r => Q (some (.int r)) hp
def X12_doerOf_J77 (hp : kw_H) : Option (Int32) :=
  some ((-1000000))
set_option maxRecDepth 100000 in
set_option maxHeartbeats 4000000 in
theorem X12_doerOf_J77_t (G : kw_G) (Q : Option Value → kw_H → Prop) (hp : kw_H) (r : Int32) (h : X12_doerOf_J77 hp = some r) (hK : Q (some (.int r)) hp) : kw_V G mX12_doerOf 77 [none, none, none, none, none, none] [] hp Q := by
  unfold X12_doerOf_J77 at h
  refine kw_ldc (v := (-1000000)) dX12_doerOf_77 ckX12_99 ?_
  have h := Option.some.inj h
  subst h
  exact kw_iret rfl dX12_doerOf_79 hK
def X12_doerOf_J71 (hp : kw_H) (x0 : Nat) (x1 : Int32) (x2 : Int32) (x3 : Int32) (x4 : Int32) : Option (((Int32) ⊕ (Int32))) :=
  some (.inl (x4 + (nI 1)))
set_option maxRecDepth 100000 in
set_option maxHeartbeats 4000000 in
theorem X12_doerOf_J71_t (G : kw_G) (Q : Option Value → kw_H → Prop) (hp : kw_H) (x0 : Nat) (x1 : Int32) (x2 : Int32) (x3 : Int32) (x4 : Int32) (r : ((Int32) ⊕ (Int32))) (h : X12_doerOf_J71 hp x0 x1 x2 x3 x4 = some r) (hK : X12_doerOf_K26 G Q hp x0 x1 x2 x3 r) : kw_V G mX12_doerOf 71 [some (.ref x0), some (.int x1), some (.int x2), some (.int x3), some (.int x4), none] [] hp Q := by
  unfold X12_doerOf_J71 at h
  refine kv_iinc (w := nI 1) (L' := [some (.ref x0), some (.int x1), some (.int x2), some (.int x3), some (.int (x4 + (nI 1))), none]) dX12_doerOf_71 (by decide) rfl (by decide) rfl ?_
  refine kw_goto 26 dX12_doerOf_74 (by decide) ?_
  have h := Option.some.inj h
  subst h
  exact hK
def X12_doerOf_J68 (hp : kw_H) (x5 : Int32) : Option (Int32) :=
  some (x5)
set_option maxRecDepth 100000 in
set_option maxHeartbeats 4000000 in
theorem X12_doerOf_J68_t (G : kw_G) (Q : Option Value → kw_H → Prop) (hp : kw_H) (x5 : Int32) (r : Int32) (h : X12_doerOf_J68 hp x5 = some r) (hK : Q (some (.int r)) hp) : kw_V G mX12_doerOf 68 [none, none, none, none, none, some (.int x5)] [] hp Q := by
  unfold X12_doerOf_J68 at h
  refine kw_iload dX12_doerOf_68 rfl ?_
  have h := Option.some.inj h
  subst h
  exact kw_iret rfl dX12_doerOf_70 hK
def X12_doerOf_b26 (hp : kw_H) (x0 : Nat) (x1 : Int32) (x2 : Int32) (x3 : Int32) (x4 : Int32) : Option (((Int32) ⊕ (Int32))) :=
  (if x3 ≤ x4 then
  (X12_doerOf_J77 hp).map (fun r => .inr (r))
else
  (kp_rem (x2 + x4) x3).bind fun v5 =>
  ((kp_ob hp x0 11).bind fun _ => X12_nameAt_F hp x0 x1 v5).bind fun r6 =>
  (if r6 = (nI 6) then
  X12_doerOf_J71 hp x0 x1 x2 x3 x4
else
  (kp_gR hp x0 [11] 0).bind fun v7 =>
  (kp_ldI hp v7 (x1 + (nI 5))).bind fun v8 =>
  (X12_has_F hp v8 r6).bind fun r9 =>
  (if r9 = 0 then
  (X12_doerOf_J68 hp r6).map (fun r => .inr (r))
else
  X12_doerOf_J71 hp x0 x1 x2 x3 x4)))
set_option maxRecDepth 100000 in
set_option maxHeartbeats 4000000 in
theorem X12_doerOf_b26_t (G : kw_G) (Q : Option Value → kw_H → Prop) (hp : kw_H) (x0 : Nat) (x1 : Int32) (x2 : Int32) (x3 : Int32) (x4 : Int32) (r : ((Int32) ⊕ (Int32))) (h : X12_doerOf_b26 hp x0 x1 x2 x3 x4 = some r) (hK : X12_doerOf_K26 G Q hp x0 x1 x2 x3 r) : kw_V G mX12_doerOf 26 [some (.ref x0), some (.int x1), some (.int x2), some (.int x3), some (.int x4), none] [] hp Q := by
  unfold X12_doerOf_b26 at h
  refine kw_iload dX12_doerOf_26 rfl ?_
  refine kw_iload_n dX12_doerOf_28 rfl ?_
  refine kw_icmp_ge 77 dX12_doerOf_29 (by decide) (fun c13 => ?_) (fun c13 => ?_)
  · have h := (if_pos c13).symm.trans h
    refine kw_mask [false, false, false, false, false, true] (L' := [none, none, none, none, none, none]) rfl ?_
    obtain ⟨r4, hr4, hrr4⟩ := Option.map_eq_some_iff.mp h
    subst hrr4
    exact X12_doerOf_J77_t G Q hp r4 hr4 hK
  · have h := (if_neg c13).symm.trans h
    refine kw_aload_n dX12_doerOf_32 rfl ?_
    refine kw_iload_n dX12_doerOf_33 rfl ?_
    refine kw_iload_n dX12_doerOf_34 rfl ?_
    refine kw_iload dX12_doerOf_35 rfl ?_
    refine kw_iadd dX12_doerOf_37 ?_
    refine kw_iload_n dX12_doerOf_38 rfl ?_
    obtain ⟨v5, ev5, h⟩ := Option.bind_eq_some_iff.mp h
    refine kv_irem dX12_doerOf_39 ev5 ?_
    obtain ⟨r6, er6, h⟩ := Option.bind_eq_some_iff.mp h
    obtain ⟨ur6, eur6, er6⟩ := Option.bind_eq_some_iff.mp er6
    obtain ⟨fsr6, hor6⟩ := kp_ob_inv eur6
    refine kw_callV (As := [.int x1, .int v5]) (S := []) kcX12 cbX12_doerOf_X12_nameAt lkX12_142 imX12_nameAt seX12_X12_nameAt_X12_nameAt rfl rfl (Nat.le_of_ble_eq_true rfl) dX12_doerOf_40 hor6 (X12_nameAt_c G hp x0 x1 v5 _ er6) (fun vv hh hq => ?_)
    rw [hq.1, hq.2]
    show kw_V G mX12_doerOf 43 [some (.ref x0), some (.int x1), some (.int x2), some (.int x3), some (.int x4), none] [.int r6] hp Q
    refine kw_istore (L' := [some (.ref x0), some (.int x1), some (.int x2), some (.int x3), some (.int x4), some (.int r6)]) dX12_doerOf_43 (by decide) rfl ?_
    refine kw_iload dX12_doerOf_45 rfl ?_
    refine kw_bipush (v := nI 6) dX12_doerOf_47 (by decide) ?_
    refine kw_icmp_eq 71 dX12_doerOf_49 (by decide) (fun c12 => ?_) (fun c12 => ?_)
    · have h := (if_pos c12).symm.trans h
      refine kw_mask [true, true, true, true, true, false] (L' := [some (.ref x0), some (.int x1), some (.int x2), some (.int x3), some (.int x4), none]) rfl ?_
      exact X12_doerOf_J71_t G Q hp x0 x1 x2 x3 x4 _ h hK
    · have h := (if_neg c12).symm.trans h
      refine kw_aload_n dX12_doerOf_52 rfl ?_
      obtain ⟨v7, ev7, h⟩ := Option.bind_eq_some_iff.mp h
      refine kv_gR gfX12_7 dX12_doerOf_53 ev7 ?_
      refine kw_iload_n dX12_doerOf_56 rfl ?_
      refine kw_iconst (v := nI 5) dX12_doerOf_57 (by decide) ?_
      refine kw_iadd dX12_doerOf_58 ?_
      obtain ⟨v8, ev8, h⟩ := Option.bind_eq_some_iff.mp h
      refine kv_ldI dX12_doerOf_59 ev8 ?_
      refine kw_iload dX12_doerOf_60 rfl ?_
      obtain ⟨r9, er9, h⟩ := Option.bind_eq_some_iff.mp h
      refine kw_callS (As := [.int v8, .int r6]) (S := []) cbX12_doerOf_X12_has lkX12_148 stX12_has rfl rfl (Nat.le_of_ble_eq_true rfl) dX12_doerOf_62 (X12_has_c G hp v8 r6 _ er9) (fun vv hh hq => ?_)
      rw [hq.1, hq.2]
      show kw_V G mX12_doerOf 65 [some (.ref x0), some (.int x1), some (.int x2), some (.int x3), some (.int x4), some (.int r6)] [.int r9] hp Q
      refine kw_if_ne 71 dX12_doerOf_65 (by decide) (fun c11 => ?_) (fun c11 => ?_)
      · have h := (if_neg c11).symm.trans h
        refine kw_mask [true, true, true, true, true, false] (L' := [some (.ref x0), some (.int x1), some (.int x2), some (.int x3), some (.int x4), none]) rfl ?_
        exact X12_doerOf_J71_t G Q hp x0 x1 x2 x3 x4 _ h hK
      · have h := (if_pos c11).symm.trans h
        refine kw_mask [false, false, false, false, false, true] (L' := [none, none, none, none, none, some (.int r6)]) rfl ?_
        obtain ⟨r10, hr10, hrr10⟩ := Option.map_eq_some_iff.mp h
        subst hrr10
        exact X12_doerOf_J68_t G Q hp r6 r10 hr10 hK
def X12_doerOf_B26 (hp : kw_H) (x0 : Nat) (x1 : Int32) (x2 : Int32) (x3 : Int32) (z : Int32) : Option (((Int32) ⊕ (Int32))) := X12_doerOf_b26 hp x0 x1 x2 x3 z
theorem X12_doerOf_L26_t (G : kw_G) (Q : Option Value → kw_H → Prop) (hp : kw_H) (x0 : Nat) (x1 : Int32) (x2 : Int32) (x3 : Int32) (n : Nat) (z : Int32) (r : Int32) (h : kp_lp (X12_doerOf_B26 hp x0 x1 x2 x3) n z = some r) (hK : Q (some (.int r)) hp) : kw_V G mX12_doerOf 26 [some (.ref x0), some (.int x1), some (.int x2), some (.int x3), some (.int z), none] [] hp Q :=
  kv_lp _ (fun z => kw_V G mX12_doerOf 26 [some (.ref x0), some (.int x1), some (.int x2), some (.int x3), some (.int z), none] [] hp Q) (fun r => Q (some (.int r)) hp) (fun z x hb hx => X12_doerOf_b26_t G Q hp x0 x1 x2 x3 z x hb (by cases x <;> exact hx)) n z r h hK
def X12_doerOf_F (hp : kw_H) (x0 : Nat) (x1 : Int32) (x2 : Int32) : Option (Int32) :=
  ((kp_ob hp x0 11).bind fun _ => X12_jobOf_F hp x0 x1 x2).bind fun r1 =>
  (if r1 = ((-1000000)) then
  some ((-1000000))
else
  (kp_gR hp x0 [11] 0).bind fun v2 =>
  (kp_ldI hp v2 (x1 + (nI 0))).bind fun v3 =>
  kp_lp (X12_doerOf_B26 hp x0 x1 x2 v3) 2000 (nI 0))
set_option maxRecDepth 100000 in
set_option maxHeartbeats 4000000 in
theorem X12_doerOf_c (G : kw_G) (hp : kw_H) (x0 : Nat) (x1 : Int32) (x2 : Int32) (r : Int32) (h : X12_doerOf_F hp x0 x1 x2 = some r) : kw_Met G mX12_doerOf [.ref x0, .int x1, .int x2] hp (fun v h2 => v = some (.int r) ∧ h2 = hp) := by
  refine kw_met (L := [some (.ref x0), some (.int x1), some (.int x2), none, none, none]) (r := 3) (by decide +kernel) (Nat.le_of_ble_eq_true rfl) rfl ?_
  unfold X12_doerOf_F at h
  obtain ⟨Q, hQ⟩ : ∃ Q : Option Value → kw_H → Prop, Q = (fun v h2 => v = some (.int r) ∧ h2 = hp) := ⟨_, rfl⟩
  have hK : Q (some (.int r)) hp := by rw [hQ]; exact ⟨rfl, rfl⟩
  rw [← hQ]
  clear hQ
  refine kw_aload_n dX12_doerOf_0 rfl ?_
  refine kw_iload_n dX12_doerOf_1 rfl ?_
  refine kw_iload_n dX12_doerOf_2 rfl ?_
  obtain ⟨r1, er1, h⟩ := Option.bind_eq_some_iff.mp h
  obtain ⟨ur1, eur1, er1⟩ := Option.bind_eq_some_iff.mp er1
  obtain ⟨fsr1, hor1⟩ := kp_ob_inv eur1
  refine kw_callV (As := [.int x1, .int x2]) (S := []) kcX12 cbX12_doerOf_X12_jobOf lkX12_145 imX12_jobOf seX12_X12_jobOf_X12_jobOf rfl rfl (Nat.le_of_ble_eq_true rfl) dX12_doerOf_3 hor1 (X12_jobOf_c G hp x0 x1 x2 _ er1) (fun vv hh hq => ?_)
  rw [hq.1, hq.2]
  show kw_V G mX12_doerOf 6 [some (.ref x0), some (.int x1), some (.int x2), none, none, none] [.int r1] hp Q
  refine kw_ldc (v := (-1000000)) dX12_doerOf_6 ckX12_99 ?_
  refine kw_icmp_ne 14 dX12_doerOf_8 (by decide) (fun c14 => ?_) (fun c14 => ?_)
  · have h := (if_neg c14).symm.trans h
    refine kw_aload_n dX12_doerOf_14 rfl ?_
    obtain ⟨v2, ev2, h⟩ := Option.bind_eq_some_iff.mp h
    refine kv_gR gfX12_7 dX12_doerOf_15 ev2 ?_
    refine kw_iload_n dX12_doerOf_18 rfl ?_
    refine kw_iconst (v := nI 0) dX12_doerOf_19 (by decide) ?_
    refine kw_iadd dX12_doerOf_20 ?_
    obtain ⟨v3, ev3, h⟩ := Option.bind_eq_some_iff.mp h
    refine kv_ldI dX12_doerOf_21 ev3 ?_
    refine kw_istore_n (L' := [some (.ref x0), some (.int x1), some (.int x2), some (.int v3), none, none]) dX12_doerOf_22 (by decide) rfl ?_
    refine kw_iconst (v := nI 0) dX12_doerOf_23 (by decide) ?_
    refine kw_istore (L' := [some (.ref x0), some (.int x1), some (.int x2), some (.int v3), some (.int (nI 0)), none]) dX12_doerOf_24 (by decide) rfl ?_
    exact X12_doerOf_L26_t G Q hp x0 x1 x2 v3 _ (nI 0) _ h hK
  · have h := (if_pos c14).symm.trans h
    refine kw_ldc (v := (-1000000)) dX12_doerOf_11 ckX12_99 ?_
    have h := Option.some.inj h
    subst h
    exact kw_iret rfl dX12_doerOf_13 hK
/-! KitchenWheelsModel.far(III)I -/
def X12_far_F (hp : kw_H) (x0 : Int32) (x1 : Int32) (x2 : Int32) : Option (Int32) :=
  (if x0 = nI 1 then
  some (nI 1)
else if x0 = nI 2 then
  some (x1)
else if x0 = nI 3 then
  (kp_rem x2 (nI 2)).bind fun v3 =>
  (if v3 = 0 then
  some (x1 + (nI 1))
else
  some (x1))
else if x0 = nI 4 then
  some (x2 + x1)
else if x0 = nI 5 then
  (kp_rem x2 (nI 3)).bind fun v7 =>
  (if v7 = 0 then
  some ((-x2) - x1)
else
  some (x2 + x1))
else 
  some (x2 + x1))
set_option maxRecDepth 100000 in
set_option maxHeartbeats 4000000 in
theorem X12_far_c (G : kw_G) (hp : kw_H) (x0 : Int32) (x1 : Int32) (x2 : Int32) (r : Int32) (h : X12_far_F hp x0 x1 x2 = some r) : kw_Met G mX12_far [.int x0, .int x1, .int x2] hp (fun v h2 => v = some (.int r) ∧ h2 = hp) := by
  refine kw_met (L := [some (.int x0), some (.int x1), some (.int x2)]) (r := 0) (by decide +kernel) (Nat.le_of_ble_eq_true rfl) rfl ?_
  unfold X12_far_F at h
  obtain ⟨Q, hQ⟩ : ∃ Q : Option Value → kw_H → Prop, Q = (fun v h2 => v = some (.int r) ∧ h2 = hp) := ⟨_, rfl⟩
  have hK : Q (some (.int r)) hp := by rw [hQ]; exact ⟨rfl, rfl⟩
  rw [← hQ]
  clear hQ
  refine kw_iload_n dX12_far_0 rfl ?_
  by_cases c1 : x0 = nI 1
  · refine kw_tableIn (off := 35) 36 dX12_far_1 (by rw [c1]; decide) (by rw [c1]; decide) (by rw [c1]; decide) (by decide) ?_
    have h := (if_pos c1).symm.trans h
    refine kw_iconst (v := nI 1) dX12_far_36 (by decide) ?_
    have h := Option.some.inj h
    subst h
    exact kw_iret rfl dX12_far_37 hK
  · have h := (if_neg c1).symm.trans h
    by_cases c2 : x0 = nI 2
    · refine kw_tableIn (off := 37) 38 dX12_far_1 (by rw [c2]; decide) (by rw [c2]; decide) (by rw [c2]; decide) (by decide) ?_
      have h := (if_pos c2).symm.trans h
      refine kw_iload_n dX12_far_38 rfl ?_
      have h := Option.some.inj h
      subst h
      exact kw_iret rfl dX12_far_39 hK
    · have h := (if_neg c2).symm.trans h
      by_cases c5 : x0 = nI 3
      · refine kw_tableIn (off := 39) 40 dX12_far_1 (by rw [c5]; decide) (by rw [c5]; decide) (by rw [c5]; decide) (by decide) ?_
        have h := (if_pos c5).symm.trans h
        refine kw_iload_n dX12_far_40 rfl ?_
        refine kw_iconst (v := nI 2) dX12_far_41 (by decide) ?_
        obtain ⟨v3, ev3, h⟩ := Option.bind_eq_some_iff.mp h
        refine kv_irem dX12_far_42 ev3 ?_
        refine kw_if_ne 52 dX12_far_43 (by decide) (fun c4 => ?_) (fun c4 => ?_)
        · have h := (if_neg c4).symm.trans h
          refine kw_iload_n dX12_far_52 rfl ?_
          have h := Option.some.inj h
          subst h
          exact kw_iret rfl dX12_far_53 hK
        · have h := (if_pos c4).symm.trans h
          refine kw_iload_n dX12_far_46 rfl ?_
          refine kw_iconst (v := nI 1) dX12_far_47 (by decide) ?_
          refine kw_iadd dX12_far_48 ?_
          refine kw_goto 53 dX12_far_49 (by decide) ?_
          have h := Option.some.inj h
          subst h
          exact kw_iret rfl dX12_far_53 hK
      · have h := (if_neg c5).symm.trans h
        by_cases c6 : x0 = nI 4
        · refine kw_tableIn (off := 70) 71 dX12_far_1 (by rw [c6]; decide) (by rw [c6]; decide) (by rw [c6]; decide) (by decide) ?_
          have h := (if_pos c6).symm.trans h
          refine kw_iload_n dX12_far_71 rfl ?_
          refine kw_iload_n dX12_far_72 rfl ?_
          refine kw_iadd dX12_far_73 ?_
          have h := Option.some.inj h
          subst h
          exact kw_iret rfl dX12_far_74 hK
        · have h := (if_neg c6).symm.trans h
          by_cases c9 : x0 = nI 5
          · refine kw_tableIn (off := 53) 54 dX12_far_1 (by rw [c9]; decide) (by rw [c9]; decide) (by rw [c9]; decide) (by decide) ?_
            have h := (if_pos c9).symm.trans h
            refine kw_iload_n dX12_far_54 rfl ?_
            refine kw_iconst (v := nI 3) dX12_far_55 (by decide) ?_
            obtain ⟨v7, ev7, h⟩ := Option.bind_eq_some_iff.mp h
            refine kv_irem dX12_far_56 ev7 ?_
            refine kw_if_ne 67 dX12_far_57 (by decide) (fun c8 => ?_) (fun c8 => ?_)
            · have h := (if_neg c8).symm.trans h
              refine kw_iload_n dX12_far_67 rfl ?_
              refine kw_iload_n dX12_far_68 rfl ?_
              refine kw_iadd dX12_far_69 ?_
              have h := Option.some.inj h
              subst h
              exact kw_iret rfl dX12_far_70 hK
            · have h := (if_pos c8).symm.trans h
              refine kw_iload_n dX12_far_60 rfl ?_
              refine kw_ineg dX12_far_61 ?_
              refine kw_iload_n dX12_far_62 rfl ?_
              refine kw_isub dX12_far_63 ?_
              refine kw_goto 70 dX12_far_64 (by decide) ?_
              have h := Option.some.inj h
              subst h
              exact kw_iret rfl dX12_far_70 hK
          · have h := (if_neg c9).symm.trans h
            refine kw_tableOut 71 dX12_far_1 (by have n0 := lv_neT (a := 1) c1 (by decide); have n1 := lv_neT (a := 2) c2 (by decide); have n2 := lv_neT (a := 3) c5 (by decide); have n3 := lv_neT (a := 4) c6 (by decide); have n4 := lv_neT (a := 5) c9 (by decide); omega) (by decide) ?_
            refine kw_iload_n dX12_far_71 rfl ?_
            refine kw_iload_n dX12_far_72 rfl ?_
            refine kw_iadd dX12_far_73 ?_
            have h := Option.some.inj h
            subst h
            exact kw_iret rfl dX12_far_74 hK
/-! KitchenWheelsModel.farOf(II)I -/
def X12_farOf_F (hp : kw_H) (x0 : Nat) (x1 : Int32) (x2 : Int32) : Option (Int32) :=
  (kp_gR hp x0 [11] 0).bind fun v1 =>
  (kp_ldI hp v1 ((x1 + (nI 22)) + x2)).bind fun v2 =>
  (kp_gR hp x0 [11] 0).bind fun v3 =>
  (kp_ldI hp v3 ((x1 + (nI 26)) + x2)).bind fun v4 =>
  (kp_gR hp x0 [11] 0).bind fun v5 =>
  (kp_ldI hp v5 (x1 + (nI 3))).bind fun v6 =>
  (X12_far_F hp v2 v4 v6).bind fun r7 =>
  some (r7)
set_option maxRecDepth 100000 in
set_option maxHeartbeats 4000000 in
theorem X12_farOf_c (G : kw_G) (hp : kw_H) (x0 : Nat) (x1 : Int32) (x2 : Int32) (r : Int32) (h : X12_farOf_F hp x0 x1 x2 = some r) : kw_Met G mX12_farOf [.ref x0, .int x1, .int x2] hp (fun v h2 => v = some (.int r) ∧ h2 = hp) := by
  refine kw_met (L := [some (.ref x0), some (.int x1), some (.int x2)]) (r := 0) (by decide +kernel) (Nat.le_of_ble_eq_true rfl) rfl ?_
  unfold X12_farOf_F at h
  obtain ⟨Q, hQ⟩ : ∃ Q : Option Value → kw_H → Prop, Q = (fun v h2 => v = some (.int r) ∧ h2 = hp) := ⟨_, rfl⟩
  have hK : Q (some (.int r)) hp := by rw [hQ]; exact ⟨rfl, rfl⟩
  rw [← hQ]
  clear hQ
  refine kw_aload_n dX12_farOf_0 rfl ?_
  obtain ⟨v1, ev1, h⟩ := Option.bind_eq_some_iff.mp h
  refine kv_gR gfX12_7 dX12_farOf_1 ev1 ?_
  refine kw_iload_n dX12_farOf_4 rfl ?_
  refine kw_bipush (v := nI 22) dX12_farOf_5 (by decide) ?_
  refine kw_iadd dX12_farOf_7 ?_
  refine kw_iload_n dX12_farOf_8 rfl ?_
  refine kw_iadd dX12_farOf_9 ?_
  obtain ⟨v2, ev2, h⟩ := Option.bind_eq_some_iff.mp h
  refine kv_ldI dX12_farOf_10 ev2 ?_
  refine kw_aload_n dX12_farOf_11 rfl ?_
  obtain ⟨v3, ev3, h⟩ := Option.bind_eq_some_iff.mp h
  refine kv_gR gfX12_7 dX12_farOf_12 ev3 ?_
  refine kw_iload_n dX12_farOf_15 rfl ?_
  refine kw_bipush (v := nI 26) dX12_farOf_16 (by decide) ?_
  refine kw_iadd dX12_farOf_18 ?_
  refine kw_iload_n dX12_farOf_19 rfl ?_
  refine kw_iadd dX12_farOf_20 ?_
  obtain ⟨v4, ev4, h⟩ := Option.bind_eq_some_iff.mp h
  refine kv_ldI dX12_farOf_21 ev4 ?_
  refine kw_aload_n dX12_farOf_22 rfl ?_
  obtain ⟨v5, ev5, h⟩ := Option.bind_eq_some_iff.mp h
  refine kv_gR gfX12_7 dX12_farOf_23 ev5 ?_
  refine kw_iload_n dX12_farOf_26 rfl ?_
  refine kw_iconst (v := nI 3) dX12_farOf_27 (by decide) ?_
  refine kw_iadd dX12_farOf_28 ?_
  obtain ⟨v6, ev6, h⟩ := Option.bind_eq_some_iff.mp h
  refine kv_ldI dX12_farOf_29 ev6 ?_
  obtain ⟨r7, er7, h⟩ := Option.bind_eq_some_iff.mp h
  refine kw_callS (As := [.int v2, .int v4, .int v6]) (S := []) cbX12_farOf_X12_far lkX12_151 stX12_far rfl rfl (Nat.le_of_ble_eq_true rfl) dX12_farOf_30 (X12_far_c G hp v2 v4 v6 _ er7) (fun vv hh hq => ?_)
  rw [hq.1, hq.2]
  show kw_V G mX12_farOf 33 [some (.ref x0), some (.int x1), some (.int x2)] [.int r7] hp Q
  have h := Option.some.inj h
  subst h
  exact kw_iret rfl dX12_farOf_33 hK
/-! KitchenWheelsModel.turnBy(II)V -/
def X12_turnBy_F (hp : kw_H) (x0 : Nat) (x1 : Int32) (x2 : Int32) : Option (kw_H) :=
  (kp_gR hp x0 [11] 0).bind fun v1 =>
  (kp_ldI hp v1 (x1 + (nI 1))).bind fun v2 =>
  (kp_gR hp x0 [11] 0).bind fun v3 =>
  (kp_gR hp x0 [11] 0).bind fun v4 =>
  (kp_ldI hp v4 (x1 + (nI 4))).bind fun v5 =>
  (kp_rem (v5 + x2) v2).bind fun v6 =>
  (kp_rem (v6 + v2) v2).bind fun v7 =>
  (kp_stI hp v3 (x1 + (nI 4)) v7).bind fun hp8 =>
  some (hp8)
set_option maxRecDepth 100000 in
set_option maxHeartbeats 4000000 in
theorem X12_turnBy_c (G : kw_G) (hp : kw_H) (x0 : Nat) (x1 : Int32) (x2 : Int32) (r : kw_H) (h : X12_turnBy_F hp x0 x1 x2 = some r) : kw_Met G mX12_turnBy [.ref x0, .int x1, .int x2] hp (fun v h2 => v = none ∧ h2 = r) := by
  refine kw_met (L := [some (.ref x0), some (.int x1), some (.int x2), none]) (r := 1) (by decide +kernel) (Nat.le_of_ble_eq_true rfl) rfl ?_
  unfold X12_turnBy_F at h
  obtain ⟨Q, hQ⟩ : ∃ Q : Option Value → kw_H → Prop, Q = (fun v h2 => v = none ∧ h2 = r) := ⟨_, rfl⟩
  have hK : Q none r := by rw [hQ]; exact ⟨rfl, rfl⟩
  rw [← hQ]
  clear hQ
  refine kw_aload_n dX12_turnBy_0 rfl ?_
  obtain ⟨v1, ev1, h⟩ := Option.bind_eq_some_iff.mp h
  refine kv_gR gfX12_7 dX12_turnBy_1 ev1 ?_
  refine kw_iload_n dX12_turnBy_4 rfl ?_
  refine kw_iconst (v := nI 1) dX12_turnBy_5 (by decide) ?_
  refine kw_iadd dX12_turnBy_6 ?_
  obtain ⟨v2, ev2, h⟩ := Option.bind_eq_some_iff.mp h
  refine kv_ldI dX12_turnBy_7 ev2 ?_
  refine kw_istore_n (L' := [some (.ref x0), some (.int x1), some (.int x2), some (.int v2)]) dX12_turnBy_8 (by decide) rfl ?_
  refine kw_aload_n dX12_turnBy_9 rfl ?_
  obtain ⟨v3, ev3, h⟩ := Option.bind_eq_some_iff.mp h
  refine kv_gR gfX12_7 dX12_turnBy_10 ev3 ?_
  refine kw_iload_n dX12_turnBy_13 rfl ?_
  refine kw_iconst (v := nI 4) dX12_turnBy_14 (by decide) ?_
  refine kw_iadd dX12_turnBy_15 ?_
  refine kw_aload_n dX12_turnBy_16 rfl ?_
  obtain ⟨v4, ev4, h⟩ := Option.bind_eq_some_iff.mp h
  refine kv_gR gfX12_7 dX12_turnBy_17 ev4 ?_
  refine kw_iload_n dX12_turnBy_20 rfl ?_
  refine kw_iconst (v := nI 4) dX12_turnBy_21 (by decide) ?_
  refine kw_iadd dX12_turnBy_22 ?_
  obtain ⟨v5, ev5, h⟩ := Option.bind_eq_some_iff.mp h
  refine kv_ldI dX12_turnBy_23 ev5 ?_
  refine kw_iload_n dX12_turnBy_24 rfl ?_
  refine kw_iadd dX12_turnBy_25 ?_
  refine kw_iload_n dX12_turnBy_26 rfl ?_
  obtain ⟨v6, ev6, h⟩ := Option.bind_eq_some_iff.mp h
  refine kv_irem dX12_turnBy_27 ev6 ?_
  refine kw_iload_n dX12_turnBy_28 rfl ?_
  refine kw_iadd dX12_turnBy_29 ?_
  refine kw_iload_n dX12_turnBy_30 rfl ?_
  obtain ⟨v7, ev7, h⟩ := Option.bind_eq_some_iff.mp h
  refine kv_irem dX12_turnBy_31 ev7 ?_
  obtain ⟨hp8, ehp8, h⟩ := Option.bind_eq_some_iff.mp h
  refine kv_stI dX12_turnBy_32 ehp8 ?_
  have h := Option.some.inj h
  subst h
  exact kw_vret rfl dX12_turnBy_33 hK
/-! KitchenWheelsModel.pass(II)V -/
def X12_pass_K2 (G : kw_G) (Q : Option Value → kw_H → Prop) (x0 : Nat) (x1 : Int32) (x2 : Int32) (r : (Int32 × kw_H) ⊕ (kw_H)) : Prop := match r with
  | .inl z => kw_V G mX12_pass 2 [some (.ref x0), some (.int x1), some (.int x2), some (.int z.1), none] [] z.2 Q
  | .inr r => Q none r
def X12_pass_J61 (hp : kw_H) (x0 : Nat) (x1 : Int32) (x2 : Int32) : Option (kw_H) :=
  ((kp_ob hp x0 11).bind fun _ => X12_turnBy_F hp x0 x1 x2).bind fun r3 =>
  (kp_gR r3 x0 [11] 0).bind fun v4 =>
  (kp_stI r3 v4 (x1 + (nI 5)) (nI 0)).bind fun hp5 =>
  (kp_gR hp5 x0 [11] 0).bind fun v6 =>
  (kp_ldI hp5 v6 (x1 + (nI 3))).bind fun v7 =>
  (kp_stI hp5 v6 (x1 + (nI 3)) (v7 + (nI 1))).bind fun hp8 =>
  some (hp8)
set_option maxRecDepth 100000 in
set_option maxHeartbeats 4000000 in
theorem X12_pass_J61_t (G : kw_G) (Q : Option Value → kw_H → Prop) (hp : kw_H) (x0 : Nat) (x1 : Int32) (x2 : Int32) (r : kw_H) (h : X12_pass_J61 hp x0 x1 x2 = some r) (hK : Q none r) : kw_V G mX12_pass 61 [some (.ref x0), some (.int x1), some (.int x2), none, none] [] hp Q := by
  unfold X12_pass_J61 at h
  refine kw_aload_n dX12_pass_61 rfl ?_
  refine kw_iload_n dX12_pass_62 rfl ?_
  refine kw_iload_n dX12_pass_63 rfl ?_
  obtain ⟨r3, er3, h⟩ := Option.bind_eq_some_iff.mp h
  obtain ⟨ur3, eur3, er3⟩ := Option.bind_eq_some_iff.mp er3
  obtain ⟨fsr3, hor3⟩ := kp_ob_inv eur3
  refine kw_callV (As := [.int x1, .int x2]) (S := []) kcX12 cbX12_pass_X12_turnBy lkX12_158 imX12_turnBy seX12_X12_turnBy_X12_turnBy rfl rfl (Nat.le_of_ble_eq_true rfl) dX12_pass_64 hor3 (X12_turnBy_c G hp x0 x1 x2 _ er3) (fun vv hh hq => ?_)
  rw [hq.1, hq.2]
  show kw_V G mX12_pass 67 [some (.ref x0), some (.int x1), some (.int x2), none, none] [] r3 Q
  refine kw_aload_n dX12_pass_67 rfl ?_
  obtain ⟨v4, ev4, h⟩ := Option.bind_eq_some_iff.mp h
  refine kv_gR gfX12_7 dX12_pass_68 ev4 ?_
  refine kw_iload_n dX12_pass_71 rfl ?_
  refine kw_iconst (v := nI 5) dX12_pass_72 (by decide) ?_
  refine kw_iadd dX12_pass_73 ?_
  refine kw_iconst (v := nI 0) dX12_pass_74 (by decide) ?_
  obtain ⟨hp5, ehp5, h⟩ := Option.bind_eq_some_iff.mp h
  refine kv_stI dX12_pass_75 ehp5 ?_
  refine kw_aload_n dX12_pass_76 rfl ?_
  obtain ⟨v6, ev6, h⟩ := Option.bind_eq_some_iff.mp h
  refine kv_gR gfX12_7 dX12_pass_77 ev6 ?_
  refine kw_iload_n dX12_pass_80 rfl ?_
  refine kw_iconst (v := nI 3) dX12_pass_81 (by decide) ?_
  refine kw_iadd dX12_pass_82 ?_
  refine kw_dup2 dX12_pass_83 rfl rfl ?_
  obtain ⟨v7, ev7, h⟩ := Option.bind_eq_some_iff.mp h
  refine kv_ldI dX12_pass_84 ev7 ?_
  refine kw_iconst (v := nI 1) dX12_pass_85 (by decide) ?_
  refine kw_iadd dX12_pass_86 ?_
  obtain ⟨hp8, ehp8, h⟩ := Option.bind_eq_some_iff.mp h
  refine kv_stI dX12_pass_87 ehp8 ?_
  have h := Option.some.inj h
  subst h
  exact kw_vret rfl dX12_pass_88 hK
def X12_pass_J55 (hp : kw_H) (x0 : Nat) (x1 : Int32) (x2 : Int32) (x3 : Int32) : Option (((Int32 × kw_H) ⊕ (kw_H))) :=
  some (.inl (x3 + (nI 1), hp))
set_option maxRecDepth 100000 in
set_option maxHeartbeats 4000000 in
theorem X12_pass_J55_t (G : kw_G) (Q : Option Value → kw_H → Prop) (hp : kw_H) (x0 : Nat) (x1 : Int32) (x2 : Int32) (x3 : Int32) (r : ((Int32 × kw_H) ⊕ (kw_H))) (h : X12_pass_J55 hp x0 x1 x2 x3 = some r) (hK : X12_pass_K2 G Q x0 x1 x2 r) : kw_V G mX12_pass 55 [some (.ref x0), some (.int x1), some (.int x2), some (.int x3), none] [] hp Q := by
  unfold X12_pass_J55 at h
  refine kv_iinc (w := nI 1) (L' := [some (.ref x0), some (.int x1), some (.int x2), some (.int (x3 + (nI 1))), none]) dX12_pass_55 (by decide) rfl (by decide) rfl ?_
  refine kw_goto 2 dX12_pass_58 (by decide) ?_
  have h := Option.some.inj h
  subst h
  exact hK
def X12_pass_b2 (x0 : Nat) (x1 : Int32) (x2 : Int32) (x3 : Int32) (hp : kw_H) : Option (((Int32 × kw_H) ⊕ (kw_H))) :=
  (kp_gR hp x0 [11] 0).bind fun v1 =>
  (kp_ldI hp v1 (x1 + (nI 0))).bind fun v2 =>
  (if v2 ≤ x3 then
  (X12_pass_J61 hp x0 x1 x2).map (fun r => .inr (r))
else
  ((kp_ob hp x0 11).bind fun _ => X12_doerOf_F hp x0 x1 x3).bind fun r10 =>
  (if r10 = ((-1000000)) then
  X12_pass_J55 hp x0 x1 x2 x3
else
  (kp_gR hp x0 [11] 0).bind fun v11 =>
  ((kp_ob hp x0 11).bind fun _ => X12_jobOf_F hp x0 x1 x3).bind fun r12 =>
  (kp_ldI hp v11 (((x1 + (nI 30)) + ((nI 6) * r10)) + r12)).bind fun v13 =>
  (kp_stI hp v11 (((x1 + (nI 30)) + ((nI 6) * r10)) + r12) (v13 + (nI 1))).bind fun hp14 =>
  X12_pass_J55 hp14 x0 x1 x2 x3))
set_option maxRecDepth 100000 in
set_option maxHeartbeats 4000000 in
theorem X12_pass_b2_t (G : kw_G) (Q : Option Value → kw_H → Prop) (x0 : Nat) (x1 : Int32) (x2 : Int32) (x3 : Int32) (hp : kw_H) (r : ((Int32 × kw_H) ⊕ (kw_H))) (h : X12_pass_b2 x0 x1 x2 x3 hp = some r) (hK : X12_pass_K2 G Q x0 x1 x2 r) : kw_V G mX12_pass 2 [some (.ref x0), some (.int x1), some (.int x2), some (.int x3), none] [] hp Q := by
  unfold X12_pass_b2 at h
  refine kw_iload_n dX12_pass_2 rfl ?_
  refine kw_aload_n dX12_pass_3 rfl ?_
  obtain ⟨v1, ev1, h⟩ := Option.bind_eq_some_iff.mp h
  refine kv_gR gfX12_7 dX12_pass_4 ev1 ?_
  refine kw_iload_n dX12_pass_7 rfl ?_
  refine kw_iconst (v := nI 0) dX12_pass_8 (by decide) ?_
  refine kw_iadd dX12_pass_9 ?_
  obtain ⟨v2, ev2, h⟩ := Option.bind_eq_some_iff.mp h
  refine kv_ldI dX12_pass_10 ev2 ?_
  refine kw_icmp_ge 61 dX12_pass_11 (by decide) (fun c16 => ?_) (fun c16 => ?_)
  · have h := (if_pos c16).symm.trans h
    refine kw_mask [true, true, true, false, true] (L' := [some (.ref x0), some (.int x1), some (.int x2), none, none]) rfl ?_
    obtain ⟨r9, hr9, hrr9⟩ := Option.map_eq_some_iff.mp h
    subst hrr9
    exact X12_pass_J61_t G Q hp x0 x1 x2 r9 hr9 hK
  · have h := (if_neg c16).symm.trans h
    refine kw_aload_n dX12_pass_14 rfl ?_
    refine kw_iload_n dX12_pass_15 rfl ?_
    refine kw_iload_n dX12_pass_16 rfl ?_
    obtain ⟨r10, er10, h⟩ := Option.bind_eq_some_iff.mp h
    obtain ⟨ur10, eur10, er10⟩ := Option.bind_eq_some_iff.mp er10
    obtain ⟨fsr10, hor10⟩ := kp_ob_inv eur10
    refine kw_callV (As := [.int x1, .int x3]) (S := []) kcX12 cbX12_pass_X12_doerOf lkX12_155 imX12_doerOf seX12_X12_doerOf_X12_doerOf rfl rfl (Nat.le_of_ble_eq_true rfl) dX12_pass_17 hor10 (X12_doerOf_c G hp x0 x1 x3 _ er10) (fun vv hh hq => ?_)
    rw [hq.1, hq.2]
    show kw_V G mX12_pass 20 [some (.ref x0), some (.int x1), some (.int x2), some (.int x3), none] [.int r10] hp Q
    refine kw_istore (L' := [some (.ref x0), some (.int x1), some (.int x2), some (.int x3), some (.int r10)]) dX12_pass_20 (by decide) rfl ?_
    refine kw_iload dX12_pass_22 rfl ?_
    refine kw_ldc (v := (-1000000)) dX12_pass_24 ckX12_99 ?_
    refine kw_icmp_eq 55 dX12_pass_26 (by decide) (fun c15 => ?_) (fun c15 => ?_)
    · have h := (if_pos c15).symm.trans h
      refine kw_mask [true, true, true, true, false] (L' := [some (.ref x0), some (.int x1), some (.int x2), some (.int x3), none]) rfl ?_
      exact X12_pass_J55_t G Q hp x0 x1 x2 x3 _ h hK
    · have h := (if_neg c15).symm.trans h
      refine kw_aload_n dX12_pass_29 rfl ?_
      obtain ⟨v11, ev11, h⟩ := Option.bind_eq_some_iff.mp h
      refine kv_gR gfX12_7 dX12_pass_30 ev11 ?_
      refine kw_iload_n dX12_pass_33 rfl ?_
      refine kw_bipush (v := nI 30) dX12_pass_34 (by decide) ?_
      refine kw_iadd dX12_pass_36 ?_
      refine kw_bipush (v := nI 6) dX12_pass_37 (by decide) ?_
      refine kw_iload dX12_pass_39 rfl ?_
      refine kw_imul dX12_pass_41 ?_
      refine kw_iadd dX12_pass_42 ?_
      refine kw_aload_n dX12_pass_43 rfl ?_
      refine kw_iload_n dX12_pass_44 rfl ?_
      refine kw_iload_n dX12_pass_45 rfl ?_
      obtain ⟨r12, er12, h⟩ := Option.bind_eq_some_iff.mp h
      obtain ⟨ur12, eur12, er12⟩ := Option.bind_eq_some_iff.mp er12
      obtain ⟨fsr12, hor12⟩ := kp_ob_inv eur12
      refine kw_callV (As := [.int x1, .int x3]) (S := [.int ((x1 + (nI 30)) + ((nI 6) * r10)), .ref v11]) kcX12 cbX12_pass_X12_jobOf lkX12_145 imX12_jobOf seX12_X12_jobOf_X12_jobOf rfl rfl (Nat.le_of_ble_eq_true rfl) dX12_pass_46 hor12 (X12_jobOf_c G hp x0 x1 x3 _ er12) (fun vv hh hq => ?_)
      rw [hq.1, hq.2]
      show kw_V G mX12_pass 49 [some (.ref x0), some (.int x1), some (.int x2), some (.int x3), some (.int r10)] [.int r12, .int ((x1 + (nI 30)) + ((nI 6) * r10)), .ref v11] hp Q
      refine kw_iadd dX12_pass_49 ?_
      refine kw_dup2 dX12_pass_50 rfl rfl ?_
      obtain ⟨v13, ev13, h⟩ := Option.bind_eq_some_iff.mp h
      refine kv_ldI dX12_pass_51 ev13 ?_
      refine kw_iconst (v := nI 1) dX12_pass_52 (by decide) ?_
      refine kw_iadd dX12_pass_53 ?_
      obtain ⟨hp14, ehp14, h⟩ := Option.bind_eq_some_iff.mp h
      refine kv_stI dX12_pass_54 ehp14 ?_
      refine kw_mask [true, true, true, true, false] (L' := [some (.ref x0), some (.int x1), some (.int x2), some (.int x3), none]) rfl ?_
      exact X12_pass_J55_t G Q hp14 x0 x1 x2 x3 _ h hK
def X12_pass_B2 (x0 : Nat) (x1 : Int32) (x2 : Int32) (z : Int32 × kw_H) : Option (((Int32 × kw_H) ⊕ (kw_H))) := X12_pass_b2 x0 x1 x2 z.1 z.2
theorem X12_pass_L2_t (G : kw_G) (Q : Option Value → kw_H → Prop) (x0 : Nat) (x1 : Int32) (x2 : Int32) (n : Nat) (z : Int32 × kw_H) (r : kw_H) (h : kp_lp (X12_pass_B2 x0 x1 x2) n z = some r) (hK : Q none r) : kw_V G mX12_pass 2 [some (.ref x0), some (.int x1), some (.int x2), some (.int z.1), none] [] z.2 Q :=
  kv_lp _ (fun z => kw_V G mX12_pass 2 [some (.ref x0), some (.int x1), some (.int x2), some (.int z.1), none] [] z.2 Q) (fun r => Q none r) (fun z x hb hx => X12_pass_b2_t G Q x0 x1 x2 z.1 z.2 x hb (by cases x <;> exact hx)) n z r h hK
def X12_pass_F (hp : kw_H) (x0 : Nat) (x1 : Int32) (x2 : Int32) : Option (kw_H) :=
  kp_lp (X12_pass_B2 x0 x1 x2) 2000 (nI 0, hp)
set_option maxRecDepth 100000 in
set_option maxHeartbeats 4000000 in
theorem X12_pass_c (G : kw_G) (hp : kw_H) (x0 : Nat) (x1 : Int32) (x2 : Int32) (r : kw_H) (h : X12_pass_F hp x0 x1 x2 = some r) : kw_Met G mX12_pass [.ref x0, .int x1, .int x2] hp (fun v h2 => v = none ∧ h2 = r) := by
  refine kw_met (L := [some (.ref x0), some (.int x1), some (.int x2), none, none]) (r := 2) (by decide +kernel) (Nat.le_of_ble_eq_true rfl) rfl ?_
  unfold X12_pass_F at h
  obtain ⟨Q, hQ⟩ : ∃ Q : Option Value → kw_H → Prop, Q = (fun v h2 => v = none ∧ h2 = r) := ⟨_, rfl⟩
  have hK : Q none r := by rw [hQ]; exact ⟨rfl, rfl⟩
  rw [← hQ]
  clear hQ
  refine kw_iconst (v := nI 0) dX12_pass_0 (by decide) ?_
  refine kw_istore_n (L' := [some (.ref x0), some (.int x1), some (.int x2), some (.int (nI 0)), none]) dX12_pass_1 (by decide) rfl ?_
  exact X12_pass_L2_t G Q x0 x1 x2 _ (nI 0, hp) _ h hK
/-! KitchenWheelsModel.passAsTold(I)V -/
def X12_passAsTold_F (hp : kw_H) (x0 : Nat) (x1 : Int32) : Option (kw_H) :=
  (kp_gR hp x0 [11] 0).bind fun v1 =>
  (kp_ldI hp v1 (x1 + (nI 3))).bind fun v2 =>
  (kp_gR hp x0 [11] 0).bind fun v3 =>
  (kp_ldI hp v3 (x1 + (nI 2))).bind fun v4 =>
  (kp_rem v2 v4).bind fun v5 =>
  ((kp_ob hp x0 11).bind fun _ => X12_farOf_F hp x0 x1 v5).bind fun r6 =>
  ((kp_ob hp x0 11).bind fun _ => X12_pass_F hp x0 x1 r6).bind fun r7 =>
  some (r7)
set_option maxRecDepth 100000 in
set_option maxHeartbeats 4000000 in
theorem X12_passAsTold_c (G : kw_G) (hp : kw_H) (x0 : Nat) (x1 : Int32) (r : kw_H) (h : X12_passAsTold_F hp x0 x1 = some r) : kw_Met G mX12_passAsTold [.ref x0, .int x1] hp (fun v h2 => v = none ∧ h2 = r) := by
  refine kw_met (L := [some (.ref x0), some (.int x1)]) (r := 0) (by decide +kernel) (Nat.le_of_ble_eq_true rfl) rfl ?_
  unfold X12_passAsTold_F at h
  obtain ⟨Q, hQ⟩ : ∃ Q : Option Value → kw_H → Prop, Q = (fun v h2 => v = none ∧ h2 = r) := ⟨_, rfl⟩
  have hK : Q none r := by rw [hQ]; exact ⟨rfl, rfl⟩
  rw [← hQ]
  clear hQ
  refine kw_aload_n dX12_passAsTold_0 rfl ?_
  refine kw_iload_n dX12_passAsTold_1 rfl ?_
  refine kw_aload_n dX12_passAsTold_2 rfl ?_
  refine kw_iload_n dX12_passAsTold_3 rfl ?_
  refine kw_aload_n dX12_passAsTold_4 rfl ?_
  obtain ⟨v1, ev1, h⟩ := Option.bind_eq_some_iff.mp h
  refine kv_gR gfX12_7 dX12_passAsTold_5 ev1 ?_
  refine kw_iload_n dX12_passAsTold_8 rfl ?_
  refine kw_iconst (v := nI 3) dX12_passAsTold_9 (by decide) ?_
  refine kw_iadd dX12_passAsTold_10 ?_
  obtain ⟨v2, ev2, h⟩ := Option.bind_eq_some_iff.mp h
  refine kv_ldI dX12_passAsTold_11 ev2 ?_
  refine kw_aload_n dX12_passAsTold_12 rfl ?_
  obtain ⟨v3, ev3, h⟩ := Option.bind_eq_some_iff.mp h
  refine kv_gR gfX12_7 dX12_passAsTold_13 ev3 ?_
  refine kw_iload_n dX12_passAsTold_16 rfl ?_
  refine kw_iconst (v := nI 2) dX12_passAsTold_17 (by decide) ?_
  refine kw_iadd dX12_passAsTold_18 ?_
  obtain ⟨v4, ev4, h⟩ := Option.bind_eq_some_iff.mp h
  refine kv_ldI dX12_passAsTold_19 ev4 ?_
  obtain ⟨v5, ev5, h⟩ := Option.bind_eq_some_iff.mp h
  refine kv_irem dX12_passAsTold_20 ev5 ?_
  obtain ⟨r6, er6, h⟩ := Option.bind_eq_some_iff.mp h
  obtain ⟨ur6, eur6, er6⟩ := Option.bind_eq_some_iff.mp er6
  obtain ⟨fsr6, hor6⟩ := kp_ob_inv eur6
  refine kw_callV (As := [.int x1, .int v5]) (S := [.int x1, .ref x0]) kcX12 cbX12_passAsTold_X12_farOf lkX12_161 imX12_farOf seX12_X12_farOf_X12_farOf rfl rfl (Nat.le_of_ble_eq_true rfl) dX12_passAsTold_21 hor6 (X12_farOf_c G hp x0 x1 v5 _ er6) (fun vv hh hq => ?_)
  rw [hq.1, hq.2]
  show kw_V G mX12_passAsTold 24 [some (.ref x0), some (.int x1)] [.int r6, .int x1, .ref x0] hp Q
  obtain ⟨r7, er7, h⟩ := Option.bind_eq_some_iff.mp h
  obtain ⟨ur7, eur7, er7⟩ := Option.bind_eq_some_iff.mp er7
  obtain ⟨fsr7, hor7⟩ := kp_ob_inv eur7
  refine kw_callV (As := [.int x1, .int r6]) (S := []) kcX12 cbX12_passAsTold_X12_pass lkX12_164 imX12_pass seX12_X12_pass_X12_pass rfl rfl (Nat.le_of_ble_eq_true rfl) dX12_passAsTold_24 hor7 (X12_pass_c G hp x0 x1 r6 _ er7) (fun vv hh hq => ?_)
  rw [hq.1, hq.2]
  show kw_V G mX12_passAsTold 27 [some (.ref x0), some (.int x1)] [] r7 Q
  have h := Option.some.inj h
  subst h
  exact kw_vret rfl dX12_passAsTold_27 hK
/-! KitchenWheelsModel.layTried(I)V -/
def X12_layTried_K10 (G : kw_G) (Q : Option Value → kw_H → Prop) (x0 : Nat) (x1 : Int32) (r : (Int32 × kw_H) ⊕ (kw_H)) : Prop := match r with
  | .inl z => kw_V G mX12_layTried 10 [some (.ref x0), some (.int x1), some (.int z.1)] [] z.2 Q
  | .inr r => Q none r
def X12_layTried_J28 (hp : kw_H) : Option (kw_H) :=
  some (hp)
set_option maxRecDepth 100000 in
set_option maxHeartbeats 4000000 in
theorem X12_layTried_J28_t (G : kw_G) (Q : Option Value → kw_H → Prop) (hp : kw_H) (r : kw_H) (h : X12_layTried_J28 hp = some r) (hK : Q none r) : kw_V G mX12_layTried 28 [none, none, none] [] hp Q := by
  unfold X12_layTried_J28 at h
  have h := Option.some.inj h
  subst h
  exact kw_vret rfl dX12_layTried_28 hK
def X12_layTried_b10 (x0 : Nat) (x1 : Int32) (x2 : Int32) (hp : kw_H) : Option (((Int32 × kw_H) ⊕ (kw_H))) :=
  (if x1 ≤ x2 then
  (X12_layTried_J28 hp).map (fun r => .inr (r))
else
  ((kp_ob hp x0 11).bind fun _ => X12_passAsTold_F hp x0 (nI 1782)).bind fun r3 =>
  some (.inl (x2 + (nI 1), r3)))
set_option maxRecDepth 100000 in
set_option maxHeartbeats 4000000 in
theorem X12_layTried_b10_t (G : kw_G) (Q : Option Value → kw_H → Prop) (x0 : Nat) (x1 : Int32) (x2 : Int32) (hp : kw_H) (r : ((Int32 × kw_H) ⊕ (kw_H))) (h : X12_layTried_b10 x0 x1 x2 hp = some r) (hK : X12_layTried_K10 G Q x0 x1 r) : kw_V G mX12_layTried 10 [some (.ref x0), some (.int x1), some (.int x2)] [] hp Q := by
  unfold X12_layTried_b10 at h
  refine kw_iload_n dX12_layTried_10 rfl ?_
  refine kw_iload_n dX12_layTried_11 rfl ?_
  refine kw_icmp_ge 28 dX12_layTried_12 (by decide) (fun c4 => ?_) (fun c4 => ?_)
  · have h := (if_pos c4).symm.trans h
    refine kw_mask [false, false, false] (L' := [none, none, none]) rfl ?_
    obtain ⟨r2, hr2, hrr2⟩ := Option.map_eq_some_iff.mp h
    subst hrr2
    exact X12_layTried_J28_t G Q hp r2 hr2 hK
  · have h := (if_neg c4).symm.trans h
    refine kw_aload_n dX12_layTried_15 rfl ?_
    refine kw_sipush (v := nI 1782) dX12_layTried_16 (by decide) ?_
    obtain ⟨r3, er3, h⟩ := Option.bind_eq_some_iff.mp h
    obtain ⟨ur3, eur3, er3⟩ := Option.bind_eq_some_iff.mp er3
    obtain ⟨fsr3, hor3⟩ := kp_ob_inv eur3
    refine kw_callV (As := [.int (nI 1782)]) (S := []) kcX12 cbX12_layTried_X12_passAsTold lkX12_167 imX12_passAsTold seX12_X12_passAsTold_X12_passAsTold rfl rfl (Nat.le_of_ble_eq_true rfl) dX12_layTried_19 hor3 (X12_passAsTold_c G hp x0 (nI 1782) _ er3) (fun vv hh hq => ?_)
    rw [hq.1, hq.2]
    show kw_V G mX12_layTried 22 [some (.ref x0), some (.int x1), some (.int x2)] [] r3 Q
    refine kv_iinc (w := nI 1) (L' := [some (.ref x0), some (.int x1), some (.int (x2 + (nI 1)))]) dX12_layTried_22 (by decide) rfl (by decide) rfl ?_
    refine kw_goto 10 dX12_layTried_25 (by decide) ?_
    have h := Option.some.inj h
    subst h
    exact hK
def X12_layTried_B10 (x0 : Nat) (x1 : Int32) (z : Int32 × kw_H) : Option (((Int32 × kw_H) ⊕ (kw_H))) := X12_layTried_b10 x0 x1 z.1 z.2
theorem X12_layTried_L10_t (G : kw_G) (Q : Option Value → kw_H → Prop) (x0 : Nat) (x1 : Int32) (n : Nat) (z : Int32 × kw_H) (r : kw_H) (h : kp_lp (X12_layTried_B10 x0 x1) n z = some r) (hK : Q none r) : kw_V G mX12_layTried 10 [some (.ref x0), some (.int x1), some (.int z.1)] [] z.2 Q :=
  kv_lp _ (fun z => kw_V G mX12_layTried 10 [some (.ref x0), some (.int x1), some (.int z.1)] [] z.2 Q) (fun r => Q none r) (fun z x hb hx => X12_layTried_b10_t G Q x0 x1 z.1 z.2 x hb (by cases x <;> exact hx)) n z r h hK
def X12_layTried_F (hp : kw_H) (x0 : Nat) (x1 : Int32) : Option (kw_H) :=
  ((kp_ob hp x0 11).bind fun _ => X12_copyTown_F hp x0 (nI 0) (nI 1782)).bind fun r1 =>
  kp_lp (X12_layTried_B10 x0 x1) 2000 (nI 0, r1)
set_option maxRecDepth 100000 in
set_option maxHeartbeats 4000000 in
theorem X12_layTried_c (G : kw_G) (hp : kw_H) (x0 : Nat) (x1 : Int32) (r : kw_H) (h : X12_layTried_F hp x0 x1 = some r) : kw_Met G mX12_layTried [.ref x0, .int x1] hp (fun v h2 => v = none ∧ h2 = r) := by
  refine kw_met (L := [some (.ref x0), some (.int x1), none]) (r := 1) (by decide +kernel) (Nat.le_of_ble_eq_true rfl) rfl ?_
  unfold X12_layTried_F at h
  obtain ⟨Q, hQ⟩ : ∃ Q : Option Value → kw_H → Prop, Q = (fun v h2 => v = none ∧ h2 = r) := ⟨_, rfl⟩
  have hK : Q none r := by rw [hQ]; exact ⟨rfl, rfl⟩
  rw [← hQ]
  clear hQ
  refine kw_aload_n dX12_layTried_0 rfl ?_
  refine kw_iconst (v := nI 0) dX12_layTried_1 (by decide) ?_
  refine kw_sipush (v := nI 1782) dX12_layTried_2 (by decide) ?_
  obtain ⟨r1, er1, h⟩ := Option.bind_eq_some_iff.mp h
  obtain ⟨ur1, eur1, er1⟩ := Option.bind_eq_some_iff.mp er1
  obtain ⟨fsr1, hor1⟩ := kp_ob_inv eur1
  refine kw_callV (As := [.int (nI 0), .int (nI 1782)]) (S := []) kcX12 cbX12_layTried_X12_copyTown lkX12_128 imX12_copyTown seX12_X12_copyTown_X12_copyTown rfl rfl (Nat.le_of_ble_eq_true rfl) dX12_layTried_5 hor1 (X12_copyTown_c G hp x0 (nI 0) (nI 1782) _ er1) (fun vv hh hq => ?_)
  rw [hq.1, hq.2]
  show kw_V G mX12_layTried 8 [some (.ref x0), some (.int x1), none] [] r1 Q
  refine kw_iconst (v := nI 0) dX12_layTried_8 (by decide) ?_
  refine kw_istore_n (L' := [some (.ref x0), some (.int x1), some (.int (nI 0))]) dX12_layTried_9 (by decide) rfl ?_
  exact X12_layTried_L10_t G Q x0 x1 _ (nI 0, r1) _ h hK
