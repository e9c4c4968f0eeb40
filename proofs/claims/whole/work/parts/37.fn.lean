/-! KitchenWheelsModel.weeks(I)I -/
def X12_weeks_K44 (G : kw_G) (Q : Option Value → kw_H → Prop) (x0 : Nat) (x1 : Int32) (r : (Int32 × kw_H) ⊕ (Int32 × kw_H)) : Prop := match r with
  | .inl z => kw_V G mX12_weeks 44 [some (.ref x0), some (.int x1), some (.int z.1)] [] z.2 Q
  | .inr r => Q (some (.int r.1)) r.2
def X12_weeks_J64 (hp : kw_H) (x0 : Nat) : Option (Int32 × kw_H) :=
  (kp_gR hp x0 [11] 0).bind fun v5 =>
  (kp_ldI hp v5 (nI 4)).bind fun v6 =>
  some ((v6, hp))
set_option maxRecDepth 100000 in
set_option maxHeartbeats 4000000 in
theorem X12_weeks_J64_t (G : kw_G) (Q : Option Value → kw_H → Prop) (hp : kw_H) (x0 : Nat) (r : Int32 × kw_H) (h : X12_weeks_J64 hp x0 = some r) (hK : Q (some (.int r.1)) r.2) : kw_V G mX12_weeks 64 [some (.ref x0), none, none] [] hp Q := by
  unfold X12_weeks_J64 at h
  refine kw_aload_n dX12_weeks_64 rfl ?_
  obtain ⟨v5, ev5, h⟩ := Option.bind_eq_some_iff.mp h
  refine kv_gR gfX12_7 dX12_weeks_65 ev5 ?_
  refine kw_iconst (v := nI 4) dX12_weeks_68 (by decide) ?_
  obtain ⟨v6, ev6, h⟩ := Option.bind_eq_some_iff.mp h
  refine kv_ldI dX12_weeks_69 ev6 ?_
  have h := Option.some.inj h
  subst h
  exact kw_iret rfl dX12_weeks_70 hK
def X12_weeks_b44 (x0 : Nat) (x1 : Int32) (x2 : Int32) (hp : kw_H) : Option (((Int32 × kw_H) ⊕ (Int32 × kw_H))) :=
  (if x1 ≤ x2 then
  (X12_weeks_J64 hp x0).map (fun r => .inr (r))
else
  ((kp_ob hp x0 11).bind fun _ => X12_keepPast_F hp x0).bind fun r8 =>
  ((kp_ob r8 x0 11).bind fun _ => X12_passAsTold_F r8 x0 (nI 0)).bind fun r9 =>
  some (.inl (x2 + (nI 1), r9)))
set_option maxRecDepth 100000 in
set_option maxHeartbeats 4000000 in
theorem X12_weeks_b44_t (G : kw_G) (Q : Option Value → kw_H → Prop) (x0 : Nat) (x1 : Int32) (x2 : Int32) (hp : kw_H) (r : ((Int32 × kw_H) ⊕ (Int32 × kw_H))) (h : X12_weeks_b44 x0 x1 x2 hp = some r) (hK : X12_weeks_K44 G Q x0 x1 r) : kw_V G mX12_weeks 44 [some (.ref x0), some (.int x1), some (.int x2)] [] hp Q := by
  unfold X12_weeks_b44 at h
  refine kw_iload_n dX12_weeks_44 rfl ?_
  refine kw_iload_n dX12_weeks_45 rfl ?_
  refine kw_icmp_ge 64 dX12_weeks_46 (by decide) (fun c10 => ?_) (fun c10 => ?_)
  · have h := (if_pos c10).symm.trans h
    refine kw_mask [true, false, false] (L' := [some (.ref x0), none, none]) rfl ?_
    obtain ⟨r7, hr7, hrr7⟩ := Option.map_eq_some_iff.mp h
    subst hrr7
    exact X12_weeks_J64_t G Q hp x0 r7 hr7 hK
  · have h := (if_neg c10).symm.trans h
    refine kw_aload_n dX12_weeks_49 rfl ?_
    obtain ⟨r8, er8, h⟩ := Option.bind_eq_some_iff.mp h
    obtain ⟨ur8, eur8, er8⟩ := Option.bind_eq_some_iff.mp er8
    obtain ⟨fsr8, hor8⟩ := kp_ob_inv eur8
    refine kw_callV (As := []) (S := []) kcX12 cbX12_weeks_X12_keepPast lkX12_173 imX12_keepPast seX12_X12_keepPast_X12_keepPast rfl rfl (Nat.le_of_ble_eq_true rfl) dX12_weeks_50 hor8 (X12_keepPast_c G hp x0 _ er8) (fun vv hh hq => ?_)
    rw [hq.1, hq.2]
    show kw_V G mX12_weeks 53 [some (.ref x0), some (.int x1), some (.int x2)] [] r8 Q
    refine kw_aload_n dX12_weeks_53 rfl ?_
    refine kw_iconst (v := nI 0) dX12_weeks_54 (by decide) ?_
    obtain ⟨r9, er9, h⟩ := Option.bind_eq_some_iff.mp h
    obtain ⟨ur9, eur9, er9⟩ := Option.bind_eq_some_iff.mp er9
    obtain ⟨fsr9, hor9⟩ := kp_ob_inv eur9
    refine kw_callV (As := [.int (nI 0)]) (S := []) kcX12 cbX12_weeks_X12_passAsTold lkX12_167 imX12_passAsTold seX12_X12_passAsTold_X12_passAsTold rfl rfl (Nat.le_of_ble_eq_true rfl) dX12_weeks_55 hor9 (X12_passAsTold_c G r8 x0 (nI 0) _ er9) (fun vv hh hq => ?_)
    rw [hq.1, hq.2]
    show kw_V G mX12_weeks 58 [some (.ref x0), some (.int x1), some (.int x2)] [] r9 Q
    refine kv_iinc (w := nI 1) (L' := [some (.ref x0), some (.int x1), some (.int (x2 + (nI 1)))]) dX12_weeks_58 (by decide) rfl (by decide) rfl ?_
    refine kw_goto 44 dX12_weeks_61 (by decide) ?_
    have h := Option.some.inj h
    subst h
    exact hK
def X12_weeks_B44 (x0 : Nat) (x1 : Int32) (z : Int32 × kw_H) : Option (((Int32 × kw_H) ⊕ (Int32 × kw_H))) := X12_weeks_b44 x0 x1 z.1 z.2
theorem X12_weeks_L44_t (G : kw_G) (Q : Option Value → kw_H → Prop) (x0 : Nat) (x1 : Int32) (n : Nat) (z : Int32 × kw_H) (r : Int32 × kw_H) (h : kp_lp (X12_weeks_B44 x0 x1) n z = some r) (hK : Q (some (.int r.1)) r.2) : kw_V G mX12_weeks 44 [some (.ref x0), some (.int x1), some (.int z.1)] [] z.2 Q :=
  kv_lp _ (fun z => kw_V G mX12_weeks 44 [some (.ref x0), some (.int x1), some (.int z.1)] [] z.2 Q) (fun r => Q (some (.int r.1)) r.2) (fun z x hb hx => X12_weeks_b44_t G Q x0 x1 z.1 z.2 x hb (by cases x <;> exact hx)) n z r h hK
def X12_weeks_F (hp : kw_H) (x0 : Nat) (x1 : Int32) : Option (Int32 × kw_H) :=
  (kp_gI hp x0 [11] 1).bind fun v1 =>
  (if v1 = 0 then
  some (((-1000002), hp))
else
  (X12_in_F hp (Int32.toInt64 x1) (lN 1) (lN 24)).bind fun r2 =>
  (if r2 = 0 then
  some (((-1000001), hp))
else
  (kp_gR hp x0 [11] 0).bind fun v3 =>
  (kp_ldI hp v3 (nI 3)).bind fun v4 =>
  (if (v4 + x1) ≤ (nI 999) then
  kp_lp (X12_weeks_B44 x0 x1) 2000 (nI 0, hp)
else
  some (((-1000003), hp)))))
set_option maxRecDepth 100000 in
set_option maxHeartbeats 4000000 in
theorem X12_weeks_c (G : kw_G) (hp : kw_H) (x0 : Nat) (x1 : Int32) (r : Int32 × kw_H) (h : X12_weeks_F hp x0 x1 = some r) : kw_Met G mX12_weeks [.ref x0, .int x1] hp (fun v h2 => v = some (.int r.1) ∧ h2 = r.2) := by
  refine kw_met (L := [some (.ref x0), some (.int x1), none]) (r := 1) (by decide +kernel) (Nat.le_of_ble_eq_true rfl) rfl ?_
  unfold X12_weeks_F at h
  obtain ⟨Q, hQ⟩ : ∃ Q : Option Value → kw_H → Prop, Q = (fun v h2 => v = some (.int r.1) ∧ h2 = r.2) := ⟨_, rfl⟩
  have hK : Q (some (.int r.1)) r.2 := by rw [hQ]; exact ⟨rfl, rfl⟩
  rw [← hQ]
  clear hQ
  refine kw_aload_n dX12_weeks_0 rfl ?_
  obtain ⟨v1, ev1, h⟩ := Option.bind_eq_some_iff.mp h
  refine kv_gI gfX12_132 dX12_weeks_1 ev1 ?_
  refine kw_if_ne 10 dX12_weeks_4 (by decide) (fun c13 => ?_) (fun c13 => ?_)
  · have h := (if_neg c13).symm.trans h
    refine kw_iload_n dX12_weeks_10 rfl ?_
    refine kw_i2l dX12_weeks_11 ?_
    refine kw_lconst (v := lN 1) dX12_weeks_12 (by decide) ?_
    refine kw_ldc2_w (v := lN 24) dX12_weeks_13 ckX12_171 ?_
    obtain ⟨r2, er2, h⟩ := Option.bind_eq_some_iff.mp h
    refine kw_callS (As := [.long (Int32.toInt64 x1), .long (lN 1), .long (lN 24)]) (S := []) cbX12_weeks_X12_in lkX12_42 stX12_in rfl rfl (Nat.le_of_ble_eq_true rfl) dX12_weeks_16 (X12_in_c G hp (Int32.toInt64 x1) (lN 1) (lN 24) _ er2) (fun vv hh hq => ?_)
    rw [hq.1, hq.2]
    show kw_V G mX12_weeks 19 [some (.ref x0), some (.int x1), none] [.int r2] hp Q
    refine kw_if_ne 25 dX12_weeks_19 (by decide) (fun c12 => ?_) (fun c12 => ?_)
    · have h := (if_neg c12).symm.trans h
      refine kw_aload_n dX12_weeks_25 rfl ?_
      obtain ⟨v3, ev3, h⟩ := Option.bind_eq_some_iff.mp h
      refine kv_gR gfX12_7 dX12_weeks_26 ev3 ?_
      refine kw_iconst (v := nI 3) dX12_weeks_29 (by decide) ?_
      obtain ⟨v4, ev4, h⟩ := Option.bind_eq_some_iff.mp h
      refine kv_ldI dX12_weeks_30 ev4 ?_
      refine kw_iload_n dX12_weeks_31 rfl ?_
      refine kw_iadd dX12_weeks_32 ?_
      refine kw_sipush (v := nI 999) dX12_weeks_33 (by decide) ?_
      refine kw_icmp_le 42 dX12_weeks_36 (by decide) (fun c11 => ?_) (fun c11 => ?_)
      · have h := (if_pos c11).symm.trans h
        refine kw_iconst (v := nI 0) dX12_weeks_42 (by decide) ?_
        refine kw_istore_n (L' := [some (.ref x0), some (.int x1), some (.int (nI 0))]) dX12_weeks_43 (by decide) rfl ?_
        exact X12_weeks_L44_t G Q x0 x1 _ (nI 0, hp) _ h hK
      · have h := (if_neg c11).symm.trans h
        refine kw_ldc (v := (-1000003)) dX12_weeks_39 ckX12_73 ?_
        have h := Option.some.inj h
        subst h
        exact kw_iret rfl dX12_weeks_41 hK
    · have h := (if_pos c12).symm.trans h
      refine kw_ldc (v := (-1000001)) dX12_weeks_22 ckX12_52 ?_
      have h := Option.some.inj h
      subst h
      exact kw_iret rfl dX12_weeks_24 hK
  · have h := (if_pos c13).symm.trans h
    refine kw_ldc (v := (-1000002)) dX12_weeks_7 ckX12_139 ?_
    have h := Option.some.inj h
    subst h
    exact kw_iret rfl dX12_weeks_9 hK
/-! KitchenWheelsModel.leave(I)I -/
def X12_leave_F (hp : kw_H) (x0 : Nat) (x1 : Int32) : Option (Int32 × kw_H) :=
  (kp_gI hp x0 [11] 1).bind fun v1 =>
  (if v1 = 0 then
  some (((-1000002), hp))
else
  (X12_isSix_F hp x1).bind fun r2 =>
  (if r2 = 0 then
  some (((-1000001), hp))
else
  (kp_gR hp x0 [11] 0).bind fun v3 =>
  (kp_ldI hp v3 (nI 5)).bind fun v4 =>
  (X12_has_F hp v4 x1).bind fun r5 =>
  (if r5 = 0 then
  ((kp_ob hp x0 11).bind fun _ => X12_keepPast_F hp x0).bind fun r6 =>
  (kp_gR r6 x0 [11] 0).bind fun v7 =>
  (kp_ldI r6 v7 (nI 5)).bind fun v8 =>
  (kp_stI r6 v7 (nI 5) (v8 ||| ((nI 1) <<< (x1 &&& 31)))).bind fun hp9 =>
  (kp_gR hp9 x0 [11] 0).bind fun v10 =>
  (kp_ldI hp9 v10 (nI 5)).bind fun v11 =>
  some ((v11, hp9))
else
  some (((-1000002), hp)))))
set_option maxRecDepth 100000 in
set_option maxHeartbeats 4000000 in
theorem X12_leave_c (G : kw_G) (hp : kw_H) (x0 : Nat) (x1 : Int32) (r : Int32 × kw_H) (h : X12_leave_F hp x0 x1 = some r) : kw_Met G mX12_leave [.ref x0, .int x1] hp (fun v h2 => v = some (.int r.1) ∧ h2 = r.2) := by
  refine kw_met (L := [some (.ref x0), some (.int x1)]) (r := 0) (by decide +kernel) (Nat.le_of_ble_eq_true rfl) rfl ?_
  unfold X12_leave_F at h
  obtain ⟨Q, hQ⟩ : ∃ Q : Option Value → kw_H → Prop, Q = (fun v h2 => v = some (.int r.1) ∧ h2 = r.2) := ⟨_, rfl⟩
  have hK : Q (some (.int r.1)) r.2 := by rw [hQ]; exact ⟨rfl, rfl⟩
  rw [← hQ]
  clear hQ
  refine kw_aload_n dX12_leave_0 rfl ?_
  obtain ⟨v1, ev1, h⟩ := Option.bind_eq_some_iff.mp h
  refine kv_gI gfX12_132 dX12_leave_1 ev1 ?_
  refine kw_if_ne 10 dX12_leave_4 (by decide) (fun c14 => ?_) (fun c14 => ?_)
  · have h := (if_neg c14).symm.trans h
    refine kw_iload_n dX12_leave_10 rfl ?_
    obtain ⟨r2, er2, h⟩ := Option.bind_eq_some_iff.mp h
    refine kw_callS (As := [.int x1]) (S := []) cbX12_leave_X12_isSix lkX12_176 stX12_isSix rfl rfl (Nat.le_of_ble_eq_true rfl) dX12_leave_11 (X12_isSix_c G hp x1 _ er2) (fun vv hh hq => ?_)
    rw [hq.1, hq.2]
    show kw_V G mX12_leave 14 [some (.ref x0), some (.int x1)] [.int r2] hp Q
    refine kw_if_ne 20 dX12_leave_14 (by decide) (fun c13 => ?_) (fun c13 => ?_)
    · have h := (if_neg c13).symm.trans h
      refine kw_aload_n dX12_leave_20 rfl ?_
      obtain ⟨v3, ev3, h⟩ := Option.bind_eq_some_iff.mp h
      refine kv_gR gfX12_7 dX12_leave_21 ev3 ?_
      refine kw_iconst (v := nI 5) dX12_leave_24 (by decide) ?_
      obtain ⟨v4, ev4, h⟩ := Option.bind_eq_some_iff.mp h
      refine kv_ldI dX12_leave_25 ev4 ?_
      refine kw_iload_n dX12_leave_26 rfl ?_
      obtain ⟨r5, er5, h⟩ := Option.bind_eq_some_iff.mp h
      refine kw_callS (As := [.int v4, .int x1]) (S := []) cbX12_leave_X12_has lkX12_148 stX12_has rfl rfl (Nat.le_of_ble_eq_true rfl) dX12_leave_27 (X12_has_c G hp v4 x1 _ er5) (fun vv hh hq => ?_)
      rw [hq.1, hq.2]
      show kw_V G mX12_leave 30 [some (.ref x0), some (.int x1)] [.int r5] hp Q
      refine kw_if_eq 36 dX12_leave_30 (by decide) (fun c12 => ?_) (fun c12 => ?_)
      · have h := (if_pos c12).symm.trans h
        refine kw_aload_n dX12_leave_36 rfl ?_
        obtain ⟨r6, er6, h⟩ := Option.bind_eq_some_iff.mp h
        obtain ⟨ur6, eur6, er6⟩ := Option.bind_eq_some_iff.mp er6
        obtain ⟨fsr6, hor6⟩ := kp_ob_inv eur6
        refine kw_callV (As := []) (S := []) kcX12 cbX12_leave_X12_keepPast lkX12_173 imX12_keepPast seX12_X12_keepPast_X12_keepPast rfl rfl (Nat.le_of_ble_eq_true rfl) dX12_leave_37 hor6 (X12_keepPast_c G hp x0 _ er6) (fun vv hh hq => ?_)
        rw [hq.1, hq.2]
        show kw_V G mX12_leave 40 [some (.ref x0), some (.int x1)] [] r6 Q
        refine kw_aload_n dX12_leave_40 rfl ?_
        obtain ⟨v7, ev7, h⟩ := Option.bind_eq_some_iff.mp h
        refine kv_gR gfX12_7 dX12_leave_41 ev7 ?_
        refine kw_iconst (v := nI 5) dX12_leave_44 (by decide) ?_
        refine kw_dup2 dX12_leave_45 rfl rfl ?_
        obtain ⟨v8, ev8, h⟩ := Option.bind_eq_some_iff.mp h
        refine kv_ldI dX12_leave_46 ev8 ?_
        refine kw_iconst (v := nI 1) dX12_leave_47 (by decide) ?_
        refine kw_iload_n dX12_leave_48 rfl ?_
        refine kw_ishl dX12_leave_49 ?_
        refine kw_ior dX12_leave_50 ?_
        obtain ⟨hp9, ehp9, h⟩ := Option.bind_eq_some_iff.mp h
        refine kv_stI dX12_leave_51 ehp9 ?_
        refine kw_aload_n dX12_leave_52 rfl ?_
        obtain ⟨v10, ev10, h⟩ := Option.bind_eq_some_iff.mp h
        refine kv_gR gfX12_7 dX12_leave_53 ev10 ?_
        refine kw_iconst (v := nI 5) dX12_leave_56 (by decide) ?_
        obtain ⟨v11, ev11, h⟩ := Option.bind_eq_some_iff.mp h
        refine kv_ldI dX12_leave_57 ev11 ?_
        have h := Option.some.inj h
        subst h
        exact kw_iret rfl dX12_leave_58 hK
      · have h := (if_neg c12).symm.trans h
        refine kw_ldc (v := (-1000002)) dX12_leave_33 ckX12_139 ?_
        have h := Option.some.inj h
        subst h
        exact kw_iret rfl dX12_leave_35 hK
    · have h := (if_pos c13).symm.trans h
      refine kw_ldc (v := (-1000001)) dX12_leave_17 ckX12_52 ?_
      have h := Option.some.inj h
      subst h
      exact kw_iret rfl dX12_leave_19 hK
  · have h := (if_pos c14).symm.trans h
    refine kw_ldc (v := (-1000002)) dX12_leave_7 ckX12_139 ?_
    have h := Option.some.inj h
    subst h
    exact kw_iret rfl dX12_leave_9 hK
/-! KitchenWheelsModel.name(II)I -/
def X12_name_F (hp : kw_H) (x0 : Nat) (x1 : Int32) (x2 : Int32) : Option (Int32 × kw_H) :=
  (kp_gI hp x0 [11] 1).bind fun v1 =>
  (if v1 = 0 then
  some (((-1000002), hp))
else
  (kp_gR hp x0 [11] 0).bind fun v2 =>
  (kp_ldI hp v2 (nI 0)).bind fun v3 =>
  (X12_in_F hp (Int32.toInt64 x1) (lN 0) (Int32.toInt64 (v3 - (nI 1)))).bind fun r4 =>
  (if r4 = 0 then
  some (((-1000001), hp))
else
  (X12_in_F hp (Int32.toInt64 x2) (lN 0) (lN 6)).bind fun r5 =>
  (if r5 = 0 then
  some (((-1000001), hp))
else
  ((kp_ob hp x0 11).bind fun _ => X12_keepPast_F hp x0).bind fun r6 =>
  (kp_gR r6 x0 [11] 0).bind fun v7 =>
  (kp_ldI r6 v7 ((nI 6) + x1)).bind fun v8 =>
  (kp_gR r6 x0 [11] 0).bind fun v9 =>
  (kp_stI r6 v9 ((nI 6) + x1) x2).bind fun hp10 =>
  some ((v8, hp10)))))
set_option maxRecDepth 100000 in
set_option maxHeartbeats 4000000 in
theorem X12_name_c (G : kw_G) (hp : kw_H) (x0 : Nat) (x1 : Int32) (x2 : Int32) (r : Int32 × kw_H) (h : X12_name_F hp x0 x1 x2 = some r) : kw_Met G mX12_name [.ref x0, .int x1, .int x2] hp (fun v h2 => v = some (.int r.1) ∧ h2 = r.2) := by
  refine kw_met (L := [some (.ref x0), some (.int x1), some (.int x2), none]) (r := 1) (by decide +kernel) (Nat.le_of_ble_eq_true rfl) rfl ?_
  unfold X12_name_F at h
  obtain ⟨Q, hQ⟩ : ∃ Q : Option Value → kw_H → Prop, Q = (fun v h2 => v = some (.int r.1) ∧ h2 = r.2) := ⟨_, rfl⟩
  have hK : Q (some (.int r.1)) r.2 := by rw [hQ]; exact ⟨rfl, rfl⟩
  rw [← hQ]
  clear hQ
  refine kw_aload_n dX12_name_0 rfl ?_
  obtain ⟨v1, ev1, h⟩ := Option.bind_eq_some_iff.mp h
  refine kv_gI gfX12_132 dX12_name_1 ev1 ?_
  refine kw_if_ne 10 dX12_name_4 (by decide) (fun c13 => ?_) (fun c13 => ?_)
  · have h := (if_neg c13).symm.trans h
    refine kw_iload_n dX12_name_10 rfl ?_
    refine kw_i2l dX12_name_11 ?_
    refine kw_lconst (v := lN 0) dX12_name_12 (by decide) ?_
    refine kw_aload_n dX12_name_13 rfl ?_
    obtain ⟨v2, ev2, h⟩ := Option.bind_eq_some_iff.mp h
    refine kv_gR gfX12_7 dX12_name_14 ev2 ?_
    refine kw_iconst (v := nI 0) dX12_name_17 (by decide) ?_
    obtain ⟨v3, ev3, h⟩ := Option.bind_eq_some_iff.mp h
    refine kv_ldI dX12_name_18 ev3 ?_
    refine kw_iconst (v := nI 1) dX12_name_19 (by decide) ?_
    refine kw_isub dX12_name_20 ?_
    refine kw_i2l dX12_name_21 ?_
    obtain ⟨r4, er4, h⟩ := Option.bind_eq_some_iff.mp h
    refine kw_callS (As := [.long (Int32.toInt64 x1), .long (lN 0), .long (Int32.toInt64 (v3 - (nI 1)))]) (S := []) cbX12_name_X12_in lkX12_42 stX12_in rfl rfl (Nat.le_of_ble_eq_true rfl) dX12_name_22 (X12_in_c G hp (Int32.toInt64 x1) (lN 0) (Int32.toInt64 (v3 - (nI 1))) _ er4) (fun vv hh hq => ?_)
    rw [hq.1, hq.2]
    show kw_V G mX12_name 25 [some (.ref x0), some (.int x1), some (.int x2), none] [.int r4] hp Q
    refine kw_if_eq 40 dX12_name_25 (by decide) (fun c12 => ?_) (fun c12 => ?_)
    · have h := (if_pos c12).symm.trans h
      refine kw_ldc (v := (-1000001)) dX12_name_40 ckX12_52 ?_
      have h := Option.some.inj h
      subst h
      exact kw_iret rfl dX12_name_42 hK
    · have h := (if_neg c12).symm.trans h
      refine kw_iload_n dX12_name_28 rfl ?_
      refine kw_i2l dX12_name_29 ?_
      refine kw_lconst (v := lN 0) dX12_name_30 (by decide) ?_
      refine kw_ldc2_w (v := lN 6) dX12_name_31 ckX12_179 ?_
      obtain ⟨r5, er5, h⟩ := Option.bind_eq_some_iff.mp h
      refine kw_callS (As := [.long (Int32.toInt64 x2), .long (lN 0), .long (lN 6)]) (S := []) cbX12_name_X12_in lkX12_42 stX12_in rfl rfl (Nat.le_of_ble_eq_true rfl) dX12_name_34 (X12_in_c G hp (Int32.toInt64 x2) (lN 0) (lN 6) _ er5) (fun vv hh hq => ?_)
      rw [hq.1, hq.2]
      show kw_V G mX12_name 37 [some (.ref x0), some (.int x1), some (.int x2), none] [.int r5] hp Q
      refine kw_if_ne 43 dX12_name_37 (by decide) (fun c11 => ?_) (fun c11 => ?_)
      · have h := (if_neg c11).symm.trans h
        refine kw_aload_n dX12_name_43 rfl ?_
        obtain ⟨r6, er6, h⟩ := Option.bind_eq_some_iff.mp h
        obtain ⟨ur6, eur6, er6⟩ := Option.bind_eq_some_iff.mp er6
        obtain ⟨fsr6, hor6⟩ := kp_ob_inv eur6
        refine kw_callV (As := []) (S := []) kcX12 cbX12_name_X12_keepPast lkX12_173 imX12_keepPast seX12_X12_keepPast_X12_keepPast rfl rfl (Nat.le_of_ble_eq_true rfl) dX12_name_44 hor6 (X12_keepPast_c G hp x0 _ er6) (fun vv hh hq => ?_)
        rw [hq.1, hq.2]
        show kw_V G mX12_name 47 [some (.ref x0), some (.int x1), some (.int x2), none] [] r6 Q
        refine kw_aload_n dX12_name_47 rfl ?_
        obtain ⟨v7, ev7, h⟩ := Option.bind_eq_some_iff.mp h
        refine kv_gR gfX12_7 dX12_name_48 ev7 ?_
        refine kw_bipush (v := nI 6) dX12_name_51 (by decide) ?_
        refine kw_iload_n dX12_name_53 rfl ?_
        refine kw_iadd dX12_name_54 ?_
        obtain ⟨v8, ev8, h⟩ := Option.bind_eq_some_iff.mp h
        refine kv_ldI dX12_name_55 ev8 ?_
        refine kw_istore_n (L' := [some (.ref x0), some (.int x1), some (.int x2), some (.int v8)]) dX12_name_56 (by decide) rfl ?_
        refine kw_aload_n dX12_name_57 rfl ?_
        obtain ⟨v9, ev9, h⟩ := Option.bind_eq_some_iff.mp h
        refine kv_gR gfX12_7 dX12_name_58 ev9 ?_
        refine kw_bipush (v := nI 6) dX12_name_61 (by decide) ?_
        refine kw_iload_n dX12_name_63 rfl ?_
        refine kw_iadd dX12_name_64 ?_
        refine kw_iload_n dX12_name_65 rfl ?_
        obtain ⟨hp10, ehp10, h⟩ := Option.bind_eq_some_iff.mp h
        refine kv_stI dX12_name_66 ehp10 ?_
        refine kw_iload_n dX12_name_67 rfl ?_
        have h := Option.some.inj h
        subst h
        exact kw_iret rfl dX12_name_68 hK
      · have h := (if_pos c11).symm.trans h
        refine kw_ldc (v := (-1000001)) dX12_name_40 ckX12_52 ?_
        have h := Option.some.inj h
        subst h
        exact kw_iret rfl dX12_name_42 hK
  · have h := (if_pos c13).symm.trans h
    refine kw_ldc (v := (-1000002)) dX12_name_7 ckX12_139 ?_
    have h := Option.some.inj h
    subst h
    exact kw_iret rfl dX12_name_9 hK
/-! KitchenWheelsModel.job(II)I -/
def X12_job_F (hp : kw_H) (x0 : Nat) (x1 : Int32) (x2 : Int32) : Option (Int32 × kw_H) :=
  (kp_gI hp x0 [11] 1).bind fun v1 =>
  (if v1 = 0 then
  some (((-1000002), hp))
else
  (kp_gR hp x0 [11] 0).bind fun v2 =>
  (kp_ldI hp v2 (nI 1)).bind fun v3 =>
  (X12_in_F hp (Int32.toInt64 x1) (lN 0) (Int32.toInt64 (v3 - (nI 1)))).bind fun r4 =>
  (if r4 = 0 then
  some (((-1000001), hp))
else
  (X12_in_F hp (Int32.toInt64 x2) (lN 0) (lN 6)).bind fun r5 =>
  (if r5 = 0 then
  some (((-1000001), hp))
else
  ((kp_ob hp x0 11).bind fun _ => X12_keepPast_F hp x0).bind fun r6 =>
  (kp_gR r6 x0 [11] 0).bind fun v7 =>
  (kp_ldI r6 v7 ((nI 14) + x1)).bind fun v8 =>
  (kp_gR r6 x0 [11] 0).bind fun v9 =>
  (kp_stI r6 v9 ((nI 14) + x1) x2).bind fun hp10 =>
  some ((v8, hp10)))))
set_option maxRecDepth 100000 in
set_option maxHeartbeats 4000000 in
theorem X12_job_c (G : kw_G) (hp : kw_H) (x0 : Nat) (x1 : Int32) (x2 : Int32) (r : Int32 × kw_H) (h : X12_job_F hp x0 x1 x2 = some r) : kw_Met G mX12_job [.ref x0, .int x1, .int x2] hp (fun v h2 => v = some (.int r.1) ∧ h2 = r.2) := by
  refine kw_met (L := [some (.ref x0), some (.int x1), some (.int x2), none]) (r := 1) (by decide +kernel) (Nat.le_of_ble_eq_true rfl) rfl ?_
  unfold X12_job_F at h
  obtain ⟨Q, hQ⟩ : ∃ Q : Option Value → kw_H → Prop, Q = (fun v h2 => v = some (.int r.1) ∧ h2 = r.2) := ⟨_, rfl⟩
  have hK : Q (some (.int r.1)) r.2 := by rw [hQ]; exact ⟨rfl, rfl⟩
  rw [← hQ]
  clear hQ
  refine kw_aload_n dX12_job_0 rfl ?_
  obtain ⟨v1, ev1, h⟩ := Option.bind_eq_some_iff.mp h
  refine kv_gI gfX12_132 dX12_job_1 ev1 ?_
  refine kw_if_ne 10 dX12_job_4 (by decide) (fun c13 => ?_) (fun c13 => ?_)
  · have h := (if_neg c13).symm.trans h
    refine kw_iload_n dX12_job_10 rfl ?_
    refine kw_i2l dX12_job_11 ?_
    refine kw_lconst (v := lN 0) dX12_job_12 (by decide) ?_
    refine kw_aload_n dX12_job_13 rfl ?_
    obtain ⟨v2, ev2, h⟩ := Option.bind_eq_some_iff.mp h
    refine kv_gR gfX12_7 dX12_job_14 ev2 ?_
    refine kw_iconst (v := nI 1) dX12_job_17 (by decide) ?_
    obtain ⟨v3, ev3, h⟩ := Option.bind_eq_some_iff.mp h
    refine kv_ldI dX12_job_18 ev3 ?_
    refine kw_iconst (v := nI 1) dX12_job_19 (by decide) ?_
    refine kw_isub dX12_job_20 ?_
    refine kw_i2l dX12_job_21 ?_
    obtain ⟨r4, er4, h⟩ := Option.bind_eq_some_iff.mp h
    refine kw_callS (As := [.long (Int32.toInt64 x1), .long (lN 0), .long (Int32.toInt64 (v3 - (nI 1)))]) (S := []) cbX12_job_X12_in lkX12_42 stX12_in rfl rfl (Nat.le_of_ble_eq_true rfl) dX12_job_22 (X12_in_c G hp (Int32.toInt64 x1) (lN 0) (Int32.toInt64 (v3 - (nI 1))) _ er4) (fun vv hh hq => ?_)
    rw [hq.1, hq.2]
    show kw_V G mX12_job 25 [some (.ref x0), some (.int x1), some (.int x2), none] [.int r4] hp Q
    refine kw_if_eq 40 dX12_job_25 (by decide) (fun c12 => ?_) (fun c12 => ?_)
    · have h := (if_pos c12).symm.trans h
      refine kw_ldc (v := (-1000001)) dX12_job_40 ckX12_52 ?_
      have h := Option.some.inj h
      subst h
      exact kw_iret rfl dX12_job_42 hK
    · have h := (if_neg c12).symm.trans h
      refine kw_iload_n dX12_job_28 rfl ?_
      refine kw_i2l dX12_job_29 ?_
      refine kw_lconst (v := lN 0) dX12_job_30 (by decide) ?_
      refine kw_ldc2_w (v := lN 6) dX12_job_31 ckX12_179 ?_
      obtain ⟨r5, er5, h⟩ := Option.bind_eq_some_iff.mp h
      refine kw_callS (As := [.long (Int32.toInt64 x2), .long (lN 0), .long (lN 6)]) (S := []) cbX12_job_X12_in lkX12_42 stX12_in rfl rfl (Nat.le_of_ble_eq_true rfl) dX12_job_34 (X12_in_c G hp (Int32.toInt64 x2) (lN 0) (lN 6) _ er5) (fun vv hh hq => ?_)
      rw [hq.1, hq.2]
      show kw_V G mX12_job 37 [some (.ref x0), some (.int x1), some (.int x2), none] [.int r5] hp Q
      refine kw_if_ne 43 dX12_job_37 (by decide) (fun c11 => ?_) (fun c11 => ?_)
      · have h := (if_neg c11).symm.trans h
        refine kw_aload_n dX12_job_43 rfl ?_
        obtain ⟨r6, er6, h⟩ := Option.bind_eq_some_iff.mp h
        obtain ⟨ur6, eur6, er6⟩ := Option.bind_eq_some_iff.mp er6
        obtain ⟨fsr6, hor6⟩ := kp_ob_inv eur6
        refine kw_callV (As := []) (S := []) kcX12 cbX12_job_X12_keepPast lkX12_173 imX12_keepPast seX12_X12_keepPast_X12_keepPast rfl rfl (Nat.le_of_ble_eq_true rfl) dX12_job_44 hor6 (X12_keepPast_c G hp x0 _ er6) (fun vv hh hq => ?_)
        rw [hq.1, hq.2]
        show kw_V G mX12_job 47 [some (.ref x0), some (.int x1), some (.int x2), none] [] r6 Q
        refine kw_aload_n dX12_job_47 rfl ?_
        obtain ⟨v7, ev7, h⟩ := Option.bind_eq_some_iff.mp h
        refine kv_gR gfX12_7 dX12_job_48 ev7 ?_
        refine kw_bipush (v := nI 14) dX12_job_51 (by decide) ?_
        refine kw_iload_n dX12_job_53 rfl ?_
        refine kw_iadd dX12_job_54 ?_
        obtain ⟨v8, ev8, h⟩ := Option.bind_eq_some_iff.mp h
        refine kv_ldI dX12_job_55 ev8 ?_
        refine kw_istore_n (L' := [some (.ref x0), some (.int x1), some (.int x2), some (.int v8)]) dX12_job_56 (by decide) rfl ?_
        refine kw_aload_n dX12_job_57 rfl ?_
        obtain ⟨v9, ev9, h⟩ := Option.bind_eq_some_iff.mp h
        refine kv_gR gfX12_7 dX12_job_58 ev9 ?_
        refine kw_bipush (v := nI 14) dX12_job_61 (by decide) ?_
        refine kw_iload_n dX12_job_63 rfl ?_
        refine kw_iadd dX12_job_64 ?_
        refine kw_iload_n dX12_job_65 rfl ?_
        obtain ⟨hp10, ehp10, h⟩ := Option.bind_eq_some_iff.mp h
        refine kv_stI dX12_job_66 ehp10 ?_
        refine kw_iload_n dX12_job_67 rfl ?_
        have h := Option.some.inj h
        subst h
        exact kw_iret rfl dX12_job_68 hK
      · have h := (if_pos c11).symm.trans h
        refine kw_ldc (v := (-1000001)) dX12_job_40 ckX12_52 ?_
        have h := Option.some.inj h
        subst h
        exact kw_iret rfl dX12_job_42 hK
  · have h := (if_pos c13).symm.trans h
    refine kw_ldc (v := (-1000002)) dX12_job_7 ckX12_139 ?_
    have h := Option.some.inj h
    subst h
    exact kw_iret rfl dX12_job_9 hK
/-! KitchenWheelsModel.turn(I)I -/
def X12_turn_F (hp : kw_H) (x0 : Nat) (x1 : Int32) : Option (Int32 × kw_H) :=
  (kp_gI hp x0 [11] 1).bind fun v1 =>
  (if v1 = 0 then
  some (((-1000002), hp))
else
  (X12_in_F hp (Int32.toInt64 x1) (lN 1) (lN 8)).bind fun r2 =>
  (if r2 = 0 then
  some (((-1000001), hp))
else
  ((kp_ob hp x0 11).bind fun _ => X12_keepPast_F hp x0).bind fun r3 =>
  ((kp_ob r3 x0 11).bind fun _ => X12_turnBy_F r3 x0 (nI 0) x1).bind fun r4 =>
  (kp_gR r4 x0 [11] 0).bind fun v5 =>
  (kp_ldI r4 v5 (nI 4)).bind fun v6 =>
  some ((v6, r4))))
set_option maxRecDepth 100000 in
set_option maxHeartbeats 4000000 in
theorem X12_turn_c (G : kw_G) (hp : kw_H) (x0 : Nat) (x1 : Int32) (r : Int32 × kw_H) (h : X12_turn_F hp x0 x1 = some r) : kw_Met G mX12_turn [.ref x0, .int x1] hp (fun v h2 => v = some (.int r.1) ∧ h2 = r.2) := by
  refine kw_met (L := [some (.ref x0), some (.int x1)]) (r := 0) (by decide +kernel) (Nat.le_of_ble_eq_true rfl) rfl ?_
  unfold X12_turn_F at h
  obtain ⟨Q, hQ⟩ : ∃ Q : Option Value → kw_H → Prop, Q = (fun v h2 => v = some (.int r.1) ∧ h2 = r.2) := ⟨_, rfl⟩
  have hK : Q (some (.int r.1)) r.2 := by rw [hQ]; exact ⟨rfl, rfl⟩
  rw [← hQ]
  clear hQ
  refine kw_aload_n dX12_turn_0 rfl ?_
  obtain ⟨v1, ev1, h⟩ := Option.bind_eq_some_iff.mp h
  refine kv_gI gfX12_132 dX12_turn_1 ev1 ?_
  refine kw_if_ne 10 dX12_turn_4 (by decide) (fun c8 => ?_) (fun c8 => ?_)
  · have h := (if_neg c8).symm.trans h
    refine kw_iload_n dX12_turn_10 rfl ?_
    refine kw_i2l dX12_turn_11 ?_
    refine kw_lconst (v := lN 1) dX12_turn_12 (by decide) ?_
    refine kw_ldc2_w (v := lN 8) dX12_turn_13 ckX12_181 ?_
    obtain ⟨r2, er2, h⟩ := Option.bind_eq_some_iff.mp h
    refine kw_callS (As := [.long (Int32.toInt64 x1), .long (lN 1), .long (lN 8)]) (S := []) cbX12_turn_X12_in lkX12_42 stX12_in rfl rfl (Nat.le_of_ble_eq_true rfl) dX12_turn_16 (X12_in_c G hp (Int32.toInt64 x1) (lN 1) (lN 8) _ er2) (fun vv hh hq => ?_)
    rw [hq.1, hq.2]
    show kw_V G mX12_turn 19 [some (.ref x0), some (.int x1)] [.int r2] hp Q
    refine kw_if_ne 25 dX12_turn_19 (by decide) (fun c7 => ?_) (fun c7 => ?_)
    · have h := (if_neg c7).symm.trans h
      refine kw_aload_n dX12_turn_25 rfl ?_
      obtain ⟨r3, er3, h⟩ := Option.bind_eq_some_iff.mp h
      obtain ⟨ur3, eur3, er3⟩ := Option.bind_eq_some_iff.mp er3
      obtain ⟨fsr3, hor3⟩ := kp_ob_inv eur3
      refine kw_callV (As := []) (S := []) kcX12 cbX12_turn_X12_keepPast lkX12_173 imX12_keepPast seX12_X12_keepPast_X12_keepPast rfl rfl (Nat.le_of_ble_eq_true rfl) dX12_turn_26 hor3 (X12_keepPast_c G hp x0 _ er3) (fun vv hh hq => ?_)
      rw [hq.1, hq.2]
      show kw_V G mX12_turn 29 [some (.ref x0), some (.int x1)] [] r3 Q
      refine kw_aload_n dX12_turn_29 rfl ?_
      refine kw_iconst (v := nI 0) dX12_turn_30 (by decide) ?_
      refine kw_iload_n dX12_turn_31 rfl ?_
      obtain ⟨r4, er4, h⟩ := Option.bind_eq_some_iff.mp h
      obtain ⟨ur4, eur4, er4⟩ := Option.bind_eq_some_iff.mp er4
      obtain ⟨fsr4, hor4⟩ := kp_ob_inv eur4
      refine kw_callV (As := [.int (nI 0), .int x1]) (S := []) kcX12 cbX12_turn_X12_turnBy lkX12_158 imX12_turnBy seX12_X12_turnBy_X12_turnBy rfl rfl (Nat.le_of_ble_eq_true rfl) dX12_turn_32 hor4 (X12_turnBy_c G r3 x0 (nI 0) x1 _ er4) (fun vv hh hq => ?_)
      rw [hq.1, hq.2]
      show kw_V G mX12_turn 35 [some (.ref x0), some (.int x1)] [] r4 Q
      refine kw_aload_n dX12_turn_35 rfl ?_
      obtain ⟨v5, ev5, h⟩ := Option.bind_eq_some_iff.mp h
      refine kv_gR gfX12_7 dX12_turn_36 ev5 ?_
      refine kw_iconst (v := nI 4) dX12_turn_39 (by decide) ?_
      obtain ⟨v6, ev6, h⟩ := Option.bind_eq_some_iff.mp h
      refine kv_ldI dX12_turn_40 ev6 ?_
      have h := Option.some.inj h
      subst h
      exact kw_iret rfl dX12_turn_41 hK
    · have h := (if_pos c7).symm.trans h
      refine kw_ldc (v := (-1000001)) dX12_turn_22 ckX12_52 ?_
      have h := Option.some.inj h
      subst h
      exact kw_iret rfl dX12_turn_24 hK
  · have h := (if_pos c8).symm.trans h
    refine kw_ldc (v := (-1000002)) dX12_turn_7 ckX12_139 ?_
    have h := Option.some.inj h
    subst h
    exact kw_iret rfl dX12_turn_9 hK
/-! KitchenWheelsModel.done(II)I -/
def X12_done_F (hp : kw_H) (x0 : Nat) (x1 : Int32) (x2 : Int32) : Option (Int32) :=
  (kp_gI hp x0 [11] 1).bind fun v1 =>
  (if v1 = 0 then
  some ((-1000002))
else
  (X12_isSix_F hp x1).bind fun r2 =>
  (if r2 = 0 then
  some ((-1000001))
else
  (X12_isSix_F hp x2).bind fun r3 =>
  (if r3 = 0 then
  some ((-1000001))
else
  (kp_gR hp x0 [11] 0).bind fun v4 =>
  (kp_ldI hp v4 (((nI 30) + ((nI 6) * x1)) + x2)).bind fun v5 =>
  some (v5))))
set_option maxRecDepth 100000 in
set_option maxHeartbeats 4000000 in
theorem X12_done_c (G : kw_G) (hp : kw_H) (x0 : Nat) (x1 : Int32) (x2 : Int32) (r : Int32) (h : X12_done_F hp x0 x1 x2 = some r) : kw_Met G mX12_done [.ref x0, .int x1, .int x2] hp (fun v h2 => v = some (.int r) ∧ h2 = hp) := by
  refine kw_met (L := [some (.ref x0), some (.int x1), some (.int x2)]) (r := 0) (by decide +kernel) (Nat.le_of_ble_eq_true rfl) rfl ?_
  unfold X12_done_F at h
  obtain ⟨Q, hQ⟩ : ∃ Q : Option Value → kw_H → Prop, Q = (fun v h2 => v = some (.int r) ∧ h2 = hp) := ⟨_, rfl⟩
  have hK : Q (some (.int r)) hp := by rw [hQ]; exact ⟨rfl, rfl⟩
  rw [← hQ]
  clear hQ
  refine kw_aload_n dX12_done_0 rfl ?_
  obtain ⟨v1, ev1, h⟩ := Option.bind_eq_some_iff.mp h
  refine kv_gI gfX12_132 dX12_done_1 ev1 ?_
  refine kw_if_ne 10 dX12_done_4 (by decide) (fun c8 => ?_) (fun c8 => ?_)
  · have h := (if_neg c8).symm.trans h
    refine kw_iload_n dX12_done_10 rfl ?_
    obtain ⟨r2, er2, h⟩ := Option.bind_eq_some_iff.mp h
    refine kw_callS (As := [.int x1]) (S := []) cbX12_done_X12_isSix lkX12_176 stX12_isSix rfl rfl (Nat.le_of_ble_eq_true rfl) dX12_done_11 (X12_isSix_c G hp x1 _ er2) (fun vv hh hq => ?_)
    rw [hq.1, hq.2]
    show kw_V G mX12_done 14 [some (.ref x0), some (.int x1), some (.int x2)] [.int r2] hp Q
    refine kw_if_eq 41 dX12_done_14 (by decide) (fun c7 => ?_) (fun c7 => ?_)
    · have h := (if_pos c7).symm.trans h
      refine kw_ldc (v := (-1000001)) dX12_done_41 ckX12_52 ?_
      have h := Option.some.inj h
      subst h
      exact kw_iret rfl dX12_done_43 hK
    · have h := (if_neg c7).symm.trans h
      refine kw_iload_n dX12_done_17 rfl ?_
      obtain ⟨r3, er3, h⟩ := Option.bind_eq_some_iff.mp h
      refine kw_callS (As := [.int x2]) (S := []) cbX12_done_X12_isSix lkX12_176 stX12_isSix rfl rfl (Nat.le_of_ble_eq_true rfl) dX12_done_18 (X12_isSix_c G hp x2 _ er3) (fun vv hh hq => ?_)
      rw [hq.1, hq.2]
      show kw_V G mX12_done 21 [some (.ref x0), some (.int x1), some (.int x2)] [.int r3] hp Q
      refine kw_if_eq 41 dX12_done_21 (by decide) (fun c6 => ?_) (fun c6 => ?_)
      · have h := (if_pos c6).symm.trans h
        refine kw_ldc (v := (-1000001)) dX12_done_41 ckX12_52 ?_
        have h := Option.some.inj h
        subst h
        exact kw_iret rfl dX12_done_43 hK
      · have h := (if_neg c6).symm.trans h
        refine kw_aload_n dX12_done_24 rfl ?_
        obtain ⟨v4, ev4, h⟩ := Option.bind_eq_some_iff.mp h
        refine kv_gR gfX12_7 dX12_done_25 ev4 ?_
        refine kw_bipush (v := nI 30) dX12_done_28 (by decide) ?_
        refine kw_bipush (v := nI 6) dX12_done_30 (by decide) ?_
        refine kw_iload_n dX12_done_32 rfl ?_
        refine kw_imul dX12_done_33 ?_
        refine kw_iadd dX12_done_34 ?_
        refine kw_iload_n dX12_done_35 rfl ?_
        refine kw_iadd dX12_done_36 ?_
        obtain ⟨v5, ev5, h⟩ := Option.bind_eq_some_iff.mp h
        refine kv_ldI dX12_done_37 ev5 ?_
        refine kw_goto 43 dX12_done_38 (by decide) ?_
        have h := Option.some.inj h
        subst h
        exact kw_iret rfl dX12_done_43 hK
  · have h := (if_pos c8).symm.trans h
    refine kw_ldc (v := (-1000002)) dX12_done_7 ckX12_139 ?_
    have h := Option.some.inj h
    subst h
    exact kw_iret rfl dX12_done_9 hK
/-! KitchenWheelsModel.slot(II)I -/
def X12_slot_J61 (hp : kw_H) (x0 : Nat) (x1 : Int32) (x2 : Int32) (s0 : Int32) : Option (Int32) :=
  (if s0 = 0 then
  some ((-1000000))
else
  (if (nI 2) ≤ x2 then
  ((kp_ob hp x0 11).bind fun _ => X12_jobOf_F hp x0 (nI 0) x1).bind fun r6 =>
  (if r6 = ((-1000000)) then
  some (nI 6)
else
  ((kp_ob hp x0 11).bind fun _ => X12_jobOf_F hp x0 (nI 0) x1).bind fun r7 =>
  some (r7))
else
  (if x2 = 0 then
  (kp_gR hp x0 [11] 0).bind fun v11 =>
  (kp_ldI hp v11 ((nI 6) + x1)).bind fun v12 =>
  some (v12)
else
  (kp_gR hp x0 [11] 0).bind fun v9 =>
  (kp_ldI hp v9 ((nI 14) + x1)).bind fun v10 =>
  some (v10))))
set_option maxRecDepth 100000 in
set_option maxHeartbeats 4000000 in
theorem X12_slot_J61_t (G : kw_G) (Q : Option Value → kw_H → Prop) (hp : kw_H) (x0 : Nat) (x1 : Int32) (x2 : Int32) (s0 : Int32) (r : Int32) (h : X12_slot_J61 hp x0 x1 x2 s0 = some r) (hK : Q (some (.int r)) hp) : kw_V G mX12_slot 61 [some (.ref x0), some (.int x1), some (.int x2), none] [.int s0] hp Q := by
  unfold X12_slot_J61 at h
  refine kw_istore_n (L' := [some (.ref x0), some (.int x1), some (.int x2), some (.int s0)]) dX12_slot_61 (by decide) rfl ?_
  refine kw_iload_n dX12_slot_62 rfl ?_
  refine kw_if_ne 69 dX12_slot_63 (by decide) (fun c15 => ?_) (fun c15 => ?_)
  · have h := (if_neg c15).symm.trans h
    refine kw_iload_n dX12_slot_69 rfl ?_
    refine kw_iconst (v := nI 2) dX12_slot_70 (by decide) ?_
    refine kw_icmp_ge 100 dX12_slot_71 (by decide) (fun c14 => ?_) (fun c14 => ?_)
    · have h := (if_pos c14).symm.trans h
      refine kw_aload_n dX12_slot_100 rfl ?_
      refine kw_iconst (v := nI 0) dX12_slot_101 (by decide) ?_
      refine kw_iload_n dX12_slot_102 rfl ?_
      obtain ⟨r6, er6, h⟩ := Option.bind_eq_some_iff.mp h
      obtain ⟨ur6, eur6, er6⟩ := Option.bind_eq_some_iff.mp er6
      obtain ⟨fsr6, hor6⟩ := kp_ob_inv eur6
      refine kw_callV (As := [.int (nI 0), .int x1]) (S := []) kcX12 cbX12_slot_X12_jobOf lkX12_145 imX12_jobOf seX12_X12_jobOf_X12_jobOf rfl rfl (Nat.le_of_ble_eq_true rfl) dX12_slot_103 hor6 (X12_jobOf_c G hp x0 (nI 0) x1 _ er6) (fun vv hh hq => ?_)
      rw [hq.1, hq.2]
      show kw_V G mX12_slot 106 [some (.ref x0), some (.int x1), some (.int x2), some (.int s0)] [.int r6] hp Q
      refine kw_ldc (v := (-1000000)) dX12_slot_106 ckX12_99 ?_
      refine kw_icmp_ne 116 dX12_slot_108 (by decide) (fun c8 => ?_) (fun c8 => ?_)
      · have h := (if_neg c8).symm.trans h
        refine kw_aload_n dX12_slot_116 rfl ?_
        refine kw_iconst (v := nI 0) dX12_slot_117 (by decide) ?_
        refine kw_iload_n dX12_slot_118 rfl ?_
        obtain ⟨r7, er7, h⟩ := Option.bind_eq_some_iff.mp h
        obtain ⟨ur7, eur7, er7⟩ := Option.bind_eq_some_iff.mp er7
        obtain ⟨fsr7, hor7⟩ := kp_ob_inv eur7
        refine kw_callV (As := [.int (nI 0), .int x1]) (S := []) kcX12 cbX12_slot_X12_jobOf lkX12_145 imX12_jobOf seX12_X12_jobOf_X12_jobOf rfl rfl (Nat.le_of_ble_eq_true rfl) dX12_slot_119 hor7 (X12_jobOf_c G hp x0 (nI 0) x1 _ er7) (fun vv hh hq => ?_)
        rw [hq.1, hq.2]
        show kw_V G mX12_slot 122 [some (.ref x0), some (.int x1), some (.int x2), some (.int s0)] [.int r7] hp Q
        have h := Option.some.inj h
        subst h
        exact kw_iret rfl dX12_slot_122 hK
      · have h := (if_pos c8).symm.trans h
        refine kw_bipush (v := nI 6) dX12_slot_111 (by decide) ?_
        refine kw_goto 122 dX12_slot_113 (by decide) ?_
        have h := Option.some.inj h
        subst h
        exact kw_iret rfl dX12_slot_122 hK
    · have h := (if_neg c14).symm.trans h
      refine kw_iload_n dX12_slot_74 rfl ?_
      refine kw_if_ne 90 dX12_slot_75 (by decide) (fun c13 => ?_) (fun c13 => ?_)
      · have h := (if_neg c13).symm.trans h
        refine kw_aload_n dX12_slot_90 rfl ?_
        obtain ⟨v9, ev9, h⟩ := Option.bind_eq_some_iff.mp h
        refine kv_gR gfX12_7 dX12_slot_91 ev9 ?_
        refine kw_bipush (v := nI 14) dX12_slot_94 (by decide) ?_
        refine kw_iload_n dX12_slot_96 rfl ?_
        refine kw_iadd dX12_slot_97 ?_
        obtain ⟨v10, ev10, h⟩ := Option.bind_eq_some_iff.mp h
        refine kv_ldI dX12_slot_98 ev10 ?_
        have h := Option.some.inj h
        subst h
        exact kw_iret rfl dX12_slot_99 hK
      · have h := (if_pos c13).symm.trans h
        refine kw_aload_n dX12_slot_78 rfl ?_
        obtain ⟨v11, ev11, h⟩ := Option.bind_eq_some_iff.mp h
        refine kv_gR gfX12_7 dX12_slot_79 ev11 ?_
        refine kw_bipush (v := nI 6) dX12_slot_82 (by decide) ?_
        refine kw_iload_n dX12_slot_84 rfl ?_
        refine kw_iadd dX12_slot_85 ?_
        obtain ⟨v12, ev12, h⟩ := Option.bind_eq_some_iff.mp h
        refine kv_ldI dX12_slot_86 ev12 ?_
        refine kw_goto 99 dX12_slot_87 (by decide) ?_
        have h := Option.some.inj h
        subst h
        exact kw_iret rfl dX12_slot_99 hK
  · have h := (if_pos c15).symm.trans h
    refine kw_ldc (v := (-1000000)) dX12_slot_66 ckX12_99 ?_
    have h := Option.some.inj h
    subst h
    exact kw_iret rfl dX12_slot_68 hK
def X12_slot_J52 (hp : kw_H) (x0 : Nat) (x1 : Int32) (x2 : Int32) (s0 : Int32) (s1 : Nat) (s2 : Int32) : Option (Int32) :=
  (kp_ldI hp s1 s0).bind fun v5 =>
  (if v5 ≤ s2 then
  X12_slot_J61 hp x0 x1 x2 (nI 0)
else
  X12_slot_J61 hp x0 x1 x2 (nI 1))
set_option maxRecDepth 100000 in
set_option maxHeartbeats 4000000 in
theorem X12_slot_J52_t (G : kw_G) (Q : Option Value → kw_H → Prop) (hp : kw_H) (x0 : Nat) (x1 : Int32) (x2 : Int32) (s0 : Int32) (s1 : Nat) (s2 : Int32) (r : Int32) (h : X12_slot_J52 hp x0 x1 x2 s0 s1 s2 = some r) (hK : Q (some (.int r)) hp) : kw_V G mX12_slot 52 [some (.ref x0), some (.int x1), some (.int x2), none] [.int s0, .ref s1, .int s2] hp Q := by
  unfold X12_slot_J52 at h
  obtain ⟨v5, ev5, h⟩ := Option.bind_eq_some_iff.mp h
  refine kv_ldI dX12_slot_52 ev5 ?_
  refine kw_icmp_ge 60 dX12_slot_53 (by decide) (fun c16 => ?_) (fun c16 => ?_)
  · have h := (if_pos c16).symm.trans h
    refine kw_iconst (v := nI 0) dX12_slot_60 (by decide) ?_
    exact X12_slot_J61_t G Q hp x0 x1 x2 (nI 0) _ h hK
  · have h := (if_neg c16).symm.trans h
    refine kw_iconst (v := nI 1) dX12_slot_56 (by decide) ?_
    refine kw_goto 61 dX12_slot_57 (by decide) ?_
    exact X12_slot_J61_t G Q hp x0 x1 x2 (nI 1) _ h hK
def X12_slot_F (hp : kw_H) (x0 : Nat) (x1 : Int32) (x2 : Int32) : Option (Int32) :=
  (kp_gI hp x0 [11] 1).bind fun v1 =>
  (if v1 = 0 then
  some ((-1000002))
else
  (X12_in_F hp (Int32.toInt64 x1) (lN 0) (lN 7)).bind fun r2 =>
  (if r2 = 0 then
  some ((-1000001))
else
  (X12_in_F hp (Int32.toInt64 x2) (lN 0) (lN 2)).bind fun r3 =>
  (if r3 = 0 then
  some ((-1000001))
else
  (kp_gR hp x0 [11] 0).bind fun v4 =>
  (if x2 = (nI 1) then
  X12_slot_J52 hp x0 x1 x2 (nI 1) v4 x1
else
  X12_slot_J52 hp x0 x1 x2 (nI 0) v4 x1))))
set_option maxRecDepth 100000 in
set_option maxHeartbeats 4000000 in
theorem X12_slot_c (G : kw_G) (hp : kw_H) (x0 : Nat) (x1 : Int32) (x2 : Int32) (r : Int32) (h : X12_slot_F hp x0 x1 x2 = some r) : kw_Met G mX12_slot [.ref x0, .int x1, .int x2] hp (fun v h2 => v = some (.int r) ∧ h2 = hp) := by
  refine kw_met (L := [some (.ref x0), some (.int x1), some (.int x2), none]) (r := 1) (by decide +kernel) (Nat.le_of_ble_eq_true rfl) rfl ?_
  unfold X12_slot_F at h
  obtain ⟨Q, hQ⟩ : ∃ Q : Option Value → kw_H → Prop, Q = (fun v h2 => v = some (.int r) ∧ h2 = hp) := ⟨_, rfl⟩
  have hK : Q (some (.int r)) hp := by rw [hQ]; exact ⟨rfl, rfl⟩
  rw [← hQ]
  clear hQ
  refine kw_aload_n dX12_slot_0 rfl ?_
  obtain ⟨v1, ev1, h⟩ := Option.bind_eq_some_iff.mp h
  refine kv_gI gfX12_132 dX12_slot_1 ev1 ?_
  refine kw_if_ne 10 dX12_slot_4 (by decide) (fun c20 => ?_) (fun c20 => ?_)
  · have h := (if_neg c20).symm.trans h
    refine kw_iload_n dX12_slot_10 rfl ?_
    refine kw_i2l dX12_slot_11 ?_
    refine kw_lconst (v := lN 0) dX12_slot_12 (by decide) ?_
    refine kw_ldc2_w (v := lN 7) dX12_slot_13 ckX12_40 ?_
    obtain ⟨r2, er2, h⟩ := Option.bind_eq_some_iff.mp h
    refine kw_callS (As := [.long (Int32.toInt64 x1), .long (lN 0), .long (lN 7)]) (S := []) cbX12_slot_X12_in lkX12_42 stX12_in rfl rfl (Nat.le_of_ble_eq_true rfl) dX12_slot_16 (X12_in_c G hp (Int32.toInt64 x1) (lN 0) (lN 7) _ er2) (fun vv hh hq => ?_)
    rw [hq.1, hq.2]
    show kw_V G mX12_slot 19 [some (.ref x0), some (.int x1), some (.int x2), none] [.int r2] hp Q
    refine kw_if_eq 34 dX12_slot_19 (by decide) (fun c19 => ?_) (fun c19 => ?_)
    · have h := (if_pos c19).symm.trans h
      refine kw_ldc (v := (-1000001)) dX12_slot_34 ckX12_52 ?_
      have h := Option.some.inj h
      subst h
      exact kw_iret rfl dX12_slot_36 hK
    · have h := (if_neg c19).symm.trans h
      refine kw_iload_n dX12_slot_22 rfl ?_
      refine kw_i2l dX12_slot_23 ?_
      refine kw_lconst (v := lN 0) dX12_slot_24 (by decide) ?_
      refine kw_ldc2_w (v := lN 2) dX12_slot_25 ckX12_50 ?_
      obtain ⟨r3, er3, h⟩ := Option.bind_eq_some_iff.mp h
      refine kw_callS (As := [.long (Int32.toInt64 x2), .long (lN 0), .long (lN 2)]) (S := []) cbX12_slot_X12_in lkX12_42 stX12_in rfl rfl (Nat.le_of_ble_eq_true rfl) dX12_slot_28 (X12_in_c G hp (Int32.toInt64 x2) (lN 0) (lN 2) _ er3) (fun vv hh hq => ?_)
      rw [hq.1, hq.2]
      show kw_V G mX12_slot 31 [some (.ref x0), some (.int x1), some (.int x2), none] [.int r3] hp Q
      refine kw_if_ne 37 dX12_slot_31 (by decide) (fun c18 => ?_) (fun c18 => ?_)
      · have h := (if_neg c18).symm.trans h
        refine kw_iload_n dX12_slot_37 rfl ?_
        refine kw_aload_n dX12_slot_38 rfl ?_
        obtain ⟨v4, ev4, h⟩ := Option.bind_eq_some_iff.mp h
        refine kv_gR gfX12_7 dX12_slot_39 ev4 ?_
        refine kw_iload_n dX12_slot_42 rfl ?_
        refine kw_iconst (v := nI 1) dX12_slot_43 (by decide) ?_
        refine kw_icmp_ne 51 dX12_slot_44 (by decide) (fun c17 => ?_) (fun c17 => ?_)
        · have h := (if_neg c17).symm.trans h
          refine kw_iconst (v := nI 0) dX12_slot_51 (by decide) ?_
          exact X12_slot_J52_t G Q hp x0 x1 x2 (nI 0) v4 x1 _ h hK
        · have h := (if_pos c17).symm.trans h
          refine kw_iconst (v := nI 1) dX12_slot_47 (by decide) ?_
          refine kw_goto 52 dX12_slot_48 (by decide) ?_
          exact X12_slot_J52_t G Q hp x0 x1 x2 (nI 1) v4 x1 _ h hK
      · have h := (if_pos c18).symm.trans h
        refine kw_ldc (v := (-1000001)) dX12_slot_34 ckX12_52 ?_
        have h := Option.some.inj h
        subst h
        exact kw_iret rfl dX12_slot_36 hK
  · have h := (if_pos c20).symm.trans h
    refine kw_ldc (v := (-1000002)) dX12_slot_7 ckX12_139 ?_
    have h := Option.some.inj h
    subst h
    exact kw_iret rfl dX12_slot_9 hK
/-! KitchenWheelsModel.isTurner(I)Z -/
def X12_isTurner_F (hp : kw_H) (x0 : Nat) (x1 : Int32) : Option (Int32) :=
  (kp_gR hp x0 [11] 0).bind fun v1 =>
  (kp_ldI hp v1 (nI 2)).bind fun v2 =>
  (X12_in_F hp (Int32.toInt64 x1) (lN 0) (Int32.toInt64 (v2 - (nI 1)))).bind fun r3 =>
  (kp_bool r3).bind fun v4 =>
  some (v4)
set_option maxRecDepth 100000 in
set_option maxHeartbeats 4000000 in
theorem X12_isTurner_c (G : kw_G) (hp : kw_H) (x0 : Nat) (x1 : Int32) (r : Int32) (h : X12_isTurner_F hp x0 x1 = some r) : kw_Met G mX12_isTurner [.ref x0, .int x1] hp (fun v h2 => v = some (.int r) ∧ h2 = hp) := by
  refine kw_met (L := [some (.ref x0), some (.int x1)]) (r := 0) (by decide +kernel) (Nat.le_of_ble_eq_true rfl) rfl ?_
  unfold X12_isTurner_F at h
  obtain ⟨Q, hQ⟩ : ∃ Q : Option Value → kw_H → Prop, Q = (fun v h2 => v = some (.int r) ∧ h2 = hp) := ⟨_, rfl⟩
  have hK : Q (some (.int r)) hp := by rw [hQ]; exact ⟨rfl, rfl⟩
  rw [← hQ]
  clear hQ
  refine kw_iload_n dX12_isTurner_0 rfl ?_
  refine kw_i2l dX12_isTurner_1 ?_
  refine kw_lconst (v := lN 0) dX12_isTurner_2 (by decide) ?_
  refine kw_aload_n dX12_isTurner_3 rfl ?_
  obtain ⟨v1, ev1, h⟩ := Option.bind_eq_some_iff.mp h
  refine kv_gR gfX12_7 dX12_isTurner_4 ev1 ?_
  refine kw_iconst (v := nI 2) dX12_isTurner_7 (by decide) ?_
  obtain ⟨v2, ev2, h⟩ := Option.bind_eq_some_iff.mp h
  refine kv_ldI dX12_isTurner_8 ev2 ?_
  refine kw_iconst (v := nI 1) dX12_isTurner_9 (by decide) ?_
  refine kw_isub dX12_isTurner_10 ?_
  refine kw_i2l dX12_isTurner_11 ?_
  obtain ⟨r3, er3, h⟩ := Option.bind_eq_some_iff.mp h
  refine kw_callS (As := [.long (Int32.toInt64 x1), .long (lN 0), .long (Int32.toInt64 (v2 - (nI 1)))]) (S := []) cbX12_isTurner_X12_in lkX12_42 stX12_in rfl rfl (Nat.le_of_ble_eq_true rfl) dX12_isTurner_12 (X12_in_c G hp (Int32.toInt64 x1) (lN 0) (Int32.toInt64 (v2 - (nI 1))) _ er3) (fun vv hh hq => ?_)
  rw [hq.1, hq.2]
  show kw_V G mX12_isTurner 15 [some (.ref x0), some (.int x1)] [.int r3] hp Q
  obtain ⟨v4, ev4, h⟩ := Option.bind_eq_some_iff.mp h
  obtain ⟨qv4, bv4⟩ := kv_bool ev4
  have h := Option.some.inj h
  subst h
  rw [qv4]
  exact kw_zret rfl bv4 dX12_isTurner_15 hK
/-! KitchenWheelsModel.turner(II)I -/
def X12_turner_F (hp : kw_H) (x0 : Nat) (x1 : Int32) (x2 : Int32) : Option (Int32) :=
  ((kp_ob hp x0 11).bind fun _ => X12_isTurner_F hp x0 x1).bind fun r1 =>
  (if r1 = 0 then
  some ((-1000001))
else
  (X12_in_F hp (Int32.toInt64 x2) (lN 0) (lN 1)).bind fun r2 =>
  (if r2 = 0 then
  some ((-1000001))
else
  (if x2 = 0 then
  (kp_gR hp x0 [11] 0).bind fun v4 =>
  (kp_ldI hp v4 ((nI 26) + x1)).bind fun v5 =>
  some (v5)
else
  ((kp_ob hp x0 11).bind fun _ => X12_farOf_F hp x0 (nI 0) x1).bind fun r3 =>
  some ((nI 1000) + r3))))
set_option maxRecDepth 100000 in
set_option maxHeartbeats 4000000 in
theorem X12_turner_c (G : kw_G) (hp : kw_H) (x0 : Nat) (x1 : Int32) (x2 : Int32) (r : Int32) (h : X12_turner_F hp x0 x1 x2 = some r) : kw_Met G mX12_turner [.ref x0, .int x1, .int x2] hp (fun v h2 => v = some (.int r) ∧ h2 = hp) := by
  refine kw_met (L := [some (.ref x0), some (.int x1), some (.int x2)]) (r := 0) (by decide +kernel) (Nat.le_of_ble_eq_true rfl) rfl ?_
  unfold X12_turner_F at h
  obtain ⟨Q, hQ⟩ : ∃ Q : Option Value → kw_H → Prop, Q = (fun v h2 => v = some (.int r) ∧ h2 = hp) := ⟨_, rfl⟩
  have hK : Q (some (.int r)) hp := by rw [hQ]; exact ⟨rfl, rfl⟩
  rw [← hQ]
  clear hQ
  refine kw_aload_n dX12_turner_0 rfl ?_
  refine kw_iload_n dX12_turner_1 rfl ?_
  obtain ⟨r1, er1, h⟩ := Option.bind_eq_some_iff.mp h
  obtain ⟨ur1, eur1, er1⟩ := Option.bind_eq_some_iff.mp er1
  obtain ⟨fsr1, hor1⟩ := kp_ob_inv eur1
  refine kw_callV (As := [.int x1]) (S := []) kcX12 cbX12_turner_X12_isTurner lkX12_183 imX12_isTurner seX12_X12_isTurner_X12_isTurner rfl rfl (Nat.le_of_ble_eq_true rfl) dX12_turner_2 hor1 (X12_isTurner_c G hp x0 x1 _ er1) (fun vv hh hq => ?_)
  rw [hq.1, hq.2]
  show kw_V G mX12_turner 5 [some (.ref x0), some (.int x1), some (.int x2)] [.int r1] hp Q
  refine kw_if_eq 18 dX12_turner_5 (by decide) (fun c8 => ?_) (fun c8 => ?_)
  · have h := (if_pos c8).symm.trans h
    refine kw_ldc (v := (-1000001)) dX12_turner_18 ckX12_52 ?_
    refine kw_goto 49 dX12_turner_20 (by decide) ?_
    have h := Option.some.inj h
    subst h
    exact kw_iret rfl dX12_turner_49 hK
  · have h := (if_neg c8).symm.trans h
    refine kw_iload_n dX12_turner_8 rfl ?_
    refine kw_i2l dX12_turner_9 ?_
    refine kw_lconst (v := lN 0) dX12_turner_10 (by decide) ?_
    refine kw_lconst (v := lN 1) dX12_turner_11 (by decide) ?_
    obtain ⟨r2, er2, h⟩ := Option.bind_eq_some_iff.mp h
    refine kw_callS (As := [.long (Int32.toInt64 x2), .long (lN 0), .long (lN 1)]) (S := []) cbX12_turner_X12_in lkX12_42 stX12_in rfl rfl (Nat.le_of_ble_eq_true rfl) dX12_turner_12 (X12_in_c G hp (Int32.toInt64 x2) (lN 0) (lN 1) _ er2) (fun vv hh hq => ?_)
    rw [hq.1, hq.2]
    show kw_V G mX12_turner 15 [some (.ref x0), some (.int x1), some (.int x2)] [.int r2] hp Q
    refine kw_if_ne 23 dX12_turner_15 (by decide) (fun c7 => ?_) (fun c7 => ?_)
    · have h := (if_neg c7).symm.trans h
      refine kw_iload_n dX12_turner_23 rfl ?_
      refine kw_if_ne 39 dX12_turner_24 (by decide) (fun c6 => ?_) (fun c6 => ?_)
      · have h := (if_neg c6).symm.trans h
        refine kw_sipush (v := nI 1000) dX12_turner_39 (by decide) ?_
        refine kw_aload_n dX12_turner_42 rfl ?_
        refine kw_iconst (v := nI 0) dX12_turner_43 (by decide) ?_
        refine kw_iload_n dX12_turner_44 rfl ?_
        obtain ⟨r3, er3, h⟩ := Option.bind_eq_some_iff.mp h
        obtain ⟨ur3, eur3, er3⟩ := Option.bind_eq_some_iff.mp er3
        obtain ⟨fsr3, hor3⟩ := kp_ob_inv eur3
        refine kw_callV (As := [.int (nI 0), .int x1]) (S := [.int (nI 1000)]) kcX12 cbX12_turner_X12_farOf lkX12_161 imX12_farOf seX12_X12_farOf_X12_farOf rfl rfl (Nat.le_of_ble_eq_true rfl) dX12_turner_45 hor3 (X12_farOf_c G hp x0 (nI 0) x1 _ er3) (fun vv hh hq => ?_)
        rw [hq.1, hq.2]
        show kw_V G mX12_turner 48 [some (.ref x0), some (.int x1), some (.int x2)] [.int r3, .int (nI 1000)] hp Q
        refine kw_iadd dX12_turner_48 ?_
        have h := Option.some.inj h
        subst h
        exact kw_iret rfl dX12_turner_49 hK
      · have h := (if_pos c6).symm.trans h
        refine kw_aload_n dX12_turner_27 rfl ?_
        obtain ⟨v4, ev4, h⟩ := Option.bind_eq_some_iff.mp h
        refine kv_gR gfX12_7 dX12_turner_28 ev4 ?_
        refine kw_bipush (v := nI 26) dX12_turner_31 (by decide) ?_
        refine kw_iload_n dX12_turner_33 rfl ?_
        refine kw_iadd dX12_turner_34 ?_
        obtain ⟨v5, ev5, h⟩ := Option.bind_eq_some_iff.mp h
        refine kv_ldI dX12_turner_35 ev5 ?_
        refine kw_goto 49 dX12_turner_36 (by decide) ?_
        have h := Option.some.inj h
        subst h
        exact kw_iret rfl dX12_turner_49 hK
    · have h := (if_pos c7).symm.trans h
      refine kw_ldc (v := (-1000001)) dX12_turner_18 ckX12_52 ?_
      refine kw_goto 49 dX12_turner_20 (by decide) ?_
      have h := Option.some.inj h
      subst h
      exact kw_iret rfl dX12_turner_49 hK
/-! KitchenWheelsModel.doesTried(II)Z -/
def X12_doesTried_K5 (G : kw_G) (Q : Option Value → kw_H → Prop) (hp : kw_H) (x0 : Nat) (x1 : Int32) (x2 : Int32) (r : (Int32 × Int32) ⊕ (Int32)) : Prop := match r with
  | .inl z => kw_V G mX12_doesTried 5 [some (.ref x0), some (.int x1), some (.int x2), some (.int z.1), some (.int z.2)] [] hp Q
  | .inr r => Q (some (.int r)) hp
def X12_doesTried_J60 (hp : kw_H) (x3 : Int32) : Option (Int32) :=
  (kp_bool x3).bind fun v3 =>
  some (v3)
set_option maxRecDepth 100000 in
set_option maxHeartbeats 4000000 in
theorem X12_doesTried_J60_t (G : kw_G) (Q : Option Value → kw_H → Prop) (hp : kw_H) (x3 : Int32) (r : Int32) (h : X12_doesTried_J60 hp x3 = some r) (hK : Q (some (.int r)) hp) : kw_V G mX12_doesTried 60 [none, none, none, some (.int x3), none] [] hp Q := by
  unfold X12_doesTried_J60 at h
  refine kw_iload_n dX12_doesTried_60 rfl ?_
  obtain ⟨v3, ev3, h⟩ := Option.bind_eq_some_iff.mp h
  obtain ⟨qv3, bv3⟩ := kv_bool ev3
  have h := Option.some.inj h
  subst h
  rw [qv3]
  exact kw_zret rfl bv3 dX12_doesTried_61 hK
def X12_doesTried_J53 (hp : kw_H) (x0 : Nat) (x1 : Int32) (x2 : Int32) (x4 : Int32) (s0 : Int32) : Option (((Int32 × Int32) ⊕ (Int32))) :=
  some (.inl (s0, x4 + (nI 1)))
set_option maxRecDepth 100000 in
set_option maxHeartbeats 4000000 in
theorem X12_doesTried_J53_t (G : kw_G) (Q : Option Value → kw_H → Prop) (hp : kw_H) (x0 : Nat) (x1 : Int32) (x2 : Int32) (x4 : Int32) (s0 : Int32) (r : ((Int32 × Int32) ⊕ (Int32))) (h : X12_doesTried_J53 hp x0 x1 x2 x4 s0 = some r) (hK : X12_doesTried_K5 G Q hp x0 x1 x2 r) : kw_V G mX12_doesTried 53 [some (.ref x0), some (.int x1), some (.int x2), none, some (.int x4)] [.int s0] hp Q := by
  unfold X12_doesTried_J53 at h
  refine kw_istore_n (L' := [some (.ref x0), some (.int x1), some (.int x2), some (.int s0), some (.int x4)]) dX12_doesTried_53 (by decide) rfl ?_
  refine kv_iinc (w := nI 1) (L' := [some (.ref x0), some (.int x1), some (.int x2), some (.int s0), some (.int (x4 + (nI 1)))]) dX12_doesTried_54 (by decide) rfl (by decide) rfl ?_
  refine kw_goto 5 dX12_doesTried_57 (by decide) ?_
  have h := Option.some.inj h
  subst h
  exact hK
def X12_doesTried_J48 (hp : kw_H) (x0 : Nat) (x1 : Int32) (x2 : Int32) (x4 : Int32) : Option (((Int32 × Int32) ⊕ (Int32))) :=
  X12_doesTried_J53 hp x0 x1 x2 x4 (nI 1)
set_option maxRecDepth 100000 in
set_option maxHeartbeats 4000000 in
theorem X12_doesTried_J48_t (G : kw_G) (Q : Option Value → kw_H → Prop) (hp : kw_H) (x0 : Nat) (x1 : Int32) (x2 : Int32) (x4 : Int32) (r : ((Int32 × Int32) ⊕ (Int32))) (h : X12_doesTried_J48 hp x0 x1 x2 x4 = some r) (hK : X12_doesTried_K5 G Q hp x0 x1 x2 r) : kw_V G mX12_doesTried 48 [some (.ref x0), some (.int x1), some (.int x2), none, some (.int x4)] [] hp Q := by
  unfold X12_doesTried_J48 at h
  refine kw_iconst (v := nI 1) dX12_doesTried_48 (by decide) ?_
  refine kw_goto 53 dX12_doesTried_49 (by decide) ?_
  exact X12_doesTried_J53_t G Q hp x0 x1 x2 x4 (nI 1) _ h hK
def X12_doesTried_J52 (hp : kw_H) (x0 : Nat) (x1 : Int32) (x2 : Int32) (x4 : Int32) : Option (((Int32 × Int32) ⊕ (Int32))) :=
  X12_doesTried_J53 hp x0 x1 x2 x4 (nI 0)
set_option maxRecDepth 100000 in
set_option maxHeartbeats 4000000 in
theorem X12_doesTried_J52_t (G : kw_G) (Q : Option Value → kw_H → Prop) (hp : kw_H) (x0 : Nat) (x1 : Int32) (x2 : Int32) (x4 : Int32) (r : ((Int32 × Int32) ⊕ (Int32))) (h : X12_doesTried_J52 hp x0 x1 x2 x4 = some r) (hK : X12_doesTried_K5 G Q hp x0 x1 x2 r) : kw_V G mX12_doesTried 52 [some (.ref x0), some (.int x1), some (.int x2), none, some (.int x4)] [] hp Q := by
  unfold X12_doesTried_J52 at h
  refine kw_iconst (v := nI 0) dX12_doesTried_52 (by decide) ?_
  exact X12_doesTried_J53_t G Q hp x0 x1 x2 x4 (nI 0) _ h hK
def X12_doesTried_b5 (hp : kw_H) (x0 : Nat) (x1 : Int32) (x2 : Int32) (x3 : Int32) (x4 : Int32) : Option (((Int32 × Int32) ⊕ (Int32))) :=
  (kp_gR hp x0 [11] 0).bind fun v1 =>
  (kp_ldI hp v1 (nI 1782)).bind fun v2 =>
  (if v2 ≤ x4 then
  (X12_doesTried_J60 hp x3).map (fun r => .inr (r))
else
  (if x3 = 0 then
  ((kp_ob hp x0 11).bind fun _ => X12_doerOf_F hp x0 (nI 1782) x4).bind fun r5 =>
  (if r5 = x1 then
  ((kp_ob hp x0 11).bind fun _ => X12_jobOf_F hp x0 (nI 1782) x4).bind fun r6 =>
  (if r6 = x2 then
  X12_doesTried_J48 hp x0 x1 x2 x4
else
  X12_doesTried_J52 hp x0 x1 x2 x4)
else
  X12_doesTried_J52 hp x0 x1 x2 x4)
else
  X12_doesTried_J48 hp x0 x1 x2 x4))
set_option maxRecDepth 100000 in
set_option maxHeartbeats 4000000 in
theorem X12_doesTried_b5_t (G : kw_G) (Q : Option Value → kw_H → Prop) (hp : kw_H) (x0 : Nat) (x1 : Int32) (x2 : Int32) (x3 : Int32) (x4 : Int32) (r : ((Int32 × Int32) ⊕ (Int32))) (h : X12_doesTried_b5 hp x0 x1 x2 x3 x4 = some r) (hK : X12_doesTried_K5 G Q hp x0 x1 x2 r) : kw_V G mX12_doesTried 5 [some (.ref x0), some (.int x1), some (.int x2), some (.int x3), some (.int x4)] [] hp Q := by
  unfold X12_doesTried_b5 at h
  refine kw_iload dX12_doesTried_5 rfl ?_
  refine kw_aload_n dX12_doesTried_7 rfl ?_
  obtain ⟨v1, ev1, h⟩ := Option.bind_eq_some_iff.mp h
  refine kv_gR gfX12_7 dX12_doesTried_8 ev1 ?_
  refine kw_sipush (v := nI 1782) dX12_doesTried_11 (by decide) ?_
  obtain ⟨v2, ev2, h⟩ := Option.bind_eq_some_iff.mp h
  refine kv_ldI dX12_doesTried_14 ev2 ?_
  refine kw_icmp_ge 60 dX12_doesTried_15 (by decide) (fun c10 => ?_) (fun c10 => ?_)
  · have h := (if_pos c10).symm.trans h
    refine kw_mask [false, false, false, true, false] (L' := [none, none, none, some (.int x3), none]) rfl ?_
    obtain ⟨r4, hr4, hrr4⟩ := Option.map_eq_some_iff.mp h
    subst hrr4
    exact X12_doesTried_J60_t G Q hp x3 r4 hr4 hK
  · have h := (if_neg c10).symm.trans h
    refine kw_iload_n dX12_doesTried_18 rfl ?_
    refine kw_if_ne 48 dX12_doesTried_19 (by decide) (fun c9 => ?_) (fun c9 => ?_)
    · have h := (if_neg c9).symm.trans h
      refine kw_mask [true, true, true, false, true] (L' := [some (.ref x0), some (.int x1), some (.int x2), none, some (.int x4)]) rfl ?_
      exact X12_doesTried_J48_t G Q hp x0 x1 x2 x4 _ h hK
    · have h := (if_pos c9).symm.trans h
      refine kw_aload_n dX12_doesTried_22 rfl ?_
      refine kw_sipush (v := nI 1782) dX12_doesTried_23 (by decide) ?_
      refine kw_iload dX12_doesTried_26 rfl ?_
      obtain ⟨r5, er5, h⟩ := Option.bind_eq_some_iff.mp h
      obtain ⟨ur5, eur5, er5⟩ := Option.bind_eq_some_iff.mp er5
      obtain ⟨fsr5, hor5⟩ := kp_ob_inv eur5
      refine kw_callV (As := [.int (nI 1782), .int x4]) (S := []) kcX12 cbX12_doesTried_X12_doerOf lkX12_155 imX12_doerOf seX12_X12_doerOf_X12_doerOf rfl rfl (Nat.le_of_ble_eq_true rfl) dX12_doesTried_28 hor5 (X12_doerOf_c G hp x0 (nI 1782) x4 _ er5) (fun vv hh hq => ?_)
      rw [hq.1, hq.2]
      show kw_V G mX12_doesTried 31 [some (.ref x0), some (.int x1), some (.int x2), some (.int x3), some (.int x4)] [.int r5] hp Q
      refine kw_iload_n dX12_doesTried_31 rfl ?_
      refine kw_icmp_ne 52 dX12_doesTried_32 (by decide) (fun c8 => ?_) (fun c8 => ?_)
      · have h := (if_neg c8).symm.trans h
        refine kw_mask [true, true, true, false, true] (L' := [some (.ref x0), some (.int x1), some (.int x2), none, some (.int x4)]) rfl ?_
        exact X12_doesTried_J52_t G Q hp x0 x1 x2 x4 _ h hK
      · have h := (if_pos c8).symm.trans h
        refine kw_aload_n dX12_doesTried_35 rfl ?_
        refine kw_sipush (v := nI 1782) dX12_doesTried_36 (by decide) ?_
        refine kw_iload dX12_doesTried_39 rfl ?_
        obtain ⟨r6, er6, h⟩ := Option.bind_eq_some_iff.mp h
        obtain ⟨ur6, eur6, er6⟩ := Option.bind_eq_some_iff.mp er6
        obtain ⟨fsr6, hor6⟩ := kp_ob_inv eur6
        refine kw_callV (As := [.int (nI 1782), .int x4]) (S := []) kcX12 cbX12_doesTried_X12_jobOf lkX12_145 imX12_jobOf seX12_X12_jobOf_X12_jobOf rfl rfl (Nat.le_of_ble_eq_true rfl) dX12_doesTried_41 hor6 (X12_jobOf_c G hp x0 (nI 1782) x4 _ er6) (fun vv hh hq => ?_)
        rw [hq.1, hq.2]
        show kw_V G mX12_doesTried 44 [some (.ref x0), some (.int x1), some (.int x2), some (.int x3), some (.int x4)] [.int r6] hp Q
        refine kw_iload_n dX12_doesTried_44 rfl ?_
        refine kw_icmp_ne 52 dX12_doesTried_45 (by decide) (fun c7 => ?_) (fun c7 => ?_)
        · have h := (if_neg c7).symm.trans h
          refine kw_mask [true, true, true, false, true] (L' := [some (.ref x0), some (.int x1), some (.int x2), none, some (.int x4)]) rfl ?_
          exact X12_doesTried_J52_t G Q hp x0 x1 x2 x4 _ h hK
        · have h := (if_pos c7).symm.trans h
          refine kw_mask [true, true, true, false, true] (L' := [some (.ref x0), some (.int x1), some (.int x2), none, some (.int x4)]) rfl ?_
          exact X12_doesTried_J48_t G Q hp x0 x1 x2 x4 _ h hK
def X12_doesTried_B5 (hp : kw_H) (x0 : Nat) (x1 : Int32) (x2 : Int32) (z : Int32 × Int32) : Option (((Int32 × Int32) ⊕ (Int32))) := X12_doesTried_b5 hp x0 x1 x2 z.1 z.2
theorem X12_doesTried_L5_t (G : kw_G) (Q : Option Value → kw_H → Prop) (hp : kw_H) (x0 : Nat) (x1 : Int32) (x2 : Int32) (n : Nat) (z : Int32 × Int32) (r : Int32) (h : kp_lp (X12_doesTried_B5 hp x0 x1 x2) n z = some r) (hK : Q (some (.int r)) hp) : kw_V G mX12_doesTried 5 [some (.ref x0), some (.int x1), some (.int x2), some (.int z.1), some (.int z.2)] [] hp Q :=
  kv_lp _ (fun z => kw_V G mX12_doesTried 5 [some (.ref x0), some (.int x1), some (.int x2), some (.int z.1), some (.int z.2)] [] hp Q) (fun r => Q (some (.int r)) hp) (fun z x hb hx => X12_doesTried_b5_t G Q hp x0 x1 x2 z.1 z.2 x hb (by cases x <;> exact hx)) n z r h hK
def X12_doesTried_F (hp : kw_H) (x0 : Nat) (x1 : Int32) (x2 : Int32) : Option (Int32) :=
  kp_lp (X12_doesTried_B5 hp x0 x1 x2) 2000 (nI 0, nI 0)
set_option maxRecDepth 100000 in
set_option maxHeartbeats 4000000 in
theorem X12_doesTried_c (G : kw_G) (hp : kw_H) (x0 : Nat) (x1 : Int32) (x2 : Int32) (r : Int32) (h : X12_doesTried_F hp x0 x1 x2 = some r) : kw_Met G mX12_doesTried [.ref x0, .int x1, .int x2] hp (fun v h2 => v = some (.int r) ∧ h2 = hp) := by
  refine kw_met (L := [some (.ref x0), some (.int x1), some (.int x2), none, none]) (r := 2) (by decide +kernel) (Nat.le_of_ble_eq_true rfl) rfl ?_
  unfold X12_doesTried_F at h
  obtain ⟨Q, hQ⟩ : ∃ Q : Option Value → kw_H → Prop, Q = (fun v h2 => v = some (.int r) ∧ h2 = hp) := ⟨_, rfl⟩
  have hK : Q (some (.int r)) hp := by rw [hQ]; exact ⟨rfl, rfl⟩
  rw [← hQ]
  clear hQ
  refine kw_iconst (v := nI 0) dX12_doesTried_0 (by decide) ?_
  refine kw_istore_n (L' := [some (.ref x0), some (.int x1), some (.int x2), some (.int (nI 0)), none]) dX12_doesTried_1 (by decide) rfl ?_
  refine kw_iconst (v := nI 0) dX12_doesTried_2 (by decide) ?_
  refine kw_istore (L' := [some (.ref x0), some (.int x1), some (.int x2), some (.int (nI 0)), some (.int (nI 0))]) dX12_doesTried_3 (by decide) rfl ?_
  exact X12_doesTried_L5_t G Q hp x0 x1 x2 _ (nI 0, nI 0) _ h hK
/-! KitchenWheelsModel.hasJobs(II)I -/
def X12_hasJobs_K42 (G : kw_G) (Q : Option Value → kw_H → Prop) (hp : kw_H) (x0 : Nat) (x1 : Int32) (r : (Int32 × Int32) ⊕ (Int32 × kw_H)) : Prop := match r with
  | .inl z => kw_V G mX12_hasJobs 42 [some (.ref x0), some (.int x1), none, some (.int z.1), some (.int z.2)] [] hp Q
  | .inr r => Q (some (.int r.1)) r.2
def X12_hasJobs_J76 (hp : kw_H) (x3 : Int32) : Option (Int32 × kw_H) :=
  some ((x3, hp))
set_option maxRecDepth 100000 in
set_option maxHeartbeats 4000000 in
theorem X12_hasJobs_J76_t (G : kw_G) (Q : Option Value → kw_H → Prop) (hp : kw_H) (x3 : Int32) (r : Int32 × kw_H) (h : X12_hasJobs_J76 hp x3 = some r) (hK : Q (some (.int r.1)) r.2) : kw_V G mX12_hasJobs 76 [none, none, none, some (.int x3), none] [] hp Q := by
  unfold X12_hasJobs_J76 at h
  refine kw_iload_n dX12_hasJobs_76 rfl ?_
  have h := Option.some.inj h
  subst h
  exact kw_iret rfl dX12_hasJobs_77 hK
def X12_hasJobs_J68 (hp : kw_H) (x0 : Nat) (x1 : Int32) (x4 : Int32) (s0 : Int32) (s1 : Int32) : Option (((Int32 × Int32) ⊕ (Int32 × kw_H))) :=
  some (.inl (s1 ||| s0, x4 + (nI 1)))
set_option maxRecDepth 100000 in
set_option maxHeartbeats 4000000 in
theorem X12_hasJobs_J68_t (G : kw_G) (Q : Option Value → kw_H → Prop) (hp : kw_H) (x0 : Nat) (x1 : Int32) (x4 : Int32) (s0 : Int32) (s1 : Int32) (r : ((Int32 × Int32) ⊕ (Int32 × kw_H))) (h : X12_hasJobs_J68 hp x0 x1 x4 s0 s1 = some r) (hK : X12_hasJobs_K42 G Q hp x0 x1 r) : kw_V G mX12_hasJobs 68 [some (.ref x0), some (.int x1), none, none, some (.int x4)] [.int s0, .int s1] hp Q := by
  unfold X12_hasJobs_J68 at h
  refine kw_ior dX12_hasJobs_68 ?_
  refine kw_istore_n (L' := [some (.ref x0), some (.int x1), none, some (.int (s1 ||| s0)), some (.int x4)]) dX12_hasJobs_69 (by decide) rfl ?_
  refine kv_iinc (w := nI 1) (L' := [some (.ref x0), some (.int x1), none, some (.int (s1 ||| s0)), some (.int (x4 + (nI 1)))]) dX12_hasJobs_70 (by decide) rfl (by decide) rfl ?_
  refine kw_goto 42 dX12_hasJobs_73 (by decide) ?_
  have h := Option.some.inj h
  subst h
  exact hK
def X12_hasJobs_b42 (hp : kw_H) (x0 : Nat) (x1 : Int32) (x3 : Int32) (x4 : Int32) : Option (((Int32 × Int32) ⊕ (Int32 × kw_H))) :=
  (if (nI 6) ≤ x4 then
  (X12_hasJobs_J76 hp x3).map (fun r => .inr (r))
else
  ((kp_ob hp x0 11).bind fun _ => X12_doesTried_F hp x0 x1 x4).bind fun r6 =>
  (if r6 = 0 then
  X12_hasJobs_J68 hp x0 x1 x4 (nI 0) x3
else
  X12_hasJobs_J68 hp x0 x1 x4 ((nI 1) <<< (x4 &&& 31)) x3))
set_option maxRecDepth 100000 in
set_option maxHeartbeats 4000000 in
theorem X12_hasJobs_b42_t (G : kw_G) (Q : Option Value → kw_H → Prop) (hp : kw_H) (x0 : Nat) (x1 : Int32) (x3 : Int32) (x4 : Int32) (r : ((Int32 × Int32) ⊕ (Int32 × kw_H))) (h : X12_hasJobs_b42 hp x0 x1 x3 x4 = some r) (hK : X12_hasJobs_K42 G Q hp x0 x1 r) : kw_V G mX12_hasJobs 42 [some (.ref x0), some (.int x1), none, some (.int x3), some (.int x4)] [] hp Q := by
  unfold X12_hasJobs_b42 at h
  refine kw_iload dX12_hasJobs_42 rfl ?_
  refine kw_bipush (v := nI 6) dX12_hasJobs_44 (by decide) ?_
  refine kw_icmp_ge 76 dX12_hasJobs_46 (by decide) (fun c8 => ?_) (fun c8 => ?_)
  · have h := (if_pos c8).symm.trans h
    refine kw_mask [false, false, true, true, false] (L' := [none, none, none, some (.int x3), none]) rfl ?_
    obtain ⟨r5, hr5, hrr5⟩ := Option.map_eq_some_iff.mp h
    subst hrr5
    exact X12_hasJobs_J76_t G Q hp x3 r5 hr5 hK
  · have h := (if_neg c8).symm.trans h
    refine kw_iload_n dX12_hasJobs_49 rfl ?_
    refine kw_aload_n dX12_hasJobs_50 rfl ?_
    refine kw_iload_n dX12_hasJobs_51 rfl ?_
    refine kw_iload dX12_hasJobs_52 rfl ?_
    obtain ⟨r6, er6, h⟩ := Option.bind_eq_some_iff.mp h
    obtain ⟨ur6, eur6, er6⟩ := Option.bind_eq_some_iff.mp er6
    obtain ⟨fsr6, hor6⟩ := kp_ob_inv eur6
    refine kw_callV (As := [.int x1, .int x4]) (S := [.int x3]) kcX12 cbX12_hasJobs_X12_doesTried lkX12_191 imX12_doesTried seX12_X12_doesTried_X12_doesTried rfl rfl (Nat.le_of_ble_eq_true rfl) dX12_hasJobs_54 hor6 (X12_doesTried_c G hp x0 x1 x4 _ er6) (fun vv hh hq => ?_)
    rw [hq.1, hq.2]
    show kw_V G mX12_hasJobs 57 [some (.ref x0), some (.int x1), none, some (.int x3), some (.int x4)] [.int r6, .int x3] hp Q
    refine kw_if_eq 67 dX12_hasJobs_57 (by decide) (fun c7 => ?_) (fun c7 => ?_)
    · have h := (if_pos c7).symm.trans h
      refine kw_iconst (v := nI 0) dX12_hasJobs_67 (by decide) ?_
      refine kw_mask [true, true, true, false, true] (L' := [some (.ref x0), some (.int x1), none, none, some (.int x4)]) rfl ?_
      exact X12_hasJobs_J68_t G Q hp x0 x1 x4 (nI 0) x3 _ h hK
    · have h := (if_neg c7).symm.trans h
      refine kw_iconst (v := nI 1) dX12_hasJobs_60 (by decide) ?_
      refine kw_iload dX12_hasJobs_61 rfl ?_
      refine kw_ishl dX12_hasJobs_63 ?_
      refine kw_goto 68 dX12_hasJobs_64 (by decide) ?_
      refine kw_mask [true, true, true, false, true] (L' := [some (.ref x0), some (.int x1), none, none, some (.int x4)]) rfl ?_
      exact X12_hasJobs_J68_t G Q hp x0 x1 x4 ((nI 1) <<< (x4 &&& 31)) x3 _ h hK
def X12_hasJobs_B42 (hp : kw_H) (x0 : Nat) (x1 : Int32) (z : Int32 × Int32) : Option (((Int32 × Int32) ⊕ (Int32 × kw_H))) := X12_hasJobs_b42 hp x0 x1 z.1 z.2
theorem X12_hasJobs_L42_t (G : kw_G) (Q : Option Value → kw_H → Prop) (hp : kw_H) (x0 : Nat) (x1 : Int32) (n : Nat) (z : Int32 × Int32) (r : Int32 × kw_H) (h : kp_lp (X12_hasJobs_B42 hp x0 x1) n z = some r) (hK : Q (some (.int r.1)) r.2) : kw_V G mX12_hasJobs 42 [some (.ref x0), some (.int x1), none, some (.int z.1), some (.int z.2)] [] hp Q :=
  kv_lp _ (fun z => kw_V G mX12_hasJobs 42 [some (.ref x0), some (.int x1), none, some (.int z.1), some (.int z.2)] [] hp Q) (fun r => Q (some (.int r.1)) r.2) (fun z x hb hx => X12_hasJobs_b42_t G Q hp x0 x1 z.1 z.2 x hb (by cases x <;> exact hx)) n z r h hK
def X12_hasJobs_F (hp : kw_H) (x0 : Nat) (x1 : Int32) (x2 : Int32) : Option (Int32 × kw_H) :=
  (kp_gI hp x0 [11] 1).bind fun v1 =>
  (if v1 = 0 then
  some (((-1000002), hp))
else
  (X12_isSix_F hp x1).bind fun r2 =>
  (if r2 = 0 then
  some (((-1000001), hp))
else
  (X12_in_F hp (Int32.toInt64 x2) (lN 0) (lN 60)).bind fun r3 =>
  (if r3 = 0 then
  some (((-1000001), hp))
else
  ((kp_ob hp x0 11).bind fun _ => X12_layTried_F hp x0 x2).bind fun r4 =>
  kp_lp (X12_hasJobs_B42 r4 x0 x1) 2000 (nI 0, nI 0))))
set_option maxRecDepth 100000 in
set_option maxHeartbeats 4000000 in
theorem X12_hasJobs_c (G : kw_G) (hp : kw_H) (x0 : Nat) (x1 : Int32) (x2 : Int32) (r : Int32 × kw_H) (h : X12_hasJobs_F hp x0 x1 x2 = some r) : kw_Met G mX12_hasJobs [.ref x0, .int x1, .int x2] hp (fun v h2 => v = some (.int r.1) ∧ h2 = r.2) := by
  refine kw_met (L := [some (.ref x0), some (.int x1), some (.int x2), none, none]) (r := 2) (by decide +kernel) (Nat.le_of_ble_eq_true rfl) rfl ?_
  unfold X12_hasJobs_F at h
  obtain ⟨Q, hQ⟩ : ∃ Q : Option Value → kw_H → Prop, Q = (fun v h2 => v = some (.int r.1) ∧ h2 = r.2) := ⟨_, rfl⟩
  have hK : Q (some (.int r.1)) r.2 := by rw [hQ]; exact ⟨rfl, rfl⟩
  rw [← hQ]
  clear hQ
  refine kw_aload_n dX12_hasJobs_0 rfl ?_
  obtain ⟨v1, ev1, h⟩ := Option.bind_eq_some_iff.mp h
  refine kv_gI gfX12_132 dX12_hasJobs_1 ev1 ?_
  refine kw_if_ne 10 dX12_hasJobs_4 (by decide) (fun c11 => ?_) (fun c11 => ?_)
  · have h := (if_neg c11).symm.trans h
    refine kw_iload_n dX12_hasJobs_10 rfl ?_
    obtain ⟨r2, er2, h⟩ := Option.bind_eq_some_iff.mp h
    refine kw_callS (As := [.int x1]) (S := []) cbX12_hasJobs_X12_isSix lkX12_176 stX12_isSix rfl rfl (Nat.le_of_ble_eq_true rfl) dX12_hasJobs_11 (X12_isSix_c G hp x1 _ er2) (fun vv hh hq => ?_)
    rw [hq.1, hq.2]
    show kw_V G mX12_hasJobs 14 [some (.ref x0), some (.int x1), some (.int x2), none, none] [.int r2] hp Q
    refine kw_if_eq 29 dX12_hasJobs_14 (by decide) (fun c10 => ?_) (fun c10 => ?_)
    · have h := (if_pos c10).symm.trans h
      refine kw_ldc (v := (-1000001)) dX12_hasJobs_29 ckX12_52 ?_
      have h := Option.some.inj h
      subst h
      exact kw_iret rfl dX12_hasJobs_31 hK
    · have h := (if_neg c10).symm.trans h
      refine kw_iload_n dX12_hasJobs_17 rfl ?_
      refine kw_i2l dX12_hasJobs_18 ?_
      refine kw_lconst (v := lN 0) dX12_hasJobs_19 (by decide) ?_
      refine kw_ldc2_w (v := lN 60) dX12_hasJobs_20 ckX12_186 ?_
      obtain ⟨r3, er3, h⟩ := Option.bind_eq_some_iff.mp h
      refine kw_callS (As := [.long (Int32.toInt64 x2), .long (lN 0), .long (lN 60)]) (S := []) cbX12_hasJobs_X12_in lkX12_42 stX12_in rfl rfl (Nat.le_of_ble_eq_true rfl) dX12_hasJobs_23 (X12_in_c G hp (Int32.toInt64 x2) (lN 0) (lN 60) _ er3) (fun vv hh hq => ?_)
      rw [hq.1, hq.2]
      show kw_V G mX12_hasJobs 26 [some (.ref x0), some (.int x1), some (.int x2), none, none] [.int r3] hp Q
      refine kw_if_ne 32 dX12_hasJobs_26 (by decide) (fun c9 => ?_) (fun c9 => ?_)
      · have h := (if_neg c9).symm.trans h
        refine kw_aload_n dX12_hasJobs_32 rfl ?_
        refine kw_iload_n dX12_hasJobs_33 rfl ?_
        obtain ⟨r4, er4, h⟩ := Option.bind_eq_some_iff.mp h
        obtain ⟨ur4, eur4, er4⟩ := Option.bind_eq_some_iff.mp er4
        obtain ⟨fsr4, hor4⟩ := kp_ob_inv eur4
        refine kw_callV (As := [.int x2]) (S := []) kcX12 cbX12_hasJobs_X12_layTried lkX12_188 imX12_layTried seX12_X12_layTried_X12_layTried rfl rfl (Nat.le_of_ble_eq_true rfl) dX12_hasJobs_34 hor4 (X12_layTried_c G hp x0 x2 _ er4) (fun vv hh hq => ?_)
        rw [hq.1, hq.2]
        show kw_V G mX12_hasJobs 37 [some (.ref x0), some (.int x1), some (.int x2), none, none] [] r4 Q
        refine kw_iconst (v := nI 0) dX12_hasJobs_37 (by decide) ?_
        refine kw_istore_n (L' := [some (.ref x0), some (.int x1), some (.int x2), some (.int (nI 0)), none]) dX12_hasJobs_38 (by decide) rfl ?_
        refine kw_iconst (v := nI 0) dX12_hasJobs_39 (by decide) ?_
        refine kw_istore (L' := [some (.ref x0), some (.int x1), some (.int x2), some (.int (nI 0)), some (.int (nI 0))]) dX12_hasJobs_40 (by decide) rfl ?_
        refine kw_mask [true, true, false, true, true] (L' := [some (.ref x0), some (.int x1), none, some (.int (nI 0)), some (.int (nI 0))]) rfl ?_
        exact X12_hasJobs_L42_t G Q r4 x0 x1 _ (nI 0, nI 0) _ h hK
      · have h := (if_pos c9).symm.trans h
        refine kw_ldc (v := (-1000001)) dX12_hasJobs_29 ckX12_52 ?_
        have h := Option.some.inj h
        subst h
        exact kw_iret rfl dX12_hasJobs_31 hK
  · have h := (if_pos c11).symm.trans h
    refine kw_ldc (v := (-1000002)) dX12_hasJobs_7 ckX12_139 ?_
    have h := Option.some.inj h
    subst h
    exact kw_iret rfl dX12_hasJobs_9 hK
/-! KitchenWheelsModel.doersTried(I)I -/
def X12_doersTried_K4 (G : kw_G) (Q : Option Value → kw_H → Prop) (hp : kw_H) (x0 : Nat) (x1 : Int32) (r : (Int32 × Int32) ⊕ (Int32)) : Prop := match r with
  | .inl z => kw_V G mX12_doersTried 4 [some (.ref x0), some (.int x1), some (.int z.1), some (.int z.2)] [] hp Q
  | .inr r => Q (some (.int r)) hp
def X12_doersTried_J35 (hp : kw_H) (x2 : Int32) : Option (Int32) :=
  some (x2)
set_option maxRecDepth 100000 in
set_option maxHeartbeats 4000000 in
theorem X12_doersTried_J35_t (G : kw_G) (Q : Option Value → kw_H → Prop) (hp : kw_H) (x2 : Int32) (r : Int32) (h : X12_doersTried_J35 hp x2 = some r) (hK : Q (some (.int r)) hp) : kw_V G mX12_doersTried 35 [none, none, some (.int x2), none] [] hp Q := by
  unfold X12_doersTried_J35 at h
  refine kw_iload_n dX12_doersTried_35 rfl ?_
  have h := Option.some.inj h
  subst h
  exact kw_iret rfl dX12_doersTried_36 hK
def X12_doersTried_J27 (hp : kw_H) (x0 : Nat) (x1 : Int32) (x3 : Int32) (s0 : Int32) (s1 : Int32) : Option (((Int32 × Int32) ⊕ (Int32))) :=
  some (.inl (s1 ||| s0, x3 + (nI 1)))
set_option maxRecDepth 100000 in
set_option maxHeartbeats 4000000 in
theorem X12_doersTried_J27_t (G : kw_G) (Q : Option Value → kw_H → Prop) (hp : kw_H) (x0 : Nat) (x1 : Int32) (x3 : Int32) (s0 : Int32) (s1 : Int32) (r : ((Int32 × Int32) ⊕ (Int32))) (h : X12_doersTried_J27 hp x0 x1 x3 s0 s1 = some r) (hK : X12_doersTried_K4 G Q hp x0 x1 r) : kw_V G mX12_doersTried 27 [some (.ref x0), some (.int x1), none, some (.int x3)] [.int s0, .int s1] hp Q := by
  unfold X12_doersTried_J27 at h
  refine kw_ior dX12_doersTried_27 ?_
  refine kw_istore_n (L' := [some (.ref x0), some (.int x1), some (.int (s1 ||| s0)), some (.int x3)]) dX12_doersTried_28 (by decide) rfl ?_
  refine kv_iinc (w := nI 1) (L' := [some (.ref x0), some (.int x1), some (.int (s1 ||| s0)), some (.int (x3 + (nI 1)))]) dX12_doersTried_29 (by decide) rfl (by decide) rfl ?_
  refine kw_goto 4 dX12_doersTried_32 (by decide) ?_
  have h := Option.some.inj h
  subst h
  exact hK
def X12_doersTried_b4 (hp : kw_H) (x0 : Nat) (x1 : Int32) (x2 : Int32) (x3 : Int32) : Option (((Int32 × Int32) ⊕ (Int32))) :=
  (if (nI 6) ≤ x3 then
  (X12_doersTried_J35 hp x2).map (fun r => .inr (r))
else
  ((kp_ob hp x0 11).bind fun _ => X12_doesTried_F hp x0 x3 x1).bind fun r2 =>
  (if r2 = 0 then
  X12_doersTried_J27 hp x0 x1 x3 (nI 0) x2
else
  X12_doersTried_J27 hp x0 x1 x3 ((nI 1) <<< (x3 &&& 31)) x2))
set_option maxRecDepth 100000 in
set_option maxHeartbeats 4000000 in
theorem X12_doersTried_b4_t (G : kw_G) (Q : Option Value → kw_H → Prop) (hp : kw_H) (x0 : Nat) (x1 : Int32) (x2 : Int32) (x3 : Int32) (r : ((Int32 × Int32) ⊕ (Int32))) (h : X12_doersTried_b4 hp x0 x1 x2 x3 = some r) (hK : X12_doersTried_K4 G Q hp x0 x1 r) : kw_V G mX12_doersTried 4 [some (.ref x0), some (.int x1), some (.int x2), some (.int x3)] [] hp Q := by
  unfold X12_doersTried_b4 at h
  refine kw_iload_n dX12_doersTried_4 rfl ?_
  refine kw_bipush (v := nI 6) dX12_doersTried_5 (by decide) ?_
  refine kw_icmp_ge 35 dX12_doersTried_7 (by decide) (fun c4 => ?_) (fun c4 => ?_)
  · have h := (if_pos c4).symm.trans h
    refine kw_mask [false, false, true, false] (L' := [none, none, some (.int x2), none]) rfl ?_
    obtain ⟨r1, hr1, hrr1⟩ := Option.map_eq_some_iff.mp h
    subst hrr1
    exact X12_doersTried_J35_t G Q hp x2 r1 hr1 hK
  · have h := (if_neg c4).symm.trans h
    refine kw_iload_n dX12_doersTried_10 rfl ?_
    refine kw_aload_n dX12_doersTried_11 rfl ?_
    refine kw_iload_n dX12_doersTried_12 rfl ?_
    refine kw_iload_n dX12_doersTried_13 rfl ?_
    obtain ⟨r2, er2, h⟩ := Option.bind_eq_some_iff.mp h
    obtain ⟨ur2, eur2, er2⟩ := Option.bind_eq_some_iff.mp er2
    obtain ⟨fsr2, hor2⟩ := kp_ob_inv eur2
    refine kw_callV (As := [.int x3, .int x1]) (S := [.int x2]) kcX12 cbX12_doersTried_X12_doesTried lkX12_191 imX12_doesTried seX12_X12_doesTried_X12_doesTried rfl rfl (Nat.le_of_ble_eq_true rfl) dX12_doersTried_14 hor2 (X12_doesTried_c G hp x0 x3 x1 _ er2) (fun vv hh hq => ?_)
    rw [hq.1, hq.2]
    show kw_V G mX12_doersTried 17 [some (.ref x0), some (.int x1), some (.int x2), some (.int x3)] [.int r2, .int x2] hp Q
    refine kw_if_eq 26 dX12_doersTried_17 (by decide) (fun c3 => ?_) (fun c3 => ?_)
    · have h := (if_pos c3).symm.trans h
      refine kw_iconst (v := nI 0) dX12_doersTried_26 (by decide) ?_
      refine kw_mask [true, true, false, true] (L' := [some (.ref x0), some (.int x1), none, some (.int x3)]) rfl ?_
      exact X12_doersTried_J27_t G Q hp x0 x1 x3 (nI 0) x2 _ h hK
    · have h := (if_neg c3).symm.trans h
      refine kw_iconst (v := nI 1) dX12_doersTried_20 (by decide) ?_
      refine kw_iload_n dX12_doersTried_21 rfl ?_
      refine kw_ishl dX12_doersTried_22 ?_
      refine kw_goto 27 dX12_doersTried_23 (by decide) ?_
      refine kw_mask [true, true, false, true] (L' := [some (.ref x0), some (.int x1), none, some (.int x3)]) rfl ?_
      exact X12_doersTried_J27_t G Q hp x0 x1 x3 ((nI 1) <<< (x3 &&& 31)) x2 _ h hK
def X12_doersTried_B4 (hp : kw_H) (x0 : Nat) (x1 : Int32) (z : Int32 × Int32) : Option (((Int32 × Int32) ⊕ (Int32))) := X12_doersTried_b4 hp x0 x1 z.1 z.2
theorem X12_doersTried_L4_t (G : kw_G) (Q : Option Value → kw_H → Prop) (hp : kw_H) (x0 : Nat) (x1 : Int32) (n : Nat) (z : Int32 × Int32) (r : Int32) (h : kp_lp (X12_doersTried_B4 hp x0 x1) n z = some r) (hK : Q (some (.int r)) hp) : kw_V G mX12_doersTried 4 [some (.ref x0), some (.int x1), some (.int z.1), some (.int z.2)] [] hp Q :=
  kv_lp _ (fun z => kw_V G mX12_doersTried 4 [some (.ref x0), some (.int x1), some (.int z.1), some (.int z.2)] [] hp Q) (fun r => Q (some (.int r)) hp) (fun z x hb hx => X12_doersTried_b4_t G Q hp x0 x1 z.1 z.2 x hb (by cases x <;> exact hx)) n z r h hK
def X12_doersTried_F (hp : kw_H) (x0 : Nat) (x1 : Int32) : Option (Int32) :=
  kp_lp (X12_doersTried_B4 hp x0 x1) 2000 (nI 0, nI 0)
set_option maxRecDepth 100000 in
set_option maxHeartbeats 4000000 in
theorem X12_doersTried_c (G : kw_G) (hp : kw_H) (x0 : Nat) (x1 : Int32) (r : Int32) (h : X12_doersTried_F hp x0 x1 = some r) : kw_Met G mX12_doersTried [.ref x0, .int x1] hp (fun v h2 => v = some (.int r) ∧ h2 = hp) := by
  refine kw_met (L := [some (.ref x0), some (.int x1), none, none]) (r := 2) (by decide +kernel) (Nat.le_of_ble_eq_true rfl) rfl ?_
  unfold X12_doersTried_F at h
  obtain ⟨Q, hQ⟩ : ∃ Q : Option Value → kw_H → Prop, Q = (fun v h2 => v = some (.int r) ∧ h2 = hp) := ⟨_, rfl⟩
  have hK : Q (some (.int r)) hp := by rw [hQ]; exact ⟨rfl, rfl⟩
  rw [← hQ]
  clear hQ
  refine kw_iconst (v := nI 0) dX12_doersTried_0 (by decide) ?_
  refine kw_istore_n (L' := [some (.ref x0), some (.int x1), some (.int (nI 0)), none]) dX12_doersTried_1 (by decide) rfl ?_
  refine kw_iconst (v := nI 0) dX12_doersTried_2 (by decide) ?_
  refine kw_istore_n (L' := [some (.ref x0), some (.int x1), some (.int (nI 0)), some (.int (nI 0))]) dX12_doersTried_3 (by decide) rfl ?_
  exact X12_doersTried_L4_t G Q hp x0 x1 _ (nI 0, nI 0) _ h hK
/-! KitchenWheelsModel.whoDoes(II)I -/
def X12_whoDoes_F (hp : kw_H) (x0 : Nat) (x1 : Int32) (x2 : Int32) : Option (Int32 × kw_H) :=
  (kp_gI hp x0 [11] 1).bind fun v1 =>
  (if v1 = 0 then
  some (((-1000002), hp))
else
  (X12_isSix_F hp x1).bind fun r2 =>
  (if r2 = 0 then
  some (((-1000001), hp))
else
  (X12_in_F hp (Int32.toInt64 x2) (lN 0) (lN 60)).bind fun r3 =>
  (if r3 = 0 then
  some (((-1000001), hp))
else
  ((kp_ob hp x0 11).bind fun _ => X12_layTried_F hp x0 x2).bind fun r4 =>
  ((kp_ob r4 x0 11).bind fun _ => X12_doersTried_F r4 x0 x1).bind fun r5 =>
  some ((r5, r4)))))
set_option maxRecDepth 100000 in
set_option maxHeartbeats 4000000 in
theorem X12_whoDoes_c (G : kw_G) (hp : kw_H) (x0 : Nat) (x1 : Int32) (x2 : Int32) (r : Int32 × kw_H) (h : X12_whoDoes_F hp x0 x1 x2 = some r) : kw_Met G mX12_whoDoes [.ref x0, .int x1, .int x2] hp (fun v h2 => v = some (.int r.1) ∧ h2 = r.2) := by
  refine kw_met (L := [some (.ref x0), some (.int x1), some (.int x2)]) (r := 0) (by decide +kernel) (Nat.le_of_ble_eq_true rfl) rfl ?_
  unfold X12_whoDoes_F at h
  obtain ⟨Q, hQ⟩ : ∃ Q : Option Value → kw_H → Prop, Q = (fun v h2 => v = some (.int r.1) ∧ h2 = r.2) := ⟨_, rfl⟩
  have hK : Q (some (.int r.1)) r.2 := by rw [hQ]; exact ⟨rfl, rfl⟩
  rw [← hQ]
  clear hQ
  refine kw_aload_n dX12_whoDoes_0 rfl ?_
  obtain ⟨v1, ev1, h⟩ := Option.bind_eq_some_iff.mp h
  refine kv_gI gfX12_132 dX12_whoDoes_1 ev1 ?_
  refine kw_if_ne 10 dX12_whoDoes_4 (by decide) (fun c8 => ?_) (fun c8 => ?_)
  · have h := (if_neg c8).symm.trans h
    refine kw_iload_n dX12_whoDoes_10 rfl ?_
    obtain ⟨r2, er2, h⟩ := Option.bind_eq_some_iff.mp h
    refine kw_callS (As := [.int x1]) (S := []) cbX12_whoDoes_X12_isSix lkX12_176 stX12_isSix rfl rfl (Nat.le_of_ble_eq_true rfl) dX12_whoDoes_11 (X12_isSix_c G hp x1 _ er2) (fun vv hh hq => ?_)
    rw [hq.1, hq.2]
    show kw_V G mX12_whoDoes 14 [some (.ref x0), some (.int x1), some (.int x2)] [.int r2] hp Q
    refine kw_if_eq 29 dX12_whoDoes_14 (by decide) (fun c7 => ?_) (fun c7 => ?_)
    · have h := (if_pos c7).symm.trans h
      refine kw_ldc (v := (-1000001)) dX12_whoDoes_29 ckX12_52 ?_
      have h := Option.some.inj h
      subst h
      exact kw_iret rfl dX12_whoDoes_31 hK
    · have h := (if_neg c7).symm.trans h
      refine kw_iload_n dX12_whoDoes_17 rfl ?_
      refine kw_i2l dX12_whoDoes_18 ?_
      refine kw_lconst (v := lN 0) dX12_whoDoes_19 (by decide) ?_
      refine kw_ldc2_w (v := lN 60) dX12_whoDoes_20 ckX12_186 ?_
      obtain ⟨r3, er3, h⟩ := Option.bind_eq_some_iff.mp h
      refine kw_callS (As := [.long (Int32.toInt64 x2), .long (lN 0), .long (lN 60)]) (S := []) cbX12_whoDoes_X12_in lkX12_42 stX12_in rfl rfl (Nat.le_of_ble_eq_true rfl) dX12_whoDoes_23 (X12_in_c G hp (Int32.toInt64 x2) (lN 0) (lN 60) _ er3) (fun vv hh hq => ?_)
      rw [hq.1, hq.2]
      show kw_V G mX12_whoDoes 26 [some (.ref x0), some (.int x1), some (.int x2)] [.int r3] hp Q
      refine kw_if_ne 32 dX12_whoDoes_26 (by decide) (fun c6 => ?_) (fun c6 => ?_)
      · have h := (if_neg c6).symm.trans h
        refine kw_aload_n dX12_whoDoes_32 rfl ?_
        refine kw_iload_n dX12_whoDoes_33 rfl ?_
        obtain ⟨r4, er4, h⟩ := Option.bind_eq_some_iff.mp h
        obtain ⟨ur4, eur4, er4⟩ := Option.bind_eq_some_iff.mp er4
        obtain ⟨fsr4, hor4⟩ := kp_ob_inv eur4
        refine kw_callV (As := [.int x2]) (S := []) kcX12 cbX12_whoDoes_X12_layTried lkX12_188 imX12_layTried seX12_X12_layTried_X12_layTried rfl rfl (Nat.le_of_ble_eq_true rfl) dX12_whoDoes_34 hor4 (X12_layTried_c G hp x0 x2 _ er4) (fun vv hh hq => ?_)
        rw [hq.1, hq.2]
        show kw_V G mX12_whoDoes 37 [some (.ref x0), some (.int x1), some (.int x2)] [] r4 Q
        refine kw_aload_n dX12_whoDoes_37 rfl ?_
        refine kw_iload_n dX12_whoDoes_38 rfl ?_
        obtain ⟨r5, er5, h⟩ := Option.bind_eq_some_iff.mp h
        obtain ⟨ur5, eur5, er5⟩ := Option.bind_eq_some_iff.mp er5
        obtain ⟨fsr5, hor5⟩ := kp_ob_inv eur5
        refine kw_callV (As := [.int x1]) (S := []) kcX12 cbX12_whoDoes_X12_doersTried lkX12_194 imX12_doersTried seX12_X12_doersTried_X12_doersTried rfl rfl (Nat.le_of_ble_eq_true rfl) dX12_whoDoes_39 hor5 (X12_doersTried_c G r4 x0 x1 _ er5) (fun vv hh hq => ?_)
        rw [hq.1, hq.2]
        show kw_V G mX12_whoDoes 42 [some (.ref x0), some (.int x1), some (.int x2)] [.int r5] r4 Q
        have h := Option.some.inj h
        subst h
        exact kw_iret rfl dX12_whoDoes_42 hK
      · have h := (if_pos c6).symm.trans h
        refine kw_ldc (v := (-1000001)) dX12_whoDoes_29 ckX12_52 ?_
        have h := Option.some.inj h
        subst h
        exact kw_iret rfl dX12_whoDoes_31 hK
  · have h := (if_pos c8).symm.trans h
    refine kw_ldc (v := (-1000002)) dX12_whoDoes_7 ckX12_139 ?_
    have h := Option.some.inj h
    subst h
    exact kw_iret rfl dX12_whoDoes_9 hK
/-! KitchenWheelsModel.often(III)I -/
def X12_often_F (hp : kw_H) (x0 : Nat) (x1 : Int32) (x2 : Int32) (x3 : Int32) : Option (Int32 × kw_H) :=
  (kp_gI hp x0 [11] 1).bind fun v1 =>
  (if v1 = 0 then
  some (((-1000002), hp))
else
  (X12_isSix_F hp x1).bind fun r2 =>
  (if r2 = 0 then
  some (((-1000001), hp))
else
  (X12_isSix_F hp x2).bind fun r3 =>
  (if r3 = 0 then
  some (((-1000001), hp))
else
  (X12_in_F hp (Int32.toInt64 x3) (lN 0) (lN 60)).bind fun r4 =>
  (if r4 = 0 then
  some (((-1000001), hp))
else
  ((kp_ob hp x0 11).bind fun _ => X12_layTried_F hp x0 x3).bind fun r5 =>
  (kp_gR r5 x0 [11] 0).bind fun v6 =>
  (kp_ldI r5 v6 (((nI 1812) + ((nI 6) * x1)) + x2)).bind fun v7 =>
  (kp_gR r5 x0 [11] 0).bind fun v8 =>
  (kp_ldI r5 v8 (((nI 30) + ((nI 6) * x1)) + x2)).bind fun v9 =>
  some ((v7 - v9, r5))))))
set_option maxRecDepth 100000 in
set_option maxHeartbeats 4000000 in
theorem X12_often_c (G : kw_G) (hp : kw_H) (x0 : Nat) (x1 : Int32) (x2 : Int32) (x3 : Int32) (r : Int32 × kw_H) (h : X12_often_F hp x0 x1 x2 x3 = some r) : kw_Met G mX12_often [.ref x0, .int x1, .int x2, .int x3] hp (fun v h2 => v = some (.int r.1) ∧ h2 = r.2) := by
  refine kw_met (L := [some (.ref x0), some (.int x1), some (.int x2), some (.int x3)]) (r := 0) (by decide +kernel) (Nat.le_of_ble_eq_true rfl) rfl ?_
  unfold X12_often_F at h
  obtain ⟨Q, hQ⟩ : ∃ Q : Option Value → kw_H → Prop, Q = (fun v h2 => v = some (.int r.1) ∧ h2 = r.2) := ⟨_, rfl⟩
  have hK : Q (some (.int r.1)) r.2 := by rw [hQ]; exact ⟨rfl, rfl⟩
  rw [← hQ]
  clear hQ
  refine kw_aload_n dX12_often_0 rfl ?_
  obtain ⟨v1, ev1, h⟩ := Option.bind_eq_some_iff.mp h
  refine kv_gI gfX12_132 dX12_often_1 ev1 ?_
  refine kw_if_ne 10 dX12_often_4 (by decide) (fun c13 => ?_) (fun c13 => ?_)
  · have h := (if_neg c13).symm.trans h
    refine kw_iload_n dX12_often_10 rfl ?_
    obtain ⟨r2, er2, h⟩ := Option.bind_eq_some_iff.mp h
    refine kw_callS (As := [.int x1]) (S := []) cbX12_often_X12_isSix lkX12_176 stX12_isSix rfl rfl (Nat.le_of_ble_eq_true rfl) dX12_often_11 (X12_isSix_c G hp x1 _ er2) (fun vv hh hq => ?_)
    rw [hq.1, hq.2]
    show kw_V G mX12_often 14 [some (.ref x0), some (.int x1), some (.int x2), some (.int x3)] [.int r2] hp Q
    refine kw_if_eq 36 dX12_often_14 (by decide) (fun c12 => ?_) (fun c12 => ?_)
    · have h := (if_pos c12).symm.trans h
      refine kw_ldc (v := (-1000001)) dX12_often_36 ckX12_52 ?_
      have h := Option.some.inj h
      subst h
      exact kw_iret rfl dX12_often_38 hK
    · have h := (if_neg c12).symm.trans h
      refine kw_iload_n dX12_often_17 rfl ?_
      obtain ⟨r3, er3, h⟩ := Option.bind_eq_some_iff.mp h
      refine kw_callS (As := [.int x2]) (S := []) cbX12_often_X12_isSix lkX12_176 stX12_isSix rfl rfl (Nat.le_of_ble_eq_true rfl) dX12_often_18 (X12_isSix_c G hp x2 _ er3) (fun vv hh hq => ?_)
      rw [hq.1, hq.2]
      show kw_V G mX12_often 21 [some (.ref x0), some (.int x1), some (.int x2), some (.int x3)] [.int r3] hp Q
      refine kw_if_eq 36 dX12_often_21 (by decide) (fun c11 => ?_) (fun c11 => ?_)
      · have h := (if_pos c11).symm.trans h
        refine kw_ldc (v := (-1000001)) dX12_often_36 ckX12_52 ?_
        have h := Option.some.inj h
        subst h
        exact kw_iret rfl dX12_often_38 hK
      · have h := (if_neg c11).symm.trans h
        refine kw_iload_n dX12_often_24 rfl ?_
        refine kw_i2l dX12_often_25 ?_
        refine kw_lconst (v := lN 0) dX12_often_26 (by decide) ?_
        refine kw_ldc2_w (v := lN 60) dX12_often_27 ckX12_186 ?_
        obtain ⟨r4, er4, h⟩ := Option.bind_eq_some_iff.mp h
        refine kw_callS (As := [.long (Int32.toInt64 x3), .long (lN 0), .long (lN 60)]) (S := []) cbX12_often_X12_in lkX12_42 stX12_in rfl rfl (Nat.le_of_ble_eq_true rfl) dX12_often_30 (X12_in_c G hp (Int32.toInt64 x3) (lN 0) (lN 60) _ er4) (fun vv hh hq => ?_)
        rw [hq.1, hq.2]
        show kw_V G mX12_often 33 [some (.ref x0), some (.int x1), some (.int x2), some (.int x3)] [.int r4] hp Q
        refine kw_if_ne 39 dX12_often_33 (by decide) (fun c10 => ?_) (fun c10 => ?_)
        · have h := (if_neg c10).symm.trans h
          refine kw_aload_n dX12_often_39 rfl ?_
          refine kw_iload_n dX12_often_40 rfl ?_
          obtain ⟨r5, er5, h⟩ := Option.bind_eq_some_iff.mp h
          obtain ⟨ur5, eur5, er5⟩ := Option.bind_eq_some_iff.mp er5
          obtain ⟨fsr5, hor5⟩ := kp_ob_inv eur5
          refine kw_callV (As := [.int x3]) (S := []) kcX12 cbX12_often_X12_layTried lkX12_188 imX12_layTried seX12_X12_layTried_X12_layTried rfl rfl (Nat.le_of_ble_eq_true rfl) dX12_often_41 hor5 (X12_layTried_c G hp x0 x3 _ er5) (fun vv hh hq => ?_)
          rw [hq.1, hq.2]
          show kw_V G mX12_often 44 [some (.ref x0), some (.int x1), some (.int x2), some (.int x3)] [] r5 Q
          refine kw_aload_n dX12_often_44 rfl ?_
          obtain ⟨v6, ev6, h⟩ := Option.bind_eq_some_iff.mp h
          refine kv_gR gfX12_7 dX12_often_45 ev6 ?_
          refine kw_sipush (v := nI 1812) dX12_often_48 (by decide) ?_
          refine kw_bipush (v := nI 6) dX12_often_51 (by decide) ?_
          refine kw_iload_n dX12_often_53 rfl ?_
          refine kw_imul dX12_often_54 ?_
          refine kw_iadd dX12_often_55 ?_
          refine kw_iload_n dX12_often_56 rfl ?_
          refine kw_iadd dX12_often_57 ?_
          obtain ⟨v7, ev7, h⟩ := Option.bind_eq_some_iff.mp h
          refine kv_ldI dX12_often_58 ev7 ?_
          refine kw_aload_n dX12_often_59 rfl ?_
          obtain ⟨v8, ev8, h⟩ := Option.bind_eq_some_iff.mp h
          refine kv_gR gfX12_7 dX12_often_60 ev8 ?_
          refine kw_bipush (v := nI 30) dX12_often_63 (by decide) ?_
          refine kw_bipush (v := nI 6) dX12_often_65 (by decide) ?_
          refine kw_iload_n dX12_often_67 rfl ?_
          refine kw_imul dX12_often_68 ?_
          refine kw_iadd dX12_often_69 ?_
          refine kw_iload_n dX12_often_70 rfl ?_
          refine kw_iadd dX12_often_71 ?_
          obtain ⟨v9, ev9, h⟩ := Option.bind_eq_some_iff.mp h
          refine kv_ldI dX12_often_72 ev9 ?_
          refine kw_isub dX12_often_73 ?_
          have h := Option.some.inj h
          subst h
          exact kw_iret rfl dX12_often_74 hK
        · have h := (if_pos c10).symm.trans h
          refine kw_ldc (v := (-1000001)) dX12_often_36 ckX12_52 ?_
          have h := Option.some.inj h
          subst h
          exact kw_iret rfl dX12_often_38 hK
  · have h := (if_pos c13).symm.trans h
    refine kw_ldc (v := (-1000002)) dX12_often_7 ckX12_139 ?_
    have h := Option.some.inj h
    subst h
    exact kw_iret rfl dX12_often_9 hK
/-! KitchenWheelsModel.meets(II)I -/
def X12_meets_K34 (G : kw_G) (Q : Option Value → kw_H → Prop) (x0 : Nat) (x1 : Int32) (x2 : Int32) (r : (Int32 × kw_H) ⊕ (Int32 × kw_H)) : Prop := match r with
  | .inl z => kw_V G mX12_meets 34 [some (.ref x0), some (.int x1), some (.int x2), some (.int z.1)] [] z.2 Q
  | .inr r => Q (some (.int r.1)) r.2
def X12_meets_J64 (hp : kw_H) : Option (Int32 × kw_H) :=
  some (((-1000000), hp))
set_option maxRecDepth 100000 in
set_option maxHeartbeats 4000000 in
theorem X12_meets_J64_t (G : kw_G) (Q : Option Value → kw_H → Prop) (hp : kw_H) (r : Int32 × kw_H) (h : X12_meets_J64 hp = some r) (hK : Q (some (.int r.1)) r.2) : kw_V G mX12_meets 64 [none, none, none, none] [] hp Q := by
  unfold X12_meets_J64 at h
  refine kw_ldc (v := (-1000000)) dX12_meets_64 ckX12_99 ?_
  have h := Option.some.inj h
  subst h
  exact kw_iret rfl dX12_meets_66 hK
def X12_meets_J49 (hp : kw_H) (x3 : Int32) : Option (Int32 × kw_H) :=
  some ((x3, hp))
set_option maxRecDepth 100000 in
set_option maxHeartbeats 4000000 in
theorem X12_meets_J49_t (G : kw_G) (Q : Option Value → kw_H → Prop) (hp : kw_H) (x3 : Int32) (r : Int32 × kw_H) (h : X12_meets_J49 hp x3 = some r) (hK : Q (some (.int r.1)) r.2) : kw_V G mX12_meets 49 [none, none, none, some (.int x3)] [] hp Q := by
  unfold X12_meets_J49 at h
  refine kw_iload_n dX12_meets_49 rfl ?_
  have h := Option.some.inj h
  subst h
  exact kw_iret rfl dX12_meets_50 hK
def X12_meets_b34 (x0 : Nat) (x1 : Int32) (x2 : Int32) (x3 : Int32) (hp : kw_H) : Option (((Int32 × kw_H) ⊕ (Int32 × kw_H))) :=
  (if (nI 61) ≤ x3 then
  (X12_meets_J64 hp).map (fun r => .inr (r))
else
  ((kp_ob hp x0 11).bind fun _ => X12_doesTried_F hp x0 x1 x2).bind fun r6 =>
  (if r6 = 0 then
  ((kp_ob hp x0 11).bind fun _ => X12_passAsTold_F hp x0 (nI 1782)).bind fun r7 =>
  some (.inl (x3 + (nI 1), r7))
else
  (X12_meets_J49 hp x3).map (fun r => .inr (r))))
set_option maxRecDepth 100000 in
set_option maxHeartbeats 4000000 in
theorem X12_meets_b34_t (G : kw_G) (Q : Option Value → kw_H → Prop) (x0 : Nat) (x1 : Int32) (x2 : Int32) (x3 : Int32) (hp : kw_H) (r : ((Int32 × kw_H) ⊕ (Int32 × kw_H))) (h : X12_meets_b34 x0 x1 x2 x3 hp = some r) (hK : X12_meets_K34 G Q x0 x1 x2 r) : kw_V G mX12_meets 34 [some (.ref x0), some (.int x1), some (.int x2), some (.int x3)] [] hp Q := by
  unfold X12_meets_b34 at h
  refine kw_iload_n dX12_meets_34 rfl ?_
  refine kw_bipush (v := nI 61) dX12_meets_35 (by decide) ?_
  refine kw_icmp_ge 64 dX12_meets_37 (by decide) (fun c10 => ?_) (fun c10 => ?_)
  · have h := (if_pos c10).symm.trans h
    refine kw_mask [false, false, false, false] (L' := [none, none, none, none]) rfl ?_
    obtain ⟨r5, hr5, hrr5⟩ := Option.map_eq_some_iff.mp h
    subst hrr5
    exact X12_meets_J64_t G Q hp r5 hr5 hK
  · have h := (if_neg c10).symm.trans h
    refine kw_aload_n dX12_meets_40 rfl ?_
    refine kw_iload_n dX12_meets_41 rfl ?_
    refine kw_iload_n dX12_meets_42 rfl ?_
    obtain ⟨r6, er6, h⟩ := Option.bind_eq_some_iff.mp h
    obtain ⟨ur6, eur6, er6⟩ := Option.bind_eq_some_iff.mp er6
    obtain ⟨fsr6, hor6⟩ := kp_ob_inv eur6
    refine kw_callV (As := [.int x1, .int x2]) (S := []) kcX12 cbX12_meets_X12_doesTried lkX12_191 imX12_doesTried seX12_X12_doesTried_X12_doesTried rfl rfl (Nat.le_of_ble_eq_true rfl) dX12_meets_43 hor6 (X12_doesTried_c G hp x0 x1 x2 _ er6) (fun vv hh hq => ?_)
    rw [hq.1, hq.2]
    show kw_V G mX12_meets 46 [some (.ref x0), some (.int x1), some (.int x2), some (.int x3)] [.int r6] hp Q
    refine kw_if_eq 51 dX12_meets_46 (by decide) (fun c9 => ?_) (fun c9 => ?_)
    · have h := (if_pos c9).symm.trans h
      refine kw_aload_n dX12_meets_51 rfl ?_
      refine kw_sipush (v := nI 1782) dX12_meets_52 (by decide) ?_
      obtain ⟨r7, er7, h⟩ := Option.bind_eq_some_iff.mp h
      obtain ⟨ur7, eur7, er7⟩ := Option.bind_eq_some_iff.mp er7
      obtain ⟨fsr7, hor7⟩ := kp_ob_inv eur7
      refine kw_callV (As := [.int (nI 1782)]) (S := []) kcX12 cbX12_meets_X12_passAsTold lkX12_167 imX12_passAsTold seX12_X12_passAsTold_X12_passAsTold rfl rfl (Nat.le_of_ble_eq_true rfl) dX12_meets_55 hor7 (X12_passAsTold_c G hp x0 (nI 1782) _ er7) (fun vv hh hq => ?_)
      rw [hq.1, hq.2]
      show kw_V G mX12_meets 58 [some (.ref x0), some (.int x1), some (.int x2), some (.int x3)] [] r7 Q
      refine kv_iinc (w := nI 1) (L' := [some (.ref x0), some (.int x1), some (.int x2), some (.int (x3 + (nI 1)))]) dX12_meets_58 (by decide) rfl (by decide) rfl ?_
      refine kw_goto 34 dX12_meets_61 (by decide) ?_
      have h := Option.some.inj h
      subst h
      exact hK
    · have h := (if_neg c9).symm.trans h
      refine kw_mask [false, false, false, true] (L' := [none, none, none, some (.int x3)]) rfl ?_
      obtain ⟨r8, hr8, hrr8⟩ := Option.map_eq_some_iff.mp h
      subst hrr8
      exact X12_meets_J49_t G Q hp x3 r8 hr8 hK
def X12_meets_B34 (x0 : Nat) (x1 : Int32) (x2 : Int32) (z : Int32 × kw_H) : Option (((Int32 × kw_H) ⊕ (Int32 × kw_H))) := X12_meets_b34 x0 x1 x2 z.1 z.2
theorem X12_meets_L34_t (G : kw_G) (Q : Option Value → kw_H → Prop) (x0 : Nat) (x1 : Int32) (x2 : Int32) (n : Nat) (z : Int32 × kw_H) (r : Int32 × kw_H) (h : kp_lp (X12_meets_B34 x0 x1 x2) n z = some r) (hK : Q (some (.int r.1)) r.2) : kw_V G mX12_meets 34 [some (.ref x0), some (.int x1), some (.int x2), some (.int z.1)] [] z.2 Q :=
  kv_lp _ (fun z => kw_V G mX12_meets 34 [some (.ref x0), some (.int x1), some (.int x2), some (.int z.1)] [] z.2 Q) (fun r => Q (some (.int r.1)) r.2) (fun z x hb hx => X12_meets_b34_t G Q x0 x1 x2 z.1 z.2 x hb (by cases x <;> exact hx)) n z r h hK
def X12_meets_F (hp : kw_H) (x0 : Nat) (x1 : Int32) (x2 : Int32) : Option (Int32 × kw_H) :=
  (kp_gI hp x0 [11] 1).bind fun v1 =>
  (if v1 = 0 then
  some (((-1000002), hp))
else
  (X12_isSix_F hp x1).bind fun r2 =>
  (if r2 = 0 then
  some (((-1000001), hp))
else
  (X12_isSix_F hp x2).bind fun r3 =>
  (if r3 = 0 then
  some (((-1000001), hp))
else
  ((kp_ob hp x0 11).bind fun _ => X12_layTried_F hp x0 (nI 0)).bind fun r4 =>
  kp_lp (X12_meets_B34 x0 x1 x2) 2000 (nI 0, r4))))
set_option maxRecDepth 100000 in
set_option maxHeartbeats 4000000 in
theorem X12_meets_c (G : kw_G) (hp : kw_H) (x0 : Nat) (x1 : Int32) (x2 : Int32) (r : Int32 × kw_H) (h : X12_meets_F hp x0 x1 x2 = some r) : kw_Met G mX12_meets [.ref x0, .int x1, .int x2] hp (fun v h2 => v = some (.int r.1) ∧ h2 = r.2) := by
  refine kw_met (L := [some (.ref x0), some (.int x1), some (.int x2), none]) (r := 1) (by decide +kernel) (Nat.le_of_ble_eq_true rfl) rfl ?_
  unfold X12_meets_F at h
  obtain ⟨Q, hQ⟩ : ∃ Q : Option Value → kw_H → Prop, Q = (fun v h2 => v = some (.int r.1) ∧ h2 = r.2) := ⟨_, rfl⟩
  have hK : Q (some (.int r.1)) r.2 := by rw [hQ]; exact ⟨rfl, rfl⟩
  rw [← hQ]
  clear hQ
  refine kw_aload_n dX12_meets_0 rfl ?_
  obtain ⟨v1, ev1, h⟩ := Option.bind_eq_some_iff.mp h
  refine kv_gI gfX12_132 dX12_meets_1 ev1 ?_
  refine kw_if_ne 10 dX12_meets_4 (by decide) (fun c13 => ?_) (fun c13 => ?_)
  · have h := (if_neg c13).symm.trans h
    refine kw_iload_n dX12_meets_10 rfl ?_
    obtain ⟨r2, er2, h⟩ := Option.bind_eq_some_iff.mp h
    refine kw_callS (As := [.int x1]) (S := []) cbX12_meets_X12_isSix lkX12_176 stX12_isSix rfl rfl (Nat.le_of_ble_eq_true rfl) dX12_meets_11 (X12_isSix_c G hp x1 _ er2) (fun vv hh hq => ?_)
    rw [hq.1, hq.2]
    show kw_V G mX12_meets 14 [some (.ref x0), some (.int x1), some (.int x2), none] [.int r2] hp Q
    refine kw_if_eq 24 dX12_meets_14 (by decide) (fun c12 => ?_) (fun c12 => ?_)
    · have h := (if_pos c12).symm.trans h
      refine kw_ldc (v := (-1000001)) dX12_meets_24 ckX12_52 ?_
      have h := Option.some.inj h
      subst h
      exact kw_iret rfl dX12_meets_26 hK
    · have h := (if_neg c12).symm.trans h
      refine kw_iload_n dX12_meets_17 rfl ?_
      obtain ⟨r3, er3, h⟩ := Option.bind_eq_some_iff.mp h
      refine kw_callS (As := [.int x2]) (S := []) cbX12_meets_X12_isSix lkX12_176 stX12_isSix rfl rfl (Nat.le_of_ble_eq_true rfl) dX12_meets_18 (X12_isSix_c G hp x2 _ er3) (fun vv hh hq => ?_)
      rw [hq.1, hq.2]
      show kw_V G mX12_meets 21 [some (.ref x0), some (.int x1), some (.int x2), none] [.int r3] hp Q
      refine kw_if_ne 27 dX12_meets_21 (by decide) (fun c11 => ?_) (fun c11 => ?_)
      · have h := (if_neg c11).symm.trans h
        refine kw_aload_n dX12_meets_27 rfl ?_
        refine kw_iconst (v := nI 0) dX12_meets_28 (by decide) ?_
        obtain ⟨r4, er4, h⟩ := Option.bind_eq_some_iff.mp h
        obtain ⟨ur4, eur4, er4⟩ := Option.bind_eq_some_iff.mp er4
        obtain ⟨fsr4, hor4⟩ := kp_ob_inv eur4
        refine kw_callV (As := [.int (nI 0)]) (S := []) kcX12 cbX12_meets_X12_layTried lkX12_188 imX12_layTried seX12_X12_layTried_X12_layTried rfl rfl (Nat.le_of_ble_eq_true rfl) dX12_meets_29 hor4 (X12_layTried_c G hp x0 (nI 0) _ er4) (fun vv hh hq => ?_)
        rw [hq.1, hq.2]
        show kw_V G mX12_meets 32 [some (.ref x0), some (.int x1), some (.int x2), none] [] r4 Q
        refine kw_iconst (v := nI 0) dX12_meets_32 (by decide) ?_
        refine kw_istore_n (L' := [some (.ref x0), some (.int x1), some (.int x2), some (.int (nI 0))]) dX12_meets_33 (by decide) rfl ?_
        exact X12_meets_L34_t G Q x0 x1 x2 _ (nI 0, r4) _ h hK
      · have h := (if_pos c11).symm.trans h
        refine kw_ldc (v := (-1000001)) dX12_meets_24 ckX12_52 ?_
        have h := Option.some.inj h
        subst h
        exact kw_iret rfl dX12_meets_26 hK
  · have h := (if_pos c13).symm.trans h
    refine kw_ldc (v := (-1000002)) dX12_meets_7 ckX12_139 ?_
    have h := Option.some.inj h
    subst h
    exact kw_iret rfl dX12_meets_9 hK
/-! KitchenWheelsModel.onWheel(III)I -/
def X12_onWheel_K6 (G : kw_G) (Q : Option Value → kw_H → Prop) (hp : kw_H) (x0 : Nat) (x1 : Int32) (x2 : Int32) (x3 : Int32) (r : (Int32 × Int32) ⊕ (Int32)) : Prop := match r with
  | .inl z => kw_V G mX12_onWheel 6 [some (.ref x0), some (.int x1), some (.int x2), some (.int x3), some (.int z.1), some (.int z.2), none] [] hp Q
  | .inr r => Q (some (.int r)) hp
def X12_onWheel_J58 (hp : kw_H) (x4 : Int32) : Option (Int32) :=
  some (x4)
set_option maxRecDepth 100000 in
set_option maxHeartbeats 4000000 in
theorem X12_onWheel_J58_t (G : kw_G) (Q : Option Value → kw_H → Prop) (hp : kw_H) (x4 : Int32) (r : Int32) (h : X12_onWheel_J58 hp x4 = some r) (hK : Q (some (.int r)) hp) : kw_V G mX12_onWheel 58 [none, none, none, none, some (.int x4), none, none] [] hp Q := by
  unfold X12_onWheel_J58 at h
  refine kw_iload dX12_onWheel_58 rfl ?_
  have h := Option.some.inj h
  subst h
  exact kw_iret rfl dX12_onWheel_60 hK
def X12_onWheel_J49 (hp : kw_H) (x0 : Nat) (x1 : Int32) (x2 : Int32) (x3 : Int32) (x5 : Int32) (s0 : Int32) (s1 : Int32) : Option (((Int32 × Int32) ⊕ (Int32))) :=
  some (.inl (s1 ||| s0, x5 + (nI 1)))
set_option maxRecDepth 100000 in
set_option maxHeartbeats 4000000 in
theorem X12_onWheel_J49_t (G : kw_G) (Q : Option Value → kw_H → Prop) (hp : kw_H) (x0 : Nat) (x1 : Int32) (x2 : Int32) (x3 : Int32) (x5 : Int32) (s0 : Int32) (s1 : Int32) (r : ((Int32 × Int32) ⊕ (Int32))) (h : X12_onWheel_J49 hp x0 x1 x2 x3 x5 s0 s1 = some r) (hK : X12_onWheel_K6 G Q hp x0 x1 x2 x3 r) : kw_V G mX12_onWheel 49 [some (.ref x0), some (.int x1), some (.int x2), some (.int x3), none, some (.int x5), none] [.int s0, .int s1] hp Q := by
  unfold X12_onWheel_J49 at h
  refine kw_ior dX12_onWheel_49 ?_
  refine kw_istore (L' := [some (.ref x0), some (.int x1), some (.int x2), some (.int x3), some (.int (s1 ||| s0)), some (.int x5), none]) dX12_onWheel_50 (by decide) rfl ?_
  refine kv_iinc (w := nI 1) (L' := [some (.ref x0), some (.int x1), some (.int x2), some (.int x3), some (.int (s1 ||| s0)), some (.int (x5 + (nI 1))), none]) dX12_onWheel_52 (by decide) rfl (by decide) rfl ?_
  refine kw_goto 6 dX12_onWheel_55 (by decide) ?_
  have h := Option.some.inj h
  subst h
  exact hK
def X12_onWheel_b6 (hp : kw_H) (x0 : Nat) (x1 : Int32) (x2 : Int32) (x3 : Int32) (x4 : Int32) (x5 : Int32) : Option (((Int32 × Int32) ⊕ (Int32))) :=
  (kp_gR hp x0 [11] 0).bind fun v1 =>
  (kp_ldI hp v1 (x1 + x3)).bind fun v2 =>
  (if v2 ≤ x5 then
  (X12_onWheel_J58 hp x4).map (fun r => .inr (r))
else
  (kp_gR hp x0 [11] 0).bind fun v4 =>
  (kp_ldI hp v4 ((x1 + x2) + x5)).bind fun v5 =>
  (if v5 = (nI 6) then
  X12_onWheel_J49 hp x0 x1 x2 x3 x5 (nI 0) x4
else
  X12_onWheel_J49 hp x0 x1 x2 x3 x5 ((nI 1) <<< (v5 &&& 31)) x4))
set_option maxRecDepth 100000 in
set_option maxHeartbeats 4000000 in
theorem X12_onWheel_b6_t (G : kw_G) (Q : Option Value → kw_H → Prop) (hp : kw_H) (x0 : Nat) (x1 : Int32) (x2 : Int32) (x3 : Int32) (x4 : Int32) (x5 : Int32) (r : ((Int32 × Int32) ⊕ (Int32))) (h : X12_onWheel_b6 hp x0 x1 x2 x3 x4 x5 = some r) (hK : X12_onWheel_K6 G Q hp x0 x1 x2 x3 r) : kw_V G mX12_onWheel 6 [some (.ref x0), some (.int x1), some (.int x2), some (.int x3), some (.int x4), some (.int x5), none] [] hp Q := by
  unfold X12_onWheel_b6 at h
  refine kw_iload dX12_onWheel_6 rfl ?_
  refine kw_aload_n dX12_onWheel_8 rfl ?_
  obtain ⟨v1, ev1, h⟩ := Option.bind_eq_some_iff.mp h
  refine kv_gR gfX12_7 dX12_onWheel_9 ev1 ?_
  refine kw_iload_n dX12_onWheel_12 rfl ?_
  refine kw_iload_n dX12_onWheel_13 rfl ?_
  refine kw_iadd dX12_onWheel_14 ?_
  obtain ⟨v2, ev2, h⟩ := Option.bind_eq_some_iff.mp h
  refine kv_ldI dX12_onWheel_15 ev2 ?_
  refine kw_icmp_ge 58 dX12_onWheel_16 (by decide) (fun c7 => ?_) (fun c7 => ?_)
  · have h := (if_pos c7).symm.trans h
    refine kw_mask [false, false, false, false, true, false, true] (L' := [none, none, none, none, some (.int x4), none, none]) rfl ?_
    obtain ⟨r3, hr3, hrr3⟩ := Option.map_eq_some_iff.mp h
    subst hrr3
    exact X12_onWheel_J58_t G Q hp x4 r3 hr3 hK
  · have h := (if_neg c7).symm.trans h
    refine kw_aload_n dX12_onWheel_19 rfl ?_
    obtain ⟨v4, ev4, h⟩ := Option.bind_eq_some_iff.mp h
    refine kv_gR gfX12_7 dX12_onWheel_20 ev4 ?_
    refine kw_iload_n dX12_onWheel_23 rfl ?_
    refine kw_iload_n dX12_onWheel_24 rfl ?_
    refine kw_iadd dX12_onWheel_25 ?_
    refine kw_iload dX12_onWheel_26 rfl ?_
    refine kw_iadd dX12_onWheel_28 ?_
    obtain ⟨v5, ev5, h⟩ := Option.bind_eq_some_iff.mp h
    refine kv_ldI dX12_onWheel_29 ev5 ?_
    refine kw_istore (L' := [some (.ref x0), some (.int x1), some (.int x2), some (.int x3), some (.int x4), some (.int x5), some (.int v5)]) dX12_onWheel_30 (by decide) rfl ?_
    refine kw_iload dX12_onWheel_32 rfl ?_
    refine kw_iload dX12_onWheel_34 rfl ?_
    refine kw_bipush (v := nI 6) dX12_onWheel_36 (by decide) ?_
    refine kw_icmp_ne 45 dX12_onWheel_38 (by decide) (fun c6 => ?_) (fun c6 => ?_)
    · have h := (if_neg c6).symm.trans h
      refine kw_iconst (v := nI 1) dX12_onWheel_45 (by decide) ?_
      refine kw_iload dX12_onWheel_46 rfl ?_
      refine kw_ishl dX12_onWheel_48 ?_
      refine kw_mask [true, true, true, true, false, true, false] (L' := [some (.ref x0), some (.int x1), some (.int x2), some (.int x3), none, some (.int x5), none]) rfl ?_
      exact X12_onWheel_J49_t G Q hp x0 x1 x2 x3 x5 ((nI 1) <<< (v5 &&& 31)) x4 _ h hK
    · have h := (if_pos c6).symm.trans h
      refine kw_iconst (v := nI 0) dX12_onWheel_41 (by decide) ?_
      refine kw_goto 49 dX12_onWheel_42 (by decide) ?_
      refine kw_mask [true, true, true, true, false, true, false] (L' := [some (.ref x0), some (.int x1), some (.int x2), some (.int x3), none, some (.int x5), none]) rfl ?_
      exact X12_onWheel_J49_t G Q hp x0 x1 x2 x3 x5 (nI 0) x4 _ h hK
def X12_onWheel_B6 (hp : kw_H) (x0 : Nat) (x1 : Int32) (x2 : Int32) (x3 : Int32) (z : Int32 × Int32) : Option (((Int32 × Int32) ⊕ (Int32))) := X12_onWheel_b6 hp x0 x1 x2 x3 z.1 z.2
theorem X12_onWheel_L6_t (G : kw_G) (Q : Option Value → kw_H → Prop) (hp : kw_H) (x0 : Nat) (x1 : Int32) (x2 : Int32) (x3 : Int32) (n : Nat) (z : Int32 × Int32) (r : Int32) (h : kp_lp (X12_onWheel_B6 hp x0 x1 x2 x3) n z = some r) (hK : Q (some (.int r)) hp) : kw_V G mX12_onWheel 6 [some (.ref x0), some (.int x1), some (.int x2), some (.int x3), some (.int z.1), some (.int z.2), none] [] hp Q :=
  kv_lp _ (fun z => kw_V G mX12_onWheel 6 [some (.ref x0), some (.int x1), some (.int x2), some (.int x3), some (.int z.1), some (.int z.2), none] [] hp Q) (fun r => Q (some (.int r)) hp) (fun z x hb hx => X12_onWheel_b6_t G Q hp x0 x1 x2 x3 z.1 z.2 x hb (by cases x <;> exact hx)) n z r h hK
def X12_onWheel_F (hp : kw_H) (x0 : Nat) (x1 : Int32) (x2 : Int32) (x3 : Int32) : Option (Int32) :=
  kp_lp (X12_onWheel_B6 hp x0 x1 x2 x3) 2000 (nI 0, nI 0)
set_option maxRecDepth 100000 in
set_option maxHeartbeats 4000000 in
theorem X12_onWheel_c (G : kw_G) (hp : kw_H) (x0 : Nat) (x1 : Int32) (x2 : Int32) (x3 : Int32) (r : Int32) (h : X12_onWheel_F hp x0 x1 x2 x3 = some r) : kw_Met G mX12_onWheel [.ref x0, .int x1, .int x2, .int x3] hp (fun v h2 => v = some (.int r) ∧ h2 = hp) := by
  refine kw_met (L := [some (.ref x0), some (.int x1), some (.int x2), some (.int x3), none, none, none]) (r := 3) (by decide +kernel) (Nat.le_of_ble_eq_true rfl) rfl ?_
  unfold X12_onWheel_F at h
  obtain ⟨Q, hQ⟩ : ∃ Q : Option Value → kw_H → Prop, Q = (fun v h2 => v = some (.int r) ∧ h2 = hp) := ⟨_, rfl⟩
  have hK : Q (some (.int r)) hp := by rw [hQ]; exact ⟨rfl, rfl⟩
  rw [← hQ]
  clear hQ
  refine kw_iconst (v := nI 0) dX12_onWheel_0 (by decide) ?_
  refine kw_istore (L' := [some (.ref x0), some (.int x1), some (.int x2), some (.int x3), some (.int (nI 0)), none, none]) dX12_onWheel_1 (by decide) rfl ?_
  refine kw_iconst (v := nI 0) dX12_onWheel_3 (by decide) ?_
  refine kw_istore (L' := [some (.ref x0), some (.int x1), some (.int x2), some (.int x3), some (.int (nI 0)), some (.int (nI 0)), none]) dX12_onWheel_4 (by decide) rfl ?_
  exact X12_onWheel_L6_t G Q hp x0 x1 x2 x3 _ (nI 0, nI 0) _ h hK
/-! KitchenWheelsModel.haveAllMet()Z -/
def X12_haveAllMet_K35 (G : kw_G) (Q : Option Value → kw_H → Prop) (hp : kw_H) (x0 : Nat) (x1 : Int32) (x2 : Int32) (r : (Int32 × Int32) ⊕ (Int32)) : Prop := match r with
  | .inl z => kw_V G mX12_haveAllMet 35 [some (.ref x0), some (.int x1), some (.int x2), some (.int z.1), some (.int z.2), none] [] hp Q
  | .inr r => Q (some (.int r)) hp
def X12_haveAllMet_J118 (hp : kw_H) (x3 : Int32) : Option (Int32) :=
  (kp_bool x3).bind fun v3 =>
  some (v3)
set_option maxRecDepth 100000 in
set_option maxHeartbeats 4000000 in
theorem X12_haveAllMet_J118_t (G : kw_G) (Q : Option Value → kw_H → Prop) (hp : kw_H) (x3 : Int32) (r : Int32) (h : X12_haveAllMet_J118 hp x3 = some r) (hK : Q (some (.int r)) hp) : kw_V G mX12_haveAllMet 118 [none, none, none, some (.int x3), none, none] [] hp Q := by
  unfold X12_haveAllMet_J118 at h
  refine kw_iload_n dX12_haveAllMet_118 rfl ?_
  obtain ⟨v3, ev3, h⟩ := Option.bind_eq_some_iff.mp h
  obtain ⟨qv3, bv3⟩ := kv_bool ev3
  have h := Option.some.inj h
  subst h
  rw [qv3]
  exact kw_zret rfl bv3 dX12_haveAllMet_119 hK
def X12_haveAllMet_J111 (hp : kw_H) (x0 : Nat) (x1 : Int32) (x2 : Int32) (x4 : Int32) (s0 : Int32) : Option (((Int32 × Int32) ⊕ (Int32))) :=
  some (.inl (s0, x4 + (nI 1)))
set_option maxRecDepth 100000 in
set_option maxHeartbeats 4000000 in
theorem X12_haveAllMet_J111_t (G : kw_G) (Q : Option Value → kw_H → Prop) (hp : kw_H) (x0 : Nat) (x1 : Int32) (x2 : Int32) (x4 : Int32) (s0 : Int32) (r : ((Int32 × Int32) ⊕ (Int32))) (h : X12_haveAllMet_J111 hp x0 x1 x2 x4 s0 = some r) (hK : X12_haveAllMet_K35 G Q hp x0 x1 x2 r) : kw_V G mX12_haveAllMet 111 [some (.ref x0), some (.int x1), some (.int x2), none, some (.int x4), none] [.int s0] hp Q := by
  unfold X12_haveAllMet_J111 at h
  refine kw_istore_n (L' := [some (.ref x0), some (.int x1), some (.int x2), some (.int s0), some (.int x4), none]) dX12_haveAllMet_111 (by decide) rfl ?_
  refine kv_iinc (w := nI 1) (L' := [some (.ref x0), some (.int x1), some (.int x2), some (.int s0), some (.int (x4 + (nI 1))), none]) dX12_haveAllMet_112 (by decide) rfl (by decide) rfl ?_
  refine kw_goto 35 dX12_haveAllMet_115 (by decide) ?_
  have h := Option.some.inj h
  subst h
  exact hK
def X12_haveAllMet_J110 (hp : kw_H) (x0 : Nat) (x1 : Int32) (x2 : Int32) (x4 : Int32) : Option (((Int32 × Int32) ⊕ (Int32))) :=
  X12_haveAllMet_J111 hp x0 x1 x2 x4 (nI 0)
set_option maxRecDepth 100000 in
set_option maxHeartbeats 4000000 in
theorem X12_haveAllMet_J110_t (G : kw_G) (Q : Option Value → kw_H → Prop) (hp : kw_H) (x0 : Nat) (x1 : Int32) (x2 : Int32) (x4 : Int32) (r : ((Int32 × Int32) ⊕ (Int32))) (h : X12_haveAllMet_J110 hp x0 x1 x2 x4 = some r) (hK : X12_haveAllMet_K35 G Q hp x0 x1 x2 r) : kw_V G mX12_haveAllMet 110 [some (.ref x0), some (.int x1), some (.int x2), none, some (.int x4), none] [] hp Q := by
  unfold X12_haveAllMet_J110 at h
  refine kw_iconst (v := nI 0) dX12_haveAllMet_110 (by decide) ?_
  exact X12_haveAllMet_J111_t G Q hp x0 x1 x2 x4 (nI 0) _ h hK
def X12_haveAllMet_J106 (hp : kw_H) (x0 : Nat) (x1 : Int32) (x2 : Int32) (x4 : Int32) : Option (((Int32 × Int32) ⊕ (Int32))) :=
  X12_haveAllMet_J111 hp x0 x1 x2 x4 (nI 1)
set_option maxRecDepth 100000 in
set_option maxHeartbeats 4000000 in
theorem X12_haveAllMet_J106_t (G : kw_G) (Q : Option Value → kw_H → Prop) (hp : kw_H) (x0 : Nat) (x1 : Int32) (x2 : Int32) (x4 : Int32) (r : ((Int32 × Int32) ⊕ (Int32))) (h : X12_haveAllMet_J106 hp x0 x1 x2 x4 = some r) (hK : X12_haveAllMet_K35 G Q hp x0 x1 x2 r) : kw_V G mX12_haveAllMet 106 [some (.ref x0), some (.int x1), some (.int x2), none, some (.int x4), none] [] hp Q := by
  unfold X12_haveAllMet_J106 at h
  refine kw_iconst (v := nI 1) dX12_haveAllMet_106 (by decide) ?_
  refine kw_goto 111 dX12_haveAllMet_107 (by decide) ?_
  exact X12_haveAllMet_J111_t G Q hp x0 x1 x2 x4 (nI 1) _ h hK
def X12_haveAllMet_J71 (hp : kw_H) (x0 : Nat) (x1 : Int32) (x2 : Int32) (x3 : Int32) (x4 : Int32) (s0 : Int32) : Option (((Int32 × Int32) ⊕ (Int32))) :=
  (if x3 = 0 then
  X12_haveAllMet_J110 hp x0 x1 x2 x4
else
  (if s0 = 0 then
  X12_haveAllMet_J106 hp x0 x1 x2 x4
else
  (kp_gR hp x0 [11] 0).bind fun v7 =>
  (kp_ldI hp v7 ((nI 1812) + x4)).bind fun v8 =>
  (kp_gR hp x0 [11] 0).bind fun v9 =>
  (kp_ldI hp v9 ((nI 30) + x4)).bind fun v10 =>
  (if v8 ≤ v10 then
  X12_haveAllMet_J110 hp x0 x1 x2 x4
else
  X12_haveAllMet_J106 hp x0 x1 x2 x4)))
set_option maxRecDepth 100000 in
set_option maxHeartbeats 4000000 in
theorem X12_haveAllMet_J71_t (G : kw_G) (Q : Option Value → kw_H → Prop) (hp : kw_H) (x0 : Nat) (x1 : Int32) (x2 : Int32) (x3 : Int32) (x4 : Int32) (s0 : Int32) (r : ((Int32 × Int32) ⊕ (Int32))) (h : X12_haveAllMet_J71 hp x0 x1 x2 x3 x4 s0 = some r) (hK : X12_haveAllMet_K35 G Q hp x0 x1 x2 r) : kw_V G mX12_haveAllMet 71 [some (.ref x0), some (.int x1), some (.int x2), some (.int x3), some (.int x4), none] [.int s0] hp Q := by
  unfold X12_haveAllMet_J71 at h
  refine kw_istore (L' := [some (.ref x0), some (.int x1), some (.int x2), some (.int x3), some (.int x4), some (.int s0)]) dX12_haveAllMet_71 (by decide) rfl ?_
  refine kw_iload_n dX12_haveAllMet_73 rfl ?_
  refine kw_if_eq 110 dX12_haveAllMet_74 (by decide) (fun c13 => ?_) (fun c13 => ?_)
  · have h := (if_pos c13).symm.trans h
    refine kw_mask [true, true, true, false, true, false] (L' := [some (.ref x0), some (.int x1), some (.int x2), none, some (.int x4), none]) rfl ?_
    exact X12_haveAllMet_J110_t G Q hp x0 x1 x2 x4 _ h hK
  · have h := (if_neg c13).symm.trans h
    refine kw_iload dX12_haveAllMet_77 rfl ?_
    refine kw_if_eq 106 dX12_haveAllMet_79 (by decide) (fun c12 => ?_) (fun c12 => ?_)
    · have h := (if_pos c12).symm.trans h
      refine kw_mask [true, true, true, false, true, false] (L' := [some (.ref x0), some (.int x1), some (.int x2), none, some (.int x4), none]) rfl ?_
      exact X12_haveAllMet_J106_t G Q hp x0 x1 x2 x4 _ h hK
    · have h := (if_neg c12).symm.trans h
      refine kw_aload_n dX12_haveAllMet_82 rfl ?_
      obtain ⟨v7, ev7, h⟩ := Option.bind_eq_some_iff.mp h
      refine kv_gR gfX12_7 dX12_haveAllMet_83 ev7 ?_
      refine kw_sipush (v := nI 1812) dX12_haveAllMet_86 (by decide) ?_
      refine kw_iload dX12_haveAllMet_89 rfl ?_
      refine kw_iadd dX12_haveAllMet_91 ?_
      obtain ⟨v8, ev8, h⟩ := Option.bind_eq_some_iff.mp h
      refine kv_ldI dX12_haveAllMet_92 ev8 ?_
      refine kw_aload_n dX12_haveAllMet_93 rfl ?_
      obtain ⟨v9, ev9, h⟩ := Option.bind_eq_some_iff.mp h
      refine kv_gR gfX12_7 dX12_haveAllMet_94 ev9 ?_
      refine kw_bipush (v := nI 30) dX12_haveAllMet_97 (by decide) ?_
      refine kw_iload dX12_haveAllMet_99 rfl ?_
      refine kw_iadd dX12_haveAllMet_101 ?_
      obtain ⟨v10, ev10, h⟩ := Option.bind_eq_some_iff.mp h
      refine kv_ldI dX12_haveAllMet_102 ev10 ?_
      refine kw_icmp_le 110 dX12_haveAllMet_103 (by decide) (fun c11 => ?_) (fun c11 => ?_)
      · have h := (if_pos c11).symm.trans h
        refine kw_mask [true, true, true, false, true, false] (L' := [some (.ref x0), some (.int x1), some (.int x2), none, some (.int x4), none]) rfl ?_
        exact X12_haveAllMet_J110_t G Q hp x0 x1 x2 x4 _ h hK
      · have h := (if_neg c11).symm.trans h
        refine kw_mask [true, true, true, false, true, false] (L' := [some (.ref x0), some (.int x1), some (.int x2), none, some (.int x4), none]) rfl ?_
        exact X12_haveAllMet_J106_t G Q hp x0 x1 x2 x4 _ h hK
def X12_haveAllMet_J70 (hp : kw_H) (x0 : Nat) (x1 : Int32) (x2 : Int32) (x3 : Int32) (x4 : Int32) : Option (((Int32 × Int32) ⊕ (Int32))) :=
  X12_haveAllMet_J71 hp x0 x1 x2 x3 x4 (nI 0)
set_option maxRecDepth 100000 in
set_option maxHeartbeats 4000000 in
theorem X12_haveAllMet_J70_t (G : kw_G) (Q : Option Value → kw_H → Prop) (hp : kw_H) (x0 : Nat) (x1 : Int32) (x2 : Int32) (x3 : Int32) (x4 : Int32) (r : ((Int32 × Int32) ⊕ (Int32))) (h : X12_haveAllMet_J70 hp x0 x1 x2 x3 x4 = some r) (hK : X12_haveAllMet_K35 G Q hp x0 x1 x2 r) : kw_V G mX12_haveAllMet 70 [some (.ref x0), some (.int x1), some (.int x2), some (.int x3), some (.int x4), none] [] hp Q := by
  unfold X12_haveAllMet_J70 at h
  refine kw_iconst (v := nI 0) dX12_haveAllMet_70 (by decide) ?_
  exact X12_haveAllMet_J71_t G Q hp x0 x1 x2 x3 x4 (nI 0) _ h hK
def X12_haveAllMet_b35 (hp : kw_H) (x0 : Nat) (x1 : Int32) (x2 : Int32) (x3 : Int32) (x4 : Int32) : Option (((Int32 × Int32) ⊕ (Int32))) :=
  (if (nI 36) ≤ x4 then
  (X12_haveAllMet_J118 hp x3).map (fun r => .inr (r))
else
  (kp_div x4 (nI 6)).bind fun v5 =>
  (X12_has_F hp x1 v5).bind fun r6 =>
  (if r6 = 0 then
  X12_haveAllMet_J70 hp x0 x1 x2 x3 x4
else
  (kp_rem x4 (nI 6)).bind fun v14 =>
  (X12_has_F hp x2 v14).bind fun r15 =>
  (if r15 = 0 then
  X12_haveAllMet_J70 hp x0 x1 x2 x3 x4
else
  X12_haveAllMet_J71 hp x0 x1 x2 x3 x4 (nI 1))))
set_option maxRecDepth 100000 in
set_option maxHeartbeats 4000000 in
theorem X12_haveAllMet_b35_t (G : kw_G) (Q : Option Value → kw_H → Prop) (hp : kw_H) (x0 : Nat) (x1 : Int32) (x2 : Int32) (x3 : Int32) (x4 : Int32) (r : ((Int32 × Int32) ⊕ (Int32))) (h : X12_haveAllMet_b35 hp x0 x1 x2 x3 x4 = some r) (hK : X12_haveAllMet_K35 G Q hp x0 x1 x2 r) : kw_V G mX12_haveAllMet 35 [some (.ref x0), some (.int x1), some (.int x2), some (.int x3), some (.int x4), none] [] hp Q := by
  unfold X12_haveAllMet_b35 at h
  refine kw_iload dX12_haveAllMet_35 rfl ?_
  refine kw_bipush (v := nI 36) dX12_haveAllMet_37 (by decide) ?_
  refine kw_icmp_ge 118 dX12_haveAllMet_39 (by decide) (fun c18 => ?_) (fun c18 => ?_)
  · have h := (if_pos c18).symm.trans h
    refine kw_mask [false, false, false, true, false, true] (L' := [none, none, none, some (.int x3), none, none]) rfl ?_
    obtain ⟨r4, hr4, hrr4⟩ := Option.map_eq_some_iff.mp h
    subst hrr4
    exact X12_haveAllMet_J118_t G Q hp x3 r4 hr4 hK
  · have h := (if_neg c18).symm.trans h
    refine kw_iload_n dX12_haveAllMet_42 rfl ?_
    refine kw_iload dX12_haveAllMet_43 rfl ?_
    refine kw_bipush (v := nI 6) dX12_haveAllMet_45 (by decide) ?_
    obtain ⟨v5, ev5, h⟩ := Option.bind_eq_some_iff.mp h
    refine kv_idiv dX12_haveAllMet_47 ev5 ?_
    obtain ⟨r6, er6, h⟩ := Option.bind_eq_some_iff.mp h
    refine kw_callS (As := [.int x1, .int v5]) (S := []) cbX12_haveAllMet_X12_has lkX12_148 stX12_has rfl rfl (Nat.le_of_ble_eq_true rfl) dX12_haveAllMet_48 (X12_has_c G hp x1 v5 _ er6) (fun vv hh hq => ?_)
    rw [hq.1, hq.2]
    show kw_V G mX12_haveAllMet 51 [some (.ref x0), some (.int x1), some (.int x2), some (.int x3), some (.int x4), none] [.int r6] hp Q
    refine kw_if_eq 70 dX12_haveAllMet_51 (by decide) (fun c17 => ?_) (fun c17 => ?_)
    · have h := (if_pos c17).symm.trans h
      exact X12_haveAllMet_J70_t G Q hp x0 x1 x2 x3 x4 _ h hK
    · have h := (if_neg c17).symm.trans h
      refine kw_iload_n dX12_haveAllMet_54 rfl ?_
      refine kw_iload dX12_haveAllMet_55 rfl ?_
      refine kw_bipush (v := nI 6) dX12_haveAllMet_57 (by decide) ?_
      obtain ⟨v14, ev14, h⟩ := Option.bind_eq_some_iff.mp h
      refine kv_irem dX12_haveAllMet_59 ev14 ?_
      obtain ⟨r15, er15, h⟩ := Option.bind_eq_some_iff.mp h
      refine kw_callS (As := [.int x2, .int v14]) (S := []) cbX12_haveAllMet_X12_has lkX12_148 stX12_has rfl rfl (Nat.le_of_ble_eq_true rfl) dX12_haveAllMet_60 (X12_has_c G hp x2 v14 _ er15) (fun vv hh hq => ?_)
      rw [hq.1, hq.2]
      show kw_V G mX12_haveAllMet 63 [some (.ref x0), some (.int x1), some (.int x2), some (.int x3), some (.int x4), none] [.int r15] hp Q
      refine kw_if_eq 70 dX12_haveAllMet_63 (by decide) (fun c16 => ?_) (fun c16 => ?_)
      · have h := (if_pos c16).symm.trans h
        exact X12_haveAllMet_J70_t G Q hp x0 x1 x2 x3 x4 _ h hK
      · have h := (if_neg c16).symm.trans h
        refine kw_iconst (v := nI 1) dX12_haveAllMet_66 (by decide) ?_
        refine kw_goto 71 dX12_haveAllMet_67 (by decide) ?_
        exact X12_haveAllMet_J71_t G Q hp x0 x1 x2 x3 x4 (nI 1) _ h hK
def X12_haveAllMet_B35 (hp : kw_H) (x0 : Nat) (x1 : Int32) (x2 : Int32) (z : Int32 × Int32) : Option (((Int32 × Int32) ⊕ (Int32))) := X12_haveAllMet_b35 hp x0 x1 x2 z.1 z.2
theorem X12_haveAllMet_L35_t (G : kw_G) (Q : Option Value → kw_H → Prop) (hp : kw_H) (x0 : Nat) (x1 : Int32) (x2 : Int32) (n : Nat) (z : Int32 × Int32) (r : Int32) (h : kp_lp (X12_haveAllMet_B35 hp x0 x1 x2) n z = some r) (hK : Q (some (.int r)) hp) : kw_V G mX12_haveAllMet 35 [some (.ref x0), some (.int x1), some (.int x2), some (.int z.1), some (.int z.2), none] [] hp Q :=
  kv_lp _ (fun z => kw_V G mX12_haveAllMet 35 [some (.ref x0), some (.int x1), some (.int x2), some (.int z.1), some (.int z.2), none] [] hp Q) (fun r => Q (some (.int r)) hp) (fun z x hb hx => X12_haveAllMet_b35_t G Q hp x0 x1 x2 z.1 z.2 x hb (by cases x <;> exact hx)) n z r h hK
def X12_haveAllMet_J31 (hp : kw_H) (x0 : Nat) (x1 : Int32) (x2 : Int32) (s0 : Int32) : Option (Int32) :=
  kp_lp (X12_haveAllMet_B35 hp x0 x1 x2) 2000 (s0, nI 0)
set_option maxRecDepth 100000 in
set_option maxHeartbeats 4000000 in
theorem X12_haveAllMet_J31_t (G : kw_G) (Q : Option Value → kw_H → Prop) (hp : kw_H) (x0 : Nat) (x1 : Int32) (x2 : Int32) (s0 : Int32) (r : Int32) (h : X12_haveAllMet_J31 hp x0 x1 x2 s0 = some r) (hK : Q (some (.int r)) hp) : kw_V G mX12_haveAllMet 31 [some (.ref x0), some (.int x1), some (.int x2), none, none, none] [.int s0] hp Q := by
  unfold X12_haveAllMet_J31 at h
  refine kw_istore_n (L' := [some (.ref x0), some (.int x1), some (.int x2), some (.int s0), none, none]) dX12_haveAllMet_31 (by decide) rfl ?_
  refine kw_iconst (v := nI 0) dX12_haveAllMet_32 (by decide) ?_
  refine kw_istore (L' := [some (.ref x0), some (.int x1), some (.int x2), some (.int s0), some (.int (nI 0)), none]) dX12_haveAllMet_33 (by decide) rfl ?_
  exact X12_haveAllMet_L35_t G Q hp x0 x1 x2 _ (s0, nI 0) _ h hK
def X12_haveAllMet_J30 (hp : kw_H) (x0 : Nat) (x1 : Int32) (x2 : Int32) : Option (Int32) :=
  X12_haveAllMet_J31 hp x0 x1 x2 (nI 0)
set_option maxRecDepth 100000 in
set_option maxHeartbeats 4000000 in
theorem X12_haveAllMet_J30_t (G : kw_G) (Q : Option Value → kw_H → Prop) (hp : kw_H) (x0 : Nat) (x1 : Int32) (x2 : Int32) (r : Int32) (h : X12_haveAllMet_J30 hp x0 x1 x2 = some r) (hK : Q (some (.int r)) hp) : kw_V G mX12_haveAllMet 30 [some (.ref x0), some (.int x1), some (.int x2), none, none, none] [] hp Q := by
  unfold X12_haveAllMet_J30 at h
  refine kw_iconst (v := nI 0) dX12_haveAllMet_30 (by decide) ?_
  exact X12_haveAllMet_J31_t G Q hp x0 x1 x2 (nI 0) _ h hK
def X12_haveAllMet_F (hp : kw_H) (x0 : Nat) : Option (Int32) :=
  ((kp_ob hp x0 11).bind fun _ => X12_onWheel_F hp x0 (nI 0) (nI 6) (nI 0)).bind fun r1 =>
  ((kp_ob hp x0 11).bind fun _ => X12_onWheel_F hp x0 (nI 0) (nI 14) (nI 1)).bind fun r2 =>
  (if r1 = 0 then
  X12_haveAllMet_J30 hp x0 r1 r2
else
  (if r2 = 0 then
  X12_haveAllMet_J30 hp x0 r1 r2
else
  X12_haveAllMet_J31 hp x0 r1 r2 (nI 1)))
set_option maxRecDepth 100000 in
set_option maxHeartbeats 4000000 in
theorem X12_haveAllMet_c (G : kw_G) (hp : kw_H) (x0 : Nat) (r : Int32) (h : X12_haveAllMet_F hp x0 = some r) : kw_Met G mX12_haveAllMet [.ref x0] hp (fun v h2 => v = some (.int r) ∧ h2 = hp) := by
  refine kw_met (L := [some (.ref x0), none, none, none, none, none]) (r := 5) (by decide +kernel) (Nat.le_of_ble_eq_true rfl) rfl ?_
  unfold X12_haveAllMet_F at h
  obtain ⟨Q, hQ⟩ : ∃ Q : Option Value → kw_H → Prop, Q = (fun v h2 => v = some (.int r) ∧ h2 = hp) := ⟨_, rfl⟩
  have hK : Q (some (.int r)) hp := by rw [hQ]; exact ⟨rfl, rfl⟩
  rw [← hQ]
  clear hQ
  refine kw_aload_n dX12_haveAllMet_0 rfl ?_
  refine kw_iconst (v := nI 0) dX12_haveAllMet_1 (by decide) ?_
  refine kw_bipush (v := nI 6) dX12_haveAllMet_2 (by decide) ?_
  refine kw_iconst (v := nI 0) dX12_haveAllMet_4 (by decide) ?_
  obtain ⟨r1, er1, h⟩ := Option.bind_eq_some_iff.mp h
  obtain ⟨ur1, eur1, er1⟩ := Option.bind_eq_some_iff.mp er1
  obtain ⟨fsr1, hor1⟩ := kp_ob_inv eur1
  refine kw_callV (As := [.int (nI 0), .int (nI 6), .int (nI 0)]) (S := []) kcX12 cbX12_haveAllMet_X12_onWheel lkX12_197 imX12_onWheel seX12_X12_onWheel_X12_onWheel rfl rfl (Nat.le_of_ble_eq_true rfl) dX12_haveAllMet_5 hor1 (X12_onWheel_c G hp x0 (nI 0) (nI 6) (nI 0) _ er1) (fun vv hh hq => ?_)
  rw [hq.1, hq.2]
  show kw_V G mX12_haveAllMet 8 [some (.ref x0), none, none, none, none, none] [.int r1] hp Q
  refine kw_istore_n (L' := [some (.ref x0), some (.int r1), none, none, none, none]) dX12_haveAllMet_8 (by decide) rfl ?_
  refine kw_aload_n dX12_haveAllMet_9 rfl ?_
  refine kw_iconst (v := nI 0) dX12_haveAllMet_10 (by decide) ?_
  refine kw_bipush (v := nI 14) dX12_haveAllMet_11 (by decide) ?_
  refine kw_iconst (v := nI 1) dX12_haveAllMet_13 (by decide) ?_
  obtain ⟨r2, er2, h⟩ := Option.bind_eq_some_iff.mp h
  obtain ⟨ur2, eur2, er2⟩ := Option.bind_eq_some_iff.mp er2
  obtain ⟨fsr2, hor2⟩ := kp_ob_inv eur2
  refine kw_callV (As := [.int (nI 0), .int (nI 14), .int (nI 1)]) (S := []) kcX12 cbX12_haveAllMet_X12_onWheel lkX12_197 imX12_onWheel seX12_X12_onWheel_X12_onWheel rfl rfl (Nat.le_of_ble_eq_true rfl) dX12_haveAllMet_14 hor2 (X12_onWheel_c G hp x0 (nI 0) (nI 14) (nI 1) _ er2) (fun vv hh hq => ?_)
  rw [hq.1, hq.2]
  show kw_V G mX12_haveAllMet 17 [some (.ref x0), some (.int r1), none, none, none, none] [.int r2] hp Q
  refine kw_istore_n (L' := [some (.ref x0), some (.int r1), some (.int r2), none, none, none]) dX12_haveAllMet_17 (by decide) rfl ?_
  refine kw_iload_n dX12_haveAllMet_18 rfl ?_
  refine kw_if_eq 30 dX12_haveAllMet_19 (by decide) (fun c20 => ?_) (fun c20 => ?_)
  · have h := (if_pos c20).symm.trans h
    exact X12_haveAllMet_J30_t G Q hp x0 r1 r2 _ h hK
  · have h := (if_neg c20).symm.trans h
    refine kw_iload_n dX12_haveAllMet_22 rfl ?_
    refine kw_if_eq 30 dX12_haveAllMet_23 (by decide) (fun c19 => ?_) (fun c19 => ?_)
    · have h := (if_pos c19).symm.trans h
      exact X12_haveAllMet_J30_t G Q hp x0 r1 r2 _ h hK
    · have h := (if_neg c19).symm.trans h
      refine kw_iconst (v := nI 1) dX12_haveAllMet_26 (by decide) ?_
      refine kw_goto 31 dX12_haveAllMet_27 (by decide) ?_
      exact X12_haveAllMet_J31_t G Q hp x0 r1 r2 (nI 1) _ h hK
/-! KitchenWheelsModel.allMet()I -/
def X12_allMet_K17 (G : kw_G) (Q : Option Value → kw_H → Prop) (x0 : Nat) (r : (Int32 × kw_H) ⊕ (Int32 × kw_H)) : Prop := match r with
  | .inl z => kw_V G mX12_allMet 17 [some (.ref x0), some (.int z.1)] [] z.2 Q
  | .inr r => Q (some (.int r.1)) r.2
def X12_allMet_J45 (hp : kw_H) : Option (Int32 × kw_H) :=
  some (((-1000000), hp))
set_option maxRecDepth 100000 in
set_option maxHeartbeats 4000000 in
theorem X12_allMet_J45_t (G : kw_G) (Q : Option Value → kw_H → Prop) (hp : kw_H) (r : Int32 × kw_H) (h : X12_allMet_J45 hp = some r) (hK : Q (some (.int r.1)) r.2) : kw_V G mX12_allMet 45 [none, none] [] hp Q := by
  unfold X12_allMet_J45 at h
  refine kw_ldc (v := (-1000000)) dX12_allMet_45 ckX12_99 ?_
  have h := Option.some.inj h
  subst h
  exact kw_iret rfl dX12_allMet_47 hK
def X12_allMet_J37 (hp : kw_H) (x1 : Int32) : Option (Int32 × kw_H) :=
  some ((x1, hp))
set_option maxRecDepth 100000 in
set_option maxHeartbeats 4000000 in
theorem X12_allMet_J37_t (G : kw_G) (Q : Option Value → kw_H → Prop) (hp : kw_H) (x1 : Int32) (r : Int32 × kw_H) (h : X12_allMet_J37 hp x1 = some r) (hK : Q (some (.int r.1)) r.2) : kw_V G mX12_allMet 37 [none, some (.int x1)] [] hp Q := by
  unfold X12_allMet_J37 at h
  refine kw_iload_n dX12_allMet_37 rfl ?_
  have h := Option.some.inj h
  subst h
  exact kw_iret rfl dX12_allMet_38 hK
def X12_allMet_b17 (x0 : Nat) (x1 : Int32) (hp : kw_H) : Option (((Int32 × kw_H) ⊕ (Int32 × kw_H))) :=
  (if (nI 61) ≤ x1 then
  (X12_allMet_J45 hp).map (fun r => .inr (r))
else
  ((kp_ob hp x0 11).bind fun _ => X12_passAsTold_F hp x0 (nI 1782)).bind fun r4 =>
  ((kp_ob r4 x0 11).bind fun _ => X12_haveAllMet_F r4 x0).bind fun r5 =>
  (if r5 = 0 then
  some (.inl (x1 + (nI 1), r4))
else
  (X12_allMet_J37 r4 x1).map (fun r => .inr (r))))
set_option maxRecDepth 100000 in
set_option maxHeartbeats 4000000 in
theorem X12_allMet_b17_t (G : kw_G) (Q : Option Value → kw_H → Prop) (x0 : Nat) (x1 : Int32) (hp : kw_H) (r : ((Int32 × kw_H) ⊕ (Int32 × kw_H))) (h : X12_allMet_b17 x0 x1 hp = some r) (hK : X12_allMet_K17 G Q x0 r) : kw_V G mX12_allMet 17 [some (.ref x0), some (.int x1)] [] hp Q := by
  unfold X12_allMet_b17 at h
  refine kw_iload_n dX12_allMet_17 rfl ?_
  refine kw_bipush (v := nI 61) dX12_allMet_18 (by decide) ?_
  refine kw_icmp_ge 45 dX12_allMet_20 (by decide) (fun c8 => ?_) (fun c8 => ?_)
  · have h := (if_pos c8).symm.trans h
    refine kw_mask [false, false] (L' := [none, none]) rfl ?_
    obtain ⟨r3, hr3, hrr3⟩ := Option.map_eq_some_iff.mp h
    subst hrr3
    exact X12_allMet_J45_t G Q hp r3 hr3 hK
  · have h := (if_neg c8).symm.trans h
    refine kw_aload_n dX12_allMet_23 rfl ?_
    refine kw_sipush (v := nI 1782) dX12_allMet_24 (by decide) ?_
    obtain ⟨r4, er4, h⟩ := Option.bind_eq_some_iff.mp h
    obtain ⟨ur4, eur4, er4⟩ := Option.bind_eq_some_iff.mp er4
    obtain ⟨fsr4, hor4⟩ := kp_ob_inv eur4
    refine kw_callV (As := [.int (nI 1782)]) (S := []) kcX12 cbX12_allMet_X12_passAsTold lkX12_167 imX12_passAsTold seX12_X12_passAsTold_X12_passAsTold rfl rfl (Nat.le_of_ble_eq_true rfl) dX12_allMet_27 hor4 (X12_passAsTold_c G hp x0 (nI 1782) _ er4) (fun vv hh hq => ?_)
    rw [hq.1, hq.2]
    show kw_V G mX12_allMet 30 [some (.ref x0), some (.int x1)] [] r4 Q
    refine kw_aload_n dX12_allMet_30 rfl ?_
    obtain ⟨r5, er5, h⟩ := Option.bind_eq_some_iff.mp h
    obtain ⟨ur5, eur5, er5⟩ := Option.bind_eq_some_iff.mp er5
    obtain ⟨fsr5, hor5⟩ := kp_ob_inv eur5
    refine kw_callV (As := []) (S := []) kcX12 cbX12_allMet_X12_haveAllMet lkX12_200 imX12_haveAllMet seX12_X12_haveAllMet_X12_haveAllMet rfl rfl (Nat.le_of_ble_eq_true rfl) dX12_allMet_31 hor5 (X12_haveAllMet_c G r4 x0 _ er5) (fun vv hh hq => ?_)
    rw [hq.1, hq.2]
    show kw_V G mX12_allMet 34 [some (.ref x0), some (.int x1)] [.int r5] r4 Q
    refine kw_if_eq 39 dX12_allMet_34 (by decide) (fun c7 => ?_) (fun c7 => ?_)
    · have h := (if_pos c7).symm.trans h
      refine kv_iinc (w := nI 1) (L' := [some (.ref x0), some (.int (x1 + (nI 1)))]) dX12_allMet_39 (by decide) rfl (by decide) rfl ?_
      refine kw_goto 17 dX12_allMet_42 (by decide) ?_
      have h := Option.some.inj h
      subst h
      exact hK
    · have h := (if_neg c7).symm.trans h
      refine kw_mask [false, true] (L' := [none, some (.int x1)]) rfl ?_
      obtain ⟨r6, hr6, hrr6⟩ := Option.map_eq_some_iff.mp h
      subst hrr6
      exact X12_allMet_J37_t G Q r4 x1 r6 hr6 hK
def X12_allMet_B17 (x0 : Nat) (z : Int32 × kw_H) : Option (((Int32 × kw_H) ⊕ (Int32 × kw_H))) := X12_allMet_b17 x0 z.1 z.2
theorem X12_allMet_L17_t (G : kw_G) (Q : Option Value → kw_H → Prop) (x0 : Nat) (n : Nat) (z : Int32 × kw_H) (r : Int32 × kw_H) (h : kp_lp (X12_allMet_B17 x0) n z = some r) (hK : Q (some (.int r.1)) r.2) : kw_V G mX12_allMet 17 [some (.ref x0), some (.int z.1)] [] z.2 Q :=
  kv_lp _ (fun z => kw_V G mX12_allMet 17 [some (.ref x0), some (.int z.1)] [] z.2 Q) (fun r => Q (some (.int r.1)) r.2) (fun z x hb hx => X12_allMet_b17_t G Q x0 z.1 z.2 x hb (by cases x <;> exact hx)) n z r h hK
def X12_allMet_F (hp : kw_H) (x0 : Nat) : Option (Int32 × kw_H) :=
  (kp_gI hp x0 [11] 1).bind fun v1 =>
  (if v1 = 0 then
  some (((-1000002), hp))
else
  ((kp_ob hp x0 11).bind fun _ => X12_layTried_F hp x0 (nI 0)).bind fun r2 =>
  kp_lp (X12_allMet_B17 x0) 2000 (nI 1, r2))
set_option maxRecDepth 100000 in
set_option maxHeartbeats 4000000 in
theorem X12_allMet_c (G : kw_G) (hp : kw_H) (x0 : Nat) (r : Int32 × kw_H) (h : X12_allMet_F hp x0 = some r) : kw_Met G mX12_allMet [.ref x0] hp (fun v h2 => v = some (.int r.1) ∧ h2 = r.2) := by
  refine kw_met (L := [some (.ref x0), none]) (r := 1) (by decide +kernel) (Nat.le_of_ble_eq_true rfl) rfl ?_
  unfold X12_allMet_F at h
  obtain ⟨Q, hQ⟩ : ∃ Q : Option Value → kw_H → Prop, Q = (fun v h2 => v = some (.int r.1) ∧ h2 = r.2) := ⟨_, rfl⟩
  have hK : Q (some (.int r.1)) r.2 := by rw [hQ]; exact ⟨rfl, rfl⟩
  rw [← hQ]
  clear hQ
  refine kw_aload_n dX12_allMet_0 rfl ?_
  obtain ⟨v1, ev1, h⟩ := Option.bind_eq_some_iff.mp h
  refine kv_gI gfX12_132 dX12_allMet_1 ev1 ?_
  refine kw_if_ne 10 dX12_allMet_4 (by decide) (fun c9 => ?_) (fun c9 => ?_)
  · have h := (if_neg c9).symm.trans h
    refine kw_aload_n dX12_allMet_10 rfl ?_
    refine kw_iconst (v := nI 0) dX12_allMet_11 (by decide) ?_
    obtain ⟨r2, er2, h⟩ := Option.bind_eq_some_iff.mp h
    obtain ⟨ur2, eur2, er2⟩ := Option.bind_eq_some_iff.mp er2
    obtain ⟨fsr2, hor2⟩ := kp_ob_inv eur2
    refine kw_callV (As := [.int (nI 0)]) (S := []) kcX12 cbX12_allMet_X12_layTried lkX12_188 imX12_layTried seX12_X12_layTried_X12_layTried rfl rfl (Nat.le_of_ble_eq_true rfl) dX12_allMet_12 hor2 (X12_layTried_c G hp x0 (nI 0) _ er2) (fun vv hh hq => ?_)
    rw [hq.1, hq.2]
    show kw_V G mX12_allMet 15 [some (.ref x0), none] [] r2 Q
    refine kw_iconst (v := nI 1) dX12_allMet_15 (by decide) ?_
    refine kw_istore_n (L' := [some (.ref x0), some (.int (nI 1))]) dX12_allMet_16 (by decide) rfl ?_
    exact X12_allMet_L17_t G Q x0 _ (nI 1, r2) _ h hK
  · have h := (if_pos c9).symm.trans h
    refine kw_ldc (v := (-1000002)) dX12_allMet_7 ckX12_139 ?_
    have h := Option.some.inj h
    subst h
    exact kw_iret rfl dX12_allMet_9 hK
/-! KitchenWheelsModel.round()I -/
def X12_round_K17 (G : kw_G) (Q : Option Value → kw_H → Prop) (x0 : Nat) (r : (Int32 × kw_H) ⊕ (Int32 × kw_H)) : Prop := match r with
  | .inl z => kw_V G mX12_round 17 [some (.ref x0), some (.int z.1)] [] z.2 Q
  | .inr r => Q (some (.int r.1)) r.2
def X12_round_J73 (hp : kw_H) : Option (Int32 × kw_H) :=
  some (((-1000000), hp))
set_option maxRecDepth 100000 in
set_option maxHeartbeats 4000000 in
theorem X12_round_J73_t (G : kw_G) (Q : Option Value → kw_H → Prop) (hp : kw_H) (r : Int32 × kw_H) (h : X12_round_J73 hp = some r) (hK : Q (some (.int r.1)) r.2) : kw_V G mX12_round 73 [none, none] [] hp Q := by
  unfold X12_round_J73 at h
  refine kw_ldc (v := (-1000000)) dX12_round_73 ckX12_99 ?_
  have h := Option.some.inj h
  subst h
  exact kw_iret rfl dX12_round_75 hK
def X12_round_J67 (hp : kw_H) (x0 : Nat) (x1 : Int32) : Option (((Int32 × kw_H) ⊕ (Int32 × kw_H))) :=
  some (.inl (x1 + (nI 1), hp))
set_option maxRecDepth 100000 in
set_option maxHeartbeats 4000000 in
theorem X12_round_J67_t (G : kw_G) (Q : Option Value → kw_H → Prop) (hp : kw_H) (x0 : Nat) (x1 : Int32) (r : ((Int32 × kw_H) ⊕ (Int32 × kw_H))) (h : X12_round_J67 hp x0 x1 = some r) (hK : X12_round_K17 G Q x0 r) : kw_V G mX12_round 67 [some (.ref x0), some (.int x1)] [] hp Q := by
  unfold X12_round_J67 at h
  refine kv_iinc (w := nI 1) (L' := [some (.ref x0), some (.int (x1 + (nI 1)))]) dX12_round_67 (by decide) rfl (by decide) rfl ?_
  refine kw_goto 17 dX12_round_70 (by decide) ?_
  have h := Option.some.inj h
  subst h
  exact hK
def X12_round_J65 (hp : kw_H) (x1 : Int32) : Option (Int32 × kw_H) :=
  some ((x1, hp))
set_option maxRecDepth 100000 in
set_option maxHeartbeats 4000000 in
theorem X12_round_J65_t (G : kw_G) (Q : Option Value → kw_H → Prop) (hp : kw_H) (x1 : Int32) (r : Int32 × kw_H) (h : X12_round_J65 hp x1 = some r) (hK : Q (some (.int r.1)) r.2) : kw_V G mX12_round 65 [none, some (.int x1)] [] hp Q := by
  unfold X12_round_J65 at h
  refine kw_iload_n dX12_round_65 rfl ?_
  have h := Option.some.inj h
  subst h
  exact kw_iret rfl dX12_round_66 hK
def X12_round_b17 (x0 : Nat) (x1 : Int32) (hp : kw_H) : Option (((Int32 × kw_H) ⊕ (Int32 × kw_H))) :=
  (if (nI 101) ≤ x1 then
  (X12_round_J73 hp).map (fun r => .inr (r))
else
  ((kp_ob hp x0 11).bind fun _ => X12_passAsTold_F hp x0 (nI 1782)).bind fun r4 =>
  (kp_gR r4 x0 [11] 0).bind fun v5 =>
  (kp_ldI r4 v5 (nI 1786)).bind fun v6 =>
  (kp_gR r4 x0 [11] 0).bind fun v7 =>
  (kp_ldI r4 v7 (nI 4)).bind fun v8 =>
  (if v6 = v8 then
  (kp_gR r4 x0 [11] 0).bind fun v9 =>
  (kp_ldI r4 v9 (nI 2)).bind fun v10 =>
  (kp_rem x1 v10).bind fun v11 =>
  (if v11 = 0 then
  (kp_rem x1 (nI 6)).bind fun v12 =>
  (if v12 = 0 then
  (X12_round_J65 r4 x1).map (fun r => .inr (r))
else
  X12_round_J67 r4 x0 x1)
else
  X12_round_J67 r4 x0 x1)
else
  X12_round_J67 r4 x0 x1))
set_option maxRecDepth 100000 in
set_option maxHeartbeats 4000000 in
theorem X12_round_b17_t (G : kw_G) (Q : Option Value → kw_H → Prop) (x0 : Nat) (x1 : Int32) (hp : kw_H) (r : ((Int32 × kw_H) ⊕ (Int32 × kw_H))) (h : X12_round_b17 x0 x1 hp = some r) (hK : X12_round_K17 G Q x0 r) : kw_V G mX12_round 17 [some (.ref x0), some (.int x1)] [] hp Q := by
  unfold X12_round_b17 at h
  refine kw_iload_n dX12_round_17 rfl ?_
  refine kw_bipush (v := nI 101) dX12_round_18 (by decide) ?_
  refine kw_icmp_ge 73 dX12_round_20 (by decide) (fun c17 => ?_) (fun c17 => ?_)
  · have h := (if_pos c17).symm.trans h
    refine kw_mask [false, false] (L' := [none, none]) rfl ?_
    obtain ⟨r3, hr3, hrr3⟩ := Option.map_eq_some_iff.mp h
    subst hrr3
    exact X12_round_J73_t G Q hp r3 hr3 hK
  · have h := (if_neg c17).symm.trans h
    refine kw_aload_n dX12_round_23 rfl ?_
    refine kw_sipush (v := nI 1782) dX12_round_24 (by decide) ?_
    obtain ⟨r4, er4, h⟩ := Option.bind_eq_some_iff.mp h
    obtain ⟨ur4, eur4, er4⟩ := Option.bind_eq_some_iff.mp er4
    obtain ⟨fsr4, hor4⟩ := kp_ob_inv eur4
    refine kw_callV (As := [.int (nI 1782)]) (S := []) kcX12 cbX12_round_X12_passAsTold lkX12_167 imX12_passAsTold seX12_X12_passAsTold_X12_passAsTold rfl rfl (Nat.le_of_ble_eq_true rfl) dX12_round_27 hor4 (X12_passAsTold_c G hp x0 (nI 1782) _ er4) (fun vv hh hq => ?_)
    rw [hq.1, hq.2]
    show kw_V G mX12_round 30 [some (.ref x0), some (.int x1)] [] r4 Q
    refine kw_aload_n dX12_round_30 rfl ?_
    obtain ⟨v5, ev5, h⟩ := Option.bind_eq_some_iff.mp h
    refine kv_gR gfX12_7 dX12_round_31 ev5 ?_
    refine kw_sipush (v := nI 1786) dX12_round_34 (by decide) ?_
    obtain ⟨v6, ev6, h⟩ := Option.bind_eq_some_iff.mp h
    refine kv_ldI dX12_round_37 ev6 ?_
    refine kw_aload_n dX12_round_38 rfl ?_
    obtain ⟨v7, ev7, h⟩ := Option.bind_eq_some_iff.mp h
    refine kv_gR gfX12_7 dX12_round_39 ev7 ?_
    refine kw_iconst (v := nI 4) dX12_round_42 (by decide) ?_
    obtain ⟨v8, ev8, h⟩ := Option.bind_eq_some_iff.mp h
    refine kv_ldI dX12_round_43 ev8 ?_
    refine kw_icmp_ne 67 dX12_round_44 (by decide) (fun c16 => ?_) (fun c16 => ?_)
    · have h := (if_neg c16).symm.trans h
      exact X12_round_J67_t G Q r4 x0 x1 _ h hK
    · have h := (if_pos c16).symm.trans h
      refine kw_iload_n dX12_round_47 rfl ?_
      refine kw_aload_n dX12_round_48 rfl ?_
      obtain ⟨v9, ev9, h⟩ := Option.bind_eq_some_iff.mp h
      refine kv_gR gfX12_7 dX12_round_49 ev9 ?_
      refine kw_iconst (v := nI 2) dX12_round_52 (by decide) ?_
      obtain ⟨v10, ev10, h⟩ := Option.bind_eq_some_iff.mp h
      refine kv_ldI dX12_round_53 ev10 ?_
      obtain ⟨v11, ev11, h⟩ := Option.bind_eq_some_iff.mp h
      refine kv_irem dX12_round_54 ev11 ?_
      refine kw_if_ne 67 dX12_round_55 (by decide) (fun c15 => ?_) (fun c15 => ?_)
      · have h := (if_neg c15).symm.trans h
        exact X12_round_J67_t G Q r4 x0 x1 _ h hK
      · have h := (if_pos c15).symm.trans h
        refine kw_iload_n dX12_round_58 rfl ?_
        refine kw_bipush (v := nI 6) dX12_round_59 (by decide) ?_
        obtain ⟨v12, ev12, h⟩ := Option.bind_eq_some_iff.mp h
        refine kv_irem dX12_round_61 ev12 ?_
        refine kw_if_ne 67 dX12_round_62 (by decide) (fun c14 => ?_) (fun c14 => ?_)
        · have h := (if_neg c14).symm.trans h
          exact X12_round_J67_t G Q r4 x0 x1 _ h hK
        · have h := (if_pos c14).symm.trans h
          refine kw_mask [false, true] (L' := [none, some (.int x1)]) rfl ?_
          obtain ⟨r13, hr13, hrr13⟩ := Option.map_eq_some_iff.mp h
          subst hrr13
          exact X12_round_J65_t G Q r4 x1 r13 hr13 hK
def X12_round_B17 (x0 : Nat) (z : Int32 × kw_H) : Option (((Int32 × kw_H) ⊕ (Int32 × kw_H))) := X12_round_b17 x0 z.1 z.2
theorem X12_round_L17_t (G : kw_G) (Q : Option Value → kw_H → Prop) (x0 : Nat) (n : Nat) (z : Int32 × kw_H) (r : Int32 × kw_H) (h : kp_lp (X12_round_B17 x0) n z = some r) (hK : Q (some (.int r.1)) r.2) : kw_V G mX12_round 17 [some (.ref x0), some (.int z.1)] [] z.2 Q :=
  kv_lp _ (fun z => kw_V G mX12_round 17 [some (.ref x0), some (.int z.1)] [] z.2 Q) (fun r => Q (some (.int r.1)) r.2) (fun z x hb hx => X12_round_b17_t G Q x0 z.1 z.2 x hb (by cases x <;> exact hx)) n z r h hK
def X12_round_F (hp : kw_H) (x0 : Nat) : Option (Int32 × kw_H) :=
  (kp_gI hp x0 [11] 1).bind fun v1 =>
  (if v1 = 0 then
  some (((-1000002), hp))
else
  ((kp_ob hp x0 11).bind fun _ => X12_layTried_F hp x0 (nI 0)).bind fun r2 =>
  kp_lp (X12_round_B17 x0) 2000 (nI 1, r2))
set_option maxRecDepth 100000 in
set_option maxHeartbeats 4000000 in
theorem X12_round_c (G : kw_G) (hp : kw_H) (x0 : Nat) (r : Int32 × kw_H) (h : X12_round_F hp x0 = some r) : kw_Met G mX12_round [.ref x0] hp (fun v h2 => v = some (.int r.1) ∧ h2 = r.2) := by
  refine kw_met (L := [some (.ref x0), none]) (r := 1) (by decide +kernel) (Nat.le_of_ble_eq_true rfl) rfl ?_
  unfold X12_round_F at h
  obtain ⟨Q, hQ⟩ : ∃ Q : Option Value → kw_H → Prop, Q = (fun v h2 => v = some (.int r.1) ∧ h2 = r.2) := ⟨_, rfl⟩
  have hK : Q (some (.int r.1)) r.2 := by rw [hQ]; exact ⟨rfl, rfl⟩
  rw [← hQ]
  clear hQ
  refine kw_aload_n dX12_round_0 rfl ?_
  obtain ⟨v1, ev1, h⟩ := Option.bind_eq_some_iff.mp h
  refine kv_gI gfX12_132 dX12_round_1 ev1 ?_
  refine kw_if_ne 10 dX12_round_4 (by decide) (fun c18 => ?_) (fun c18 => ?_)
  · have h := (if_neg c18).symm.trans h
    refine kw_aload_n dX12_round_10 rfl ?_
    refine kw_iconst (v := nI 0) dX12_round_11 (by decide) ?_
    obtain ⟨r2, er2, h⟩ := Option.bind_eq_some_iff.mp h
    obtain ⟨ur2, eur2, er2⟩ := Option.bind_eq_some_iff.mp er2
    obtain ⟨fsr2, hor2⟩ := kp_ob_inv eur2
    refine kw_callV (As := [.int (nI 0)]) (S := []) kcX12 cbX12_round_X12_layTried lkX12_188 imX12_layTried seX12_X12_layTried_X12_layTried rfl rfl (Nat.le_of_ble_eq_true rfl) dX12_round_12 hor2 (X12_layTried_c G hp x0 (nI 0) _ er2) (fun vv hh hq => ?_)
    rw [hq.1, hq.2]
    show kw_V G mX12_round 15 [some (.ref x0), none] [] r2 Q
    refine kw_iconst (v := nI 1) dX12_round_15 (by decide) ?_
    refine kw_istore_n (L' := [some (.ref x0), some (.int (nI 1))]) dX12_round_16 (by decide) rfl ?_
    exact X12_round_L17_t G Q x0 _ (nI 1, r2) _ h hK
  · have h := (if_pos c18).symm.trans h
    refine kw_ldc (v := (-1000002)) dX12_round_7 ckX12_139 ?_
    have h := Option.some.inj h
    subst h
    exact kw_iret rfl dX12_round_9 hK
/-! KitchenWheelsModel.doneBy(II)I -/
def X12_doneBy_K5 (G : kw_G) (Q : Option Value → kw_H → Prop) (hp : kw_H) (x0 : Nat) (x1 : Int32) (x2 : Int32) (r : (Int32 × Int32) ⊕ (Int32)) : Prop := match r with
  | .inl z => kw_V G mX12_doneBy 5 [some (.ref x0), some (.int x1), some (.int x2), some (.int z.1), some (.int z.2)] [] hp Q
  | .inr r => Q (some (.int r)) hp
def X12_doneBy_J38 (hp : kw_H) (x3 : Int32) : Option (Int32) :=
  some (x3)
set_option maxRecDepth 100000 in
set_option maxHeartbeats 4000000 in
theorem X12_doneBy_J38_t (G : kw_G) (Q : Option Value → kw_H → Prop) (hp : kw_H) (x3 : Int32) (r : Int32) (h : X12_doneBy_J38 hp x3 = some r) (hK : Q (some (.int r)) hp) : kw_V G mX12_doneBy 38 [none, none, none, some (.int x3), none] [] hp Q := by
  unfold X12_doneBy_J38 at h
  refine kw_iload_n dX12_doneBy_38 rfl ?_
  have h := Option.some.inj h
  subst h
  exact kw_iret rfl dX12_doneBy_39 hK
def X12_doneBy_b5 (hp : kw_H) (x0 : Nat) (x1 : Int32) (x2 : Int32) (x3 : Int32) (x4 : Int32) : Option (((Int32 × Int32) ⊕ (Int32))) :=
  (if (nI 6) ≤ x4 then
  (X12_doneBy_J38 hp x3).map (fun r => .inr (r))
else
  (kp_gR hp x0 [11] 0).bind fun v2 =>
  (kp_ldI hp v2 (((x1 + (nI 30)) + ((nI 6) * x2)) + x4)).bind fun v3 =>
  some (.inl (x3 + v3, x4 + (nI 1))))
set_option maxRecDepth 100000 in
set_option maxHeartbeats 4000000 in
theorem X12_doneBy_b5_t (G : kw_G) (Q : Option Value → kw_H → Prop) (hp : kw_H) (x0 : Nat) (x1 : Int32) (x2 : Int32) (x3 : Int32) (x4 : Int32) (r : ((Int32 × Int32) ⊕ (Int32))) (h : X12_doneBy_b5 hp x0 x1 x2 x3 x4 = some r) (hK : X12_doneBy_K5 G Q hp x0 x1 x2 r) : kw_V G mX12_doneBy 5 [some (.ref x0), some (.int x1), some (.int x2), some (.int x3), some (.int x4)] [] hp Q := by
  unfold X12_doneBy_b5 at h
  refine kw_iload dX12_doneBy_5 rfl ?_
  refine kw_bipush (v := nI 6) dX12_doneBy_7 (by decide) ?_
  refine kw_icmp_ge 38 dX12_doneBy_9 (by decide) (fun c4 => ?_) (fun c4 => ?_)
  · have h := (if_pos c4).symm.trans h
    refine kw_mask [false, false, false, true, false] (L' := [none, none, none, some (.int x3), none]) rfl ?_
    obtain ⟨r1, hr1, hrr1⟩ := Option.map_eq_some_iff.mp h
    subst hrr1
    exact X12_doneBy_J38_t G Q hp x3 r1 hr1 hK
  · have h := (if_neg c4).symm.trans h
    refine kw_iload_n dX12_doneBy_12 rfl ?_
    refine kw_aload_n dX12_doneBy_13 rfl ?_
    obtain ⟨v2, ev2, h⟩ := Option.bind_eq_some_iff.mp h
    refine kv_gR gfX12_7 dX12_doneBy_14 ev2 ?_
    refine kw_iload_n dX12_doneBy_17 rfl ?_
    refine kw_bipush (v := nI 30) dX12_doneBy_18 (by decide) ?_
    refine kw_iadd dX12_doneBy_20 ?_
    refine kw_bipush (v := nI 6) dX12_doneBy_21 (by decide) ?_
    refine kw_iload_n dX12_doneBy_23 rfl ?_
    refine kw_imul dX12_doneBy_24 ?_
    refine kw_iadd dX12_doneBy_25 ?_
    refine kw_iload dX12_doneBy_26 rfl ?_
    refine kw_iadd dX12_doneBy_28 ?_
    obtain ⟨v3, ev3, h⟩ := Option.bind_eq_some_iff.mp h
    refine kv_ldI dX12_doneBy_29 ev3 ?_
    refine kw_iadd dX12_doneBy_30 ?_
    refine kw_istore_n (L' := [some (.ref x0), some (.int x1), some (.int x2), some (.int (x3 + v3)), some (.int x4)]) dX12_doneBy_31 (by decide) rfl ?_
    refine kv_iinc (w := nI 1) (L' := [some (.ref x0), some (.int x1), some (.int x2), some (.int (x3 + v3)), some (.int (x4 + (nI 1)))]) dX12_doneBy_32 (by decide) rfl (by decide) rfl ?_
    refine kw_goto 5 dX12_doneBy_35 (by decide) ?_
    have h := Option.some.inj h
    subst h
    exact hK
def X12_doneBy_B5 (hp : kw_H) (x0 : Nat) (x1 : Int32) (x2 : Int32) (z : Int32 × Int32) : Option (((Int32 × Int32) ⊕ (Int32))) := X12_doneBy_b5 hp x0 x1 x2 z.1 z.2
theorem X12_doneBy_L5_t (G : kw_G) (Q : Option Value → kw_H → Prop) (hp : kw_H) (x0 : Nat) (x1 : Int32) (x2 : Int32) (n : Nat) (z : Int32 × Int32) (r : Int32) (h : kp_lp (X12_doneBy_B5 hp x0 x1 x2) n z = some r) (hK : Q (some (.int r)) hp) : kw_V G mX12_doneBy 5 [some (.ref x0), some (.int x1), some (.int x2), some (.int z.1), some (.int z.2)] [] hp Q :=
  kv_lp _ (fun z => kw_V G mX12_doneBy 5 [some (.ref x0), some (.int x1), some (.int x2), some (.int z.1), some (.int z.2)] [] hp Q) (fun r => Q (some (.int r)) hp) (fun z x hb hx => X12_doneBy_b5_t G Q hp x0 x1 x2 z.1 z.2 x hb (by cases x <;> exact hx)) n z r h hK
def X12_doneBy_F (hp : kw_H) (x0 : Nat) (x1 : Int32) (x2 : Int32) : Option (Int32) :=
  kp_lp (X12_doneBy_B5 hp x0 x1 x2) 2000 (nI 0, nI 0)
set_option maxRecDepth 100000 in
set_option maxHeartbeats 4000000 in
theorem X12_doneBy_c (G : kw_G) (hp : kw_H) (x0 : Nat) (x1 : Int32) (x2 : Int32) (r : Int32) (h : X12_doneBy_F hp x0 x1 x2 = some r) : kw_Met G mX12_doneBy [.ref x0, .int x1, .int x2] hp (fun v h2 => v = some (.int r) ∧ h2 = hp) := by
  refine kw_met (L := [some (.ref x0), some (.int x1), some (.int x2), none, none]) (r := 2) (by decide +kernel) (Nat.le_of_ble_eq_true rfl) rfl ?_
  unfold X12_doneBy_F at h
  obtain ⟨Q, hQ⟩ : ∃ Q : Option Value → kw_H → Prop, Q = (fun v h2 => v = some (.int r) ∧ h2 = hp) := ⟨_, rfl⟩
  have hK : Q (some (.int r)) hp := by rw [hQ]; exact ⟨rfl, rfl⟩
  rw [← hQ]
  clear hQ
  refine kw_iconst (v := nI 0) dX12_doneBy_0 (by decide) ?_
  refine kw_istore_n (L' := [some (.ref x0), some (.int x1), some (.int x2), some (.int (nI 0)), none]) dX12_doneBy_1 (by decide) rfl ?_
  refine kw_iconst (v := nI 0) dX12_doneBy_2 (by decide) ?_
  refine kw_istore (L' := [some (.ref x0), some (.int x1), some (.int x2), some (.int (nI 0)), some (.int (nI 0))]) dX12_doneBy_3 (by decide) rfl ?_
  exact X12_doneBy_L5_t G Q hp x0 x1 x2 _ (nI 0, nI 0) _ h hK
/-! KitchenWheelsModel.differenceTried()I -/
def X12_differenceTried_K20 (G : kw_G) (Q : Option Value → kw_H → Prop) (hp : kw_H) (x0 : Nat) (x1 : Int32) (r : (Int32 × Int32 × Int32) ⊕ (Int32)) : Prop := match r with
  | .inl z => kw_V G mX12_differenceTried 20 [some (.ref x0), some (.int x1), some (.int z.1), some (.int z.2.1), some (.int z.2.2), none] [] hp Q
  | .inr r => Q (some (.int r)) hp
def X12_differenceTried_J87 (hp : kw_H) (x1 : Int32) (x2 : Int32) (x3 : Int32) : Option (Int32) :=
  (if x1 = 0 then
  some (nI 0)
else
  some (x2 - x3))
set_option maxRecDepth 100000 in
set_option maxHeartbeats 4000000 in
theorem X12_differenceTried_J87_t (G : kw_G) (Q : Option Value → kw_H → Prop) (hp : kw_H) (x1 : Int32) (x2 : Int32) (x3 : Int32) (r : Int32) (h : X12_differenceTried_J87 hp x1 x2 x3 = some r) (hK : Q (some (.int r)) hp) : kw_V G mX12_differenceTried 87 [none, some (.int x1), some (.int x2), some (.int x3), none, none] [] hp Q := by
  unfold X12_differenceTried_J87 at h
  refine kw_iload_n dX12_differenceTried_87 rfl ?_
  refine kw_if_ne 95 dX12_differenceTried_88 (by decide) (fun c2 => ?_) (fun c2 => ?_)
  · have h := (if_neg c2).symm.trans h
    refine kw_iload_n dX12_differenceTried_95 rfl ?_
    refine kw_iload_n dX12_differenceTried_96 rfl ?_
    refine kw_isub dX12_differenceTried_97 ?_
    have h := Option.some.inj h
    subst h
    exact kw_iret rfl dX12_differenceTried_98 hK
  · have h := (if_pos c2).symm.trans h
    refine kw_iconst (v := nI 0) dX12_differenceTried_91 (by decide) ?_
    refine kw_goto 98 dX12_differenceTried_92 (by decide) ?_
    have h := Option.some.inj h
    subst h
    exact kw_iret rfl dX12_differenceTried_98 hK
def X12_differenceTried_J81 (hp : kw_H) (x0 : Nat) (x1 : Int32) (x2 : Int32) (x3 : Int32) (x4 : Int32) : Option (((Int32 × Int32 × Int32) ⊕ (Int32))) :=
  some (.inl (x2, x3, x4 + (nI 1)))
set_option maxRecDepth 100000 in
set_option maxHeartbeats 4000000 in
theorem X12_differenceTried_J81_t (G : kw_G) (Q : Option Value → kw_H → Prop) (hp : kw_H) (x0 : Nat) (x1 : Int32) (x2 : Int32) (x3 : Int32) (x4 : Int32) (r : ((Int32 × Int32 × Int32) ⊕ (Int32))) (h : X12_differenceTried_J81 hp x0 x1 x2 x3 x4 = some r) (hK : X12_differenceTried_K20 G Q hp x0 x1 r) : kw_V G mX12_differenceTried 81 [some (.ref x0), some (.int x1), some (.int x2), some (.int x3), some (.int x4), none] [] hp Q := by
  unfold X12_differenceTried_J81 at h
  refine kv_iinc (w := nI 1) (L' := [some (.ref x0), some (.int x1), some (.int x2), some (.int x3), some (.int (x4 + (nI 1))), none]) dX12_differenceTried_81 (by decide) rfl (by decide) rfl ?_
  refine kw_goto 20 dX12_differenceTried_84 (by decide) ?_
  have h := Option.some.inj h
  subst h
  exact hK
def X12_differenceTried_J80 (hp : kw_H) (x0 : Nat) (x1 : Int32) (x2 : Int32) (x4 : Int32) (s0 : Int32) : Option (((Int32 × Int32 × Int32) ⊕ (Int32))) :=
  X12_differenceTried_J81 hp x0 x1 x2 s0 x4
set_option maxRecDepth 100000 in
set_option maxHeartbeats 4000000 in
theorem X12_differenceTried_J80_t (G : kw_G) (Q : Option Value → kw_H → Prop) (hp : kw_H) (x0 : Nat) (x1 : Int32) (x2 : Int32) (x4 : Int32) (s0 : Int32) (r : ((Int32 × Int32 × Int32) ⊕ (Int32))) (h : X12_differenceTried_J80 hp x0 x1 x2 x4 s0 = some r) (hK : X12_differenceTried_K20 G Q hp x0 x1 r) : kw_V G mX12_differenceTried 80 [some (.ref x0), some (.int x1), some (.int x2), none, some (.int x4), none] [.int s0] hp Q := by
  unfold X12_differenceTried_J80 at h
  refine kw_istore_n (L' := [some (.ref x0), some (.int x1), some (.int x2), some (.int s0), some (.int x4), none]) dX12_differenceTried_80 (by decide) rfl ?_
  exact X12_differenceTried_J81_t G Q hp x0 x1 x2 s0 x4 _ h hK
def X12_differenceTried_J67 (hp : kw_H) (x0 : Nat) (x1 : Int32) (x3 : Int32) (x4 : Int32) (x5 : Int32) (s0 : Int32) : Option (((Int32 × Int32 × Int32) ⊕ (Int32))) :=
  (if x3 ≤ x5 then
  X12_differenceTried_J80 hp x0 x1 s0 x4 x3
else
  X12_differenceTried_J80 hp x0 x1 s0 x4 x5)
set_option maxRecDepth 100000 in
set_option maxHeartbeats 4000000 in
theorem X12_differenceTried_J67_t (G : kw_G) (Q : Option Value → kw_H → Prop) (hp : kw_H) (x0 : Nat) (x1 : Int32) (x3 : Int32) (x4 : Int32) (x5 : Int32) (s0 : Int32) (r : ((Int32 × Int32 × Int32) ⊕ (Int32))) (h : X12_differenceTried_J67 hp x0 x1 x3 x4 x5 s0 = some r) (hK : X12_differenceTried_K20 G Q hp x0 x1 r) : kw_V G mX12_differenceTried 67 [some (.ref x0), some (.int x1), none, some (.int x3), some (.int x4), some (.int x5)] [.int s0] hp Q := by
  unfold X12_differenceTried_J67 at h
  refine kw_istore_n (L' := [some (.ref x0), some (.int x1), some (.int s0), some (.int x3), some (.int x4), some (.int x5)]) dX12_differenceTried_67 (by decide) rfl ?_
  refine kw_iload dX12_differenceTried_68 rfl ?_
  refine kw_iload_n dX12_differenceTried_70 rfl ?_
  refine kw_icmp_ge 79 dX12_differenceTried_71 (by decide) (fun c7 => ?_) (fun c7 => ?_)
  · have h := (if_pos c7).symm.trans h
    refine kw_iload_n dX12_differenceTried_79 rfl ?_
    refine kw_mask [true, true, true, false, true, false] (L' := [some (.ref x0), some (.int x1), some (.int s0), none, some (.int x4), none]) rfl ?_
    exact X12_differenceTried_J80_t G Q hp x0 x1 s0 x4 x3 _ h hK
  · have h := (if_neg c7).symm.trans h
    refine kw_iload dX12_differenceTried_74 rfl ?_
    refine kw_goto 80 dX12_differenceTried_76 (by decide) ?_
    refine kw_mask [true, true, true, false, true, false] (L' := [some (.ref x0), some (.int x1), some (.int s0), none, some (.int x4), none]) rfl ?_
    exact X12_differenceTried_J80_t G Q hp x0 x1 s0 x4 x5 _ h hK
def X12_differenceTried_b20 (hp : kw_H) (x0 : Nat) (x1 : Int32) (x2 : Int32) (x3 : Int32) (x4 : Int32) : Option (((Int32 × Int32 × Int32) ⊕ (Int32))) :=
  (if (nI 6) ≤ x4 then
  (X12_differenceTried_J87 hp x1 x2 x3).map (fun r => .inr (r))
else
  (X12_has_F hp x1 x4).bind fun r4 =>
  (if r4 = 0 then
  X12_differenceTried_J81 hp x0 x1 x2 x3 x4
else
  ((kp_ob hp x0 11).bind fun _ => X12_doneBy_F hp x0 (nI 1782) x4).bind fun r5 =>
  ((kp_ob hp x0 11).bind fun _ => X12_doneBy_F hp x0 (nI 0) x4).bind fun r6 =>
  (if (r5 - r6) ≤ x2 then
  X12_differenceTried_J67 hp x0 x1 x3 x4 (r5 - r6) x2
else
  X12_differenceTried_J67 hp x0 x1 x3 x4 (r5 - r6) (r5 - r6))))
set_option maxRecDepth 100000 in
set_option maxHeartbeats 4000000 in
theorem X12_differenceTried_b20_t (G : kw_G) (Q : Option Value → kw_H → Prop) (hp : kw_H) (x0 : Nat) (x1 : Int32) (x2 : Int32) (x3 : Int32) (x4 : Int32) (r : ((Int32 × Int32 × Int32) ⊕ (Int32))) (h : X12_differenceTried_b20 hp x0 x1 x2 x3 x4 = some r) (hK : X12_differenceTried_K20 G Q hp x0 x1 r) : kw_V G mX12_differenceTried 20 [some (.ref x0), some (.int x1), some (.int x2), some (.int x3), some (.int x4), none] [] hp Q := by
  unfold X12_differenceTried_b20 at h
  refine kw_iload dX12_differenceTried_20 rfl ?_
  refine kw_bipush (v := nI 6) dX12_differenceTried_22 (by decide) ?_
  refine kw_icmp_ge 87 dX12_differenceTried_24 (by decide) (fun c10 => ?_) (fun c10 => ?_)
  · have h := (if_pos c10).symm.trans h
    refine kw_mask [false, true, true, true, false, true] (L' := [none, some (.int x1), some (.int x2), some (.int x3), none, none]) rfl ?_
    obtain ⟨r3, hr3, hrr3⟩ := Option.map_eq_some_iff.mp h
    subst hrr3
    exact X12_differenceTried_J87_t G Q hp x1 x2 x3 r3 hr3 hK
  · have h := (if_neg c10).symm.trans h
    refine kw_iload_n dX12_differenceTried_27 rfl ?_
    refine kw_iload dX12_differenceTried_28 rfl ?_
    obtain ⟨r4, er4, h⟩ := Option.bind_eq_some_iff.mp h
    refine kw_callS (As := [.int x1, .int x4]) (S := []) cbX12_differenceTried_X12_has lkX12_148 stX12_has rfl rfl (Nat.le_of_ble_eq_true rfl) dX12_differenceTried_30 (X12_has_c G hp x1 x4 _ er4) (fun vv hh hq => ?_)
    rw [hq.1, hq.2]
    show kw_V G mX12_differenceTried 33 [some (.ref x0), some (.int x1), some (.int x2), some (.int x3), some (.int x4), none] [.int r4] hp Q
    refine kw_if_eq 81 dX12_differenceTried_33 (by decide) (fun c9 => ?_) (fun c9 => ?_)
    · have h := (if_pos c9).symm.trans h
      exact X12_differenceTried_J81_t G Q hp x0 x1 x2 x3 x4 _ h hK
    · have h := (if_neg c9).symm.trans h
      refine kw_aload_n dX12_differenceTried_36 rfl ?_
      refine kw_sipush (v := nI 1782) dX12_differenceTried_37 (by decide) ?_
      refine kw_iload dX12_differenceTried_40 rfl ?_
      obtain ⟨r5, er5, h⟩ := Option.bind_eq_some_iff.mp h
      obtain ⟨ur5, eur5, er5⟩ := Option.bind_eq_some_iff.mp er5
      obtain ⟨fsr5, hor5⟩ := kp_ob_inv eur5
      refine kw_callV (As := [.int (nI 1782), .int x4]) (S := []) kcX12 cbX12_differenceTried_X12_doneBy lkX12_204 imX12_doneBy seX12_X12_doneBy_X12_doneBy rfl rfl (Nat.le_of_ble_eq_true rfl) dX12_differenceTried_42 hor5 (X12_doneBy_c G hp x0 (nI 1782) x4 _ er5) (fun vv hh hq => ?_)
      rw [hq.1, hq.2]
      show kw_V G mX12_differenceTried 45 [some (.ref x0), some (.int x1), some (.int x2), some (.int x3), some (.int x4), none] [.int r5] hp Q
      refine kw_aload_n dX12_differenceTried_45 rfl ?_
      refine kw_iconst (v := nI 0) dX12_differenceTried_46 (by decide) ?_
      refine kw_iload dX12_differenceTried_47 rfl ?_
      obtain ⟨r6, er6, h⟩ := Option.bind_eq_some_iff.mp h
      obtain ⟨ur6, eur6, er6⟩ := Option.bind_eq_some_iff.mp er6
      obtain ⟨fsr6, hor6⟩ := kp_ob_inv eur6
      refine kw_callV (As := [.int (nI 0), .int x4]) (S := [.int r5]) kcX12 cbX12_differenceTried_X12_doneBy lkX12_204 imX12_doneBy seX12_X12_doneBy_X12_doneBy rfl rfl (Nat.le_of_ble_eq_true rfl) dX12_differenceTried_49 hor6 (X12_doneBy_c G hp x0 (nI 0) x4 _ er6) (fun vv hh hq => ?_)
      rw [hq.1, hq.2]
      show kw_V G mX12_differenceTried 52 [some (.ref x0), some (.int x1), some (.int x2), some (.int x3), some (.int x4), none] [.int r6, .int r5] hp Q
      refine kw_isub dX12_differenceTried_52 ?_
      refine kw_istore (L' := [some (.ref x0), some (.int x1), some (.int x2), some (.int x3), some (.int x4), some (.int (r5 - r6))]) dX12_differenceTried_53 (by decide) rfl ?_
      refine kw_iload dX12_differenceTried_55 rfl ?_
      refine kw_iload_n dX12_differenceTried_57 rfl ?_
      refine kw_icmp_le 66 dX12_differenceTried_58 (by decide) (fun c8 => ?_) (fun c8 => ?_)
      · have h := (if_pos c8).symm.trans h
        refine kw_iload_n dX12_differenceTried_66 rfl ?_
        refine kw_mask [true, true, false, true, true, true] (L' := [some (.ref x0), some (.int x1), none, some (.int x3), some (.int x4), some (.int (r5 - r6))]) rfl ?_
        exact X12_differenceTried_J67_t G Q hp x0 x1 x3 x4 (r5 - r6) x2 _ h hK
      · have h := (if_neg c8).symm.trans h
        refine kw_iload dX12_differenceTried_61 rfl ?_
        refine kw_goto 67 dX12_differenceTried_63 (by decide) ?_
        refine kw_mask [true, true, false, true, true, true] (L' := [some (.ref x0), some (.int x1), none, some (.int x3), some (.int x4), some (.int (r5 - r6))]) rfl ?_
        exact X12_differenceTried_J67_t G Q hp x0 x1 x3 x4 (r5 - r6) (r5 - r6) _ h hK
def X12_differenceTried_B20 (hp : kw_H) (x0 : Nat) (x1 : Int32) (z : Int32 × Int32 × Int32) : Option (((Int32 × Int32 × Int32) ⊕ (Int32))) := X12_differenceTried_b20 hp x0 x1 z.1 z.2.1 z.2.2
theorem X12_differenceTried_L20_t (G : kw_G) (Q : Option Value → kw_H → Prop) (hp : kw_H) (x0 : Nat) (x1 : Int32) (n : Nat) (z : Int32 × Int32 × Int32) (r : Int32) (h : kp_lp (X12_differenceTried_B20 hp x0 x1) n z = some r) (hK : Q (some (.int r)) hp) : kw_V G mX12_differenceTried 20 [some (.ref x0), some (.int x1), some (.int z.1), some (.int z.2.1), some (.int z.2.2), none] [] hp Q :=
  kv_lp _ (fun z => kw_V G mX12_differenceTried 20 [some (.ref x0), some (.int x1), some (.int z.1), some (.int z.2.1), some (.int z.2.2), none] [] hp Q) (fun r => Q (some (.int r)) hp) (fun z x hb hx => X12_differenceTried_b20_t G Q hp x0 x1 z.1 z.2.1 z.2.2 x hb (by cases x <;> exact hx)) n z r h hK
def X12_differenceTried_F (hp : kw_H) (x0 : Nat) : Option (Int32) :=
  ((kp_ob hp x0 11).bind fun _ => X12_onWheel_F hp x0 (nI 1782) (nI 6) (nI 0)).bind fun r1 =>
  kp_lp (X12_differenceTried_B20 hp x0 r1) 2000 ((-1000000), nI 1000000, nI 0)
set_option maxRecDepth 100000 in
set_option maxHeartbeats 4000000 in
theorem X12_differenceTried_c (G : kw_G) (hp : kw_H) (x0 : Nat) (r : Int32) (h : X12_differenceTried_F hp x0 = some r) : kw_Met G mX12_differenceTried [.ref x0] hp (fun v h2 => v = some (.int r) ∧ h2 = hp) := by
  refine kw_met (L := [some (.ref x0), none, none, none, none, none]) (r := 5) (by decide +kernel) (Nat.le_of_ble_eq_true rfl) rfl ?_
  unfold X12_differenceTried_F at h
  obtain ⟨Q, hQ⟩ : ∃ Q : Option Value → kw_H → Prop, Q = (fun v h2 => v = some (.int r) ∧ h2 = hp) := ⟨_, rfl⟩
  have hK : Q (some (.int r)) hp := by rw [hQ]; exact ⟨rfl, rfl⟩
  rw [← hQ]
  clear hQ
  refine kw_aload_n dX12_differenceTried_0 rfl ?_
  refine kw_sipush (v := nI 1782) dX12_differenceTried_1 (by decide) ?_
  refine kw_bipush (v := nI 6) dX12_differenceTried_4 (by decide) ?_
  refine kw_iconst (v := nI 0) dX12_differenceTried_6 (by decide) ?_
  obtain ⟨r1, er1, h⟩ := Option.bind_eq_some_iff.mp h
  obtain ⟨ur1, eur1, er1⟩ := Option.bind_eq_some_iff.mp er1
  obtain ⟨fsr1, hor1⟩ := kp_ob_inv eur1
  refine kw_callV (As := [.int (nI 1782), .int (nI 6), .int (nI 0)]) (S := []) kcX12 cbX12_differenceTried_X12_onWheel lkX12_197 imX12_onWheel seX12_X12_onWheel_X12_onWheel rfl rfl (Nat.le_of_ble_eq_true rfl) dX12_differenceTried_7 hor1 (X12_onWheel_c G hp x0 (nI 1782) (nI 6) (nI 0) _ er1) (fun vv hh hq => ?_)
  rw [hq.1, hq.2]
  show kw_V G mX12_differenceTried 10 [some (.ref x0), none, none, none, none, none] [.int r1] hp Q
  refine kw_istore_n (L' := [some (.ref x0), some (.int r1), none, none, none, none]) dX12_differenceTried_10 (by decide) rfl ?_
  refine kw_ldc (v := (-1000000)) dX12_differenceTried_11 ckX12_99 ?_
  refine kw_istore_n (L' := [some (.ref x0), some (.int r1), some (.int ((-1000000))), none, none, none]) dX12_differenceTried_13 (by decide) rfl ?_
  refine kw_ldc (v := nI 1000000) dX12_differenceTried_14 ckX12_203 ?_
  refine kw_istore_n (L' := [some (.ref x0), some (.int r1), some (.int ((-1000000))), some (.int (nI 1000000)), none, none]) dX12_differenceTried_16 (by decide) rfl ?_
  refine kw_iconst (v := nI 0) dX12_differenceTried_17 (by decide) ?_
  refine kw_istore (L' := [some (.ref x0), some (.int r1), some (.int ((-1000000))), some (.int (nI 1000000)), some (.int (nI 0)), none]) dX12_differenceTried_18 (by decide) rfl ?_
  exact X12_differenceTried_L20_t G Q hp x0 r1 _ ((-1000000), nI 1000000, nI 0) _ h hK
