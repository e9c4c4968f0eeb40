/-! KitchenWheels$Law.<init>(II)V -/
def X3_init_F (hp : kw_H) (x0 : Nat) (x1 : Int32) (x2 : Int32) : Option (kw_H) :=
  (X10_init_F hp x0 x1 x2).bind fun r1 =>
  some (r1)
set_option maxRecDepth 100000 in
set_option maxHeartbeats 4000000 in
theorem X3_init_c (G : kw_G) (hp : kw_H) (x0 : Nat) (x1 : Int32) (x2 : Int32) (r : kw_H) (h : X3_init_F hp x0 x1 x2 = some r) : kw_Met G mX3_init [.ref x0, .int x1, .int x2] hp (fun v h2 => v = none ∧ h2 = r) := by
  refine kw_met (L := [some (.ref x0), some (.int x1), some (.int x2)]) (r := 0) (by decide +kernel) (Nat.le_of_ble_eq_true rfl) rfl ?_
  unfold X3_init_F at h
  obtain ⟨Q, hQ⟩ : ∃ Q : Option Value → kw_H → Prop, Q = (fun v h2 => v = none ∧ h2 = r) := ⟨_, rfl⟩
  have hK : Q none r := by rw [hQ]; exact ⟨rfl, rfl⟩
  rw [← hQ]
  clear hQ
  refine kw_aload_n dX3_init_0 rfl ?_
  refine kw_iload_n dX3_init_1 rfl ?_
  refine kw_iload_n dX3_init_2 rfl ?_
  obtain ⟨r1, er1, h⟩ := Option.bind_eq_some_iff.mp h
  refine kw_callI (As := [.int x1, .int x2]) (S := []) cbX3_init_X10_init rfl rfl lkX3_1 imX10_init rfl rfl (Nat.le_of_ble_eq_true rfl) dX3_init_3 (X10_init_c G hp x0 x1 x2 _ er1) (fun vv hh hq => ?_)
  rw [hq.1, hq.2]
  show kw_V G mX3_init 6 [some (.ref x0), some (.int x1), some (.int x2)] [] r1 Q
  have h := Option.some.inj h
  subst h
  exact kw_vret rfl dX3_init_6 hK
/-! KitchenWheels$Righter.<init>(II)V -/
def X5_init_F (hp : kw_H) (x0 : Nat) (x1 : Int32) (x2 : Int32) : Option (kw_H) :=
  (X3_init_F hp x0 x1 x2).bind fun r1 =>
  some (r1)
set_option maxRecDepth 100000 in
set_option maxHeartbeats 4000000 in
theorem X5_init_c (G : kw_G) (hp : kw_H) (x0 : Nat) (x1 : Int32) (x2 : Int32) (r : kw_H) (h : X5_init_F hp x0 x1 x2 = some r) : kw_Met G mX5_init [.ref x0, .int x1, .int x2] hp (fun v h2 => v = none ∧ h2 = r) := by
  refine kw_met (L := [some (.ref x0), some (.int x1), some (.int x2)]) (r := 0) (by decide +kernel) (Nat.le_of_ble_eq_true rfl) rfl ?_
  unfold X5_init_F at h
  obtain ⟨Q, hQ⟩ : ∃ Q : Option Value → kw_H → Prop, Q = (fun v h2 => v = none ∧ h2 = r) := ⟨_, rfl⟩
  have hK : Q none r := by rw [hQ]; exact ⟨rfl, rfl⟩
  rw [← hQ]
  clear hQ
  refine kw_aload_n dX5_init_0 rfl ?_
  refine kw_iload_n dX5_init_1 rfl ?_
  refine kw_iload_n dX5_init_2 rfl ?_
  obtain ⟨r1, er1, h⟩ := Option.bind_eq_some_iff.mp h
  refine kw_callI (As := [.int x1, .int x2]) (S := []) cbX5_init_X3_init rfl rfl lkX5_1 imX3_init rfl rfl (Nat.le_of_ble_eq_true rfl) dX5_init_3 (X3_init_c G hp x0 x1 x2 _ er1) (fun vv hh hq => ?_)
  rw [hq.1, hq.2]
  show kw_V G mX5_init 6 [some (.ref x0), some (.int x1), some (.int x2)] [] r1 Q
  have h := Option.some.inj h
  subst h
  exact kw_vret rfl dX5_init_6 hK
/-! KitchenWheels$Step.<init>(II)V -/
def X7_init_F (hp : kw_H) (x0 : Nat) (x1 : Int32) (x2 : Int32) : Option (kw_H) :=
  (X4_init_F hp x0 x1 x2).bind fun r1 =>
  some (r1)
set_option maxRecDepth 100000 in
set_option maxHeartbeats 4000000 in
theorem X7_init_c (G : kw_G) (hp : kw_H) (x0 : Nat) (x1 : Int32) (x2 : Int32) (r : kw_H) (h : X7_init_F hp x0 x1 x2 = some r) : kw_Met G mX7_init [.ref x0, .int x1, .int x2] hp (fun v h2 => v = none ∧ h2 = r) := by
  refine kw_met (L := [some (.ref x0), some (.int x1), some (.int x2)]) (r := 0) (by decide +kernel) (Nat.le_of_ble_eq_true rfl) rfl ?_
  unfold X7_init_F at h
  obtain ⟨Q, hQ⟩ : ∃ Q : Option Value → kw_H → Prop, Q = (fun v h2 => v = none ∧ h2 = r) := ⟨_, rfl⟩
  have hK : Q none r := by rw [hQ]; exact ⟨rfl, rfl⟩
  rw [← hQ]
  clear hQ
  refine kw_aload_n dX7_init_0 rfl ?_
  refine kw_iload_n dX7_init_1 rfl ?_
  refine kw_iload_n dX7_init_2 rfl ?_
  obtain ⟨r1, er1, h⟩ := Option.bind_eq_some_iff.mp h
  refine kw_callI (As := [.int x1, .int x2]) (S := []) cbX7_init_X4_init rfl rfl lkX7_1 imX4_init rfl rfl (Nat.le_of_ble_eq_true rfl) dX7_init_3 (X4_init_c G hp x0 x1 x2 _ er1) (fun vv hh hq => ?_)
  rw [hq.1, hq.2]
  show kw_V G mX7_init 6 [some (.ref x0), some (.int x1), some (.int x2)] [] r1 Q
  have h := Option.some.inj h
  subst h
  exact kw_vret rfl dX7_init_6 hK
/-! KitchenWheels$Turner.made(III)LKitchenWheels$Turner; -/
def X10_made_F (hp : kw_H) (x0 : Int32) (x1 : Int32) (x2 : Int32) : Option (Option Nat × kw_H) :=
  (if x0 = nI 1 then
  (kp_al hp [.inr (4, [.int 0, .int 0])]).bind fun hp1 =>
  (X4_init_F hp1 (List.length hp) x1 x2).bind fun r2 =>
  some ((some (List.length hp), r2))
else if x0 = nI 2 then
  (kp_al hp [.inr (7, [.int 0, .int 0])]).bind fun hp4 =>
  (X7_init_F hp4 (List.length hp) x1 x2).bind fun r5 =>
  some ((some (List.length hp), r5))
else if x0 = nI 3 then
  (kp_al hp [.inr (0, [.int 0, .int 0])]).bind fun hp7 =>
  (X0_init_F hp7 (List.length hp) x1 x2).bind fun r8 =>
  some ((some (List.length hp), r8))
else if x0 = nI 4 then
  (kp_al hp [.inr (3, [.int 0, .int 0])]).bind fun hp10 =>
  (X3_init_F hp10 (List.length hp) x1 x2).bind fun r11 =>
  some ((some (List.length hp), r11))
else 
  (kp_al hp [.inr (5, [.int 0, .int 0])]).bind fun hp13 =>
  (X5_init_F hp13 (List.length hp) x1 x2).bind fun r14 =>
  some ((some (List.length hp), r14)))
set_option maxRecDepth 100000 in
set_option maxHeartbeats 4000000 in
theorem X10_made_c (G : kw_G) (hp : kw_H) (x0 : Int32) (x1 : Int32) (x2 : Int32) (r : Option Nat × kw_H) (h : X10_made_F hp x0 x1 x2 = some r) : kw_Met G mX10_made [.int x0, .int x1, .int x2] hp (fun v h2 => v = some (va_rf r.1) ∧ h2 = r.2) := by
  refine kw_met (L := [some (.int x0), some (.int x1), some (.int x2)]) (r := 0) (by decide +kernel) (Nat.le_of_ble_eq_true rfl) rfl ?_
  unfold X10_made_F at h
  obtain ⟨Q, hQ⟩ : ∃ Q : Option Value → kw_H → Prop, Q = (fun v h2 => v = some (va_rf r.1) ∧ h2 = r.2) := ⟨_, rfl⟩
  have hK : Q (some (va_rf r.1)) r.2 := by rw [hQ]; exact ⟨rfl, rfl⟩
  rw [← hQ]
  clear hQ
  refine kw_iload_n dX10_made_0 rfl ?_
  by_cases c3 : x0 = nI 1
  · refine kw_tableIn (off := 31) 32 dX10_made_1 (by rw [c3]; decide) (by rw [c3]; decide) (by rw [c3]; decide) (by decide) ?_
    have h := (if_pos c3).symm.trans h
    obtain ⟨hp1, ehp1, h⟩ := Option.bind_eq_some_iff.mp h
    refine kv_new (fs := [.int 0, .int 0]) kcX4 tyX4_ok (by decide) dfX4 clX10_16 iaX4 in_X4 dX10_made_32 ehp1 ?_
    refine kw_dup dX10_made_35 rfl ?_
    refine kw_iload_n dX10_made_36 rfl ?_
    refine kw_iload_n dX10_made_37 rfl ?_
    obtain ⟨r2, er2, h⟩ := Option.bind_eq_some_iff.mp h
    refine kw_callI (As := [.int x1, .int x2]) (S := [.ref (List.length hp)]) cbX10_made_X4_init rfl rfl lkX10_18 imX4_init rfl rfl (Nat.le_of_ble_eq_true rfl) dX10_made_38 (X4_init_c G hp1 (List.length hp) x1 x2 _ er2) (fun vv hh hq => ?_)
    rw [hq.1, hq.2]
    show kw_V G mX10_made 41 [some (.int x0), some (.int x1), some (.int x2)] [.ref (List.length hp)] r2 Q
    have h := Option.some.inj h
    subst h
    exact kw_aret rfl dX10_made_41 hK
  · have h := (if_neg c3).symm.trans h
    by_cases c6 : x0 = nI 2
    · refine kw_tableIn (off := 41) 42 dX10_made_1 (by rw [c6]; decide) (by rw [c6]; decide) (by rw [c6]; decide) (by decide) ?_
      have h := (if_pos c6).symm.trans h
      obtain ⟨hp4, ehp4, h⟩ := Option.bind_eq_some_iff.mp h
      refine kv_new (fs := [.int 0, .int 0]) kcX7 tyX7_ok (by decide) dfX7 clX10_21 iaX7 in_X7 dX10_made_42 ehp4 ?_
      refine kw_dup dX10_made_45 rfl ?_
      refine kw_iload_n dX10_made_46 rfl ?_
      refine kw_iload_n dX10_made_47 rfl ?_
      obtain ⟨r5, er5, h⟩ := Option.bind_eq_some_iff.mp h
      refine kw_callI (As := [.int x1, .int x2]) (S := [.ref (List.length hp)]) cbX10_made_X7_init rfl rfl lkX10_23 imX7_init rfl rfl (Nat.le_of_ble_eq_true rfl) dX10_made_48 (X7_init_c G hp4 (List.length hp) x1 x2 _ er5) (fun vv hh hq => ?_)
      rw [hq.1, hq.2]
      show kw_V G mX10_made 51 [some (.int x0), some (.int x1), some (.int x2)] [.ref (List.length hp)] r5 Q
      have h := Option.some.inj h
      subst h
      exact kw_aret rfl dX10_made_51 hK
    · have h := (if_neg c6).symm.trans h
      by_cases c9 : x0 = nI 3
      · refine kw_tableIn (off := 51) 52 dX10_made_1 (by rw [c9]; decide) (by rw [c9]; decide) (by rw [c9]; decide) (by decide) ?_
        have h := (if_pos c9).symm.trans h
        obtain ⟨hp7, ehp7, h⟩ := Option.bind_eq_some_iff.mp h
        refine kv_new (fs := [.int 0, .int 0]) kcX0 tyX0_ok (by decide) dfX0 clX10_24 iaX0 in_X0 dX10_made_52 ehp7 ?_
        refine kw_dup dX10_made_55 rfl ?_
        refine kw_iload_n dX10_made_56 rfl ?_
        refine kw_iload_n dX10_made_57 rfl ?_
        obtain ⟨r8, er8, h⟩ := Option.bind_eq_some_iff.mp h
        refine kw_callI (As := [.int x1, .int x2]) (S := [.ref (List.length hp)]) cbX10_made_X0_init rfl rfl lkX10_26 imX0_init rfl rfl (Nat.le_of_ble_eq_true rfl) dX10_made_58 (X0_init_c G hp7 (List.length hp) x1 x2 _ er8) (fun vv hh hq => ?_)
        rw [hq.1, hq.2]
        show kw_V G mX10_made 61 [some (.int x0), some (.int x1), some (.int x2)] [.ref (List.length hp)] r8 Q
        have h := Option.some.inj h
        subst h
        exact kw_aret rfl dX10_made_61 hK
      · have h := (if_neg c9).symm.trans h
        by_cases c12 : x0 = nI 4
        · refine kw_tableIn (off := 61) 62 dX10_made_1 (by rw [c12]; decide) (by rw [c12]; decide) (by rw [c12]; decide) (by decide) ?_
          have h := (if_pos c12).symm.trans h
          obtain ⟨hp10, ehp10, h⟩ := Option.bind_eq_some_iff.mp h
          refine kv_new (fs := [.int 0, .int 0]) kcX3 tyX3_ok (by decide) dfX3 clX10_27 iaX3 in_X3 dX10_made_62 ehp10 ?_
          refine kw_dup dX10_made_65 rfl ?_
          refine kw_iload_n dX10_made_66 rfl ?_
          refine kw_iload_n dX10_made_67 rfl ?_
          obtain ⟨r11, er11, h⟩ := Option.bind_eq_some_iff.mp h
          refine kw_callI (As := [.int x1, .int x2]) (S := [.ref (List.length hp)]) cbX10_made_X3_init rfl rfl lkX10_29 imX3_init rfl rfl (Nat.le_of_ble_eq_true rfl) dX10_made_68 (X3_init_c G hp10 (List.length hp) x1 x2 _ er11) (fun vv hh hq => ?_)
          rw [hq.1, hq.2]
          show kw_V G mX10_made 71 [some (.int x0), some (.int x1), some (.int x2)] [.ref (List.length hp)] r11 Q
          have h := Option.some.inj h
          subst h
          exact kw_aret rfl dX10_made_71 hK
        · have h := (if_neg c12).symm.trans h
          refine kw_tableOut 72 dX10_made_1 (by have n0 := lv_neT (a := 1) c3 (by decide); have n1 := lv_neT (a := 2) c6 (by decide); have n2 := lv_neT (a := 3) c9 (by decide); have n3 := lv_neT (a := 4) c12 (by decide); omega) (by decide) ?_
          obtain ⟨hp13, ehp13, h⟩ := Option.bind_eq_some_iff.mp h
          refine kv_new (fs := [.int 0, .int 0]) kcX5 tyX5_ok (by decide) dfX5 clX10_30 iaX5 in_X5 dX10_made_72 ehp13 ?_
          refine kw_dup dX10_made_75 rfl ?_
          refine kw_iload_n dX10_made_76 rfl ?_
          refine kw_iload_n dX10_made_77 rfl ?_
          obtain ⟨r14, er14, h⟩ := Option.bind_eq_some_iff.mp h
          refine kw_callI (As := [.int x1, .int x2]) (S := [.ref (List.length hp)]) cbX10_made_X5_init rfl rfl lkX10_32 imX5_init rfl rfl (Nat.le_of_ble_eq_true rfl) dX10_made_78 (X5_init_c G hp13 (List.length hp) x1 x2 _ er14) (fun vv hh hq => ?_)
          rw [hq.1, hq.2]
          show kw_V G mX10_made 81 [some (.int x0), some (.int x1), some (.int x2)] [.ref (List.length hp)] r14 Q
          have h := Option.some.inj h
          subst h
          exact kw_aret rfl dX10_made_81 hK
/-! KitchenWheels$Foreteller.kindsSeen(LKitchenWheels$Kitchen;ILKitchenWheels$Rows;III)I -/
def X1_kindsSeen_K37 (G : kw_G) (Q : Option Value → kw_H → Prop) (x0 : Nat) (x2 : Int32) (x3 : Nat) (x4 : Int32) (x5 : Int32) (x6 : Int32) (x7 : Nat) (r : (Int32 × Int32 × kw_H) ⊕ (Int32 × kw_H)) : Prop := match r with
  | .inl z => kw_V G mX1_kindsSeen 37 [some (.ref x0), none, some (.int x2), some (.ref x3), some (.int x4), some (.int x5), some (.int x6), some (.ref x7), some (.int z.1), some (.int z.2.1), none, none, none] [] z.2.2 Q
  | .inr r => Q (some (.int r.1)) r.2
def X1_kindsSeen_J160 (hp : kw_H) (x8 : Int32) : Option (Int32 × kw_H) :=
  some ((x8, hp))
set_option maxRecDepth 100000 in
set_option maxHeartbeats 4000000 in
theorem X1_kindsSeen_J160_t (G : kw_G) (Q : Option Value → kw_H → Prop) (hp : kw_H) (x8 : Int32) (r : Int32 × kw_H) (h : X1_kindsSeen_J160 hp x8 = some r) (hK : Q (some (.int r.1)) r.2) : kw_V G mX1_kindsSeen 160 [none, none, none, none, none, none, none, none, some (.int x8), none, none, none, none] [] hp Q := by
  unfold X1_kindsSeen_J160 at h
  refine kw_iload dX1_kindsSeen_160 rfl ?_
  have h := Option.some.inj h
  subst h
  exact kw_iret rfl dX1_kindsSeen_162 hK
def X1_kindsSeen_K78 (G : kw_G) (Q : Option Value → kw_H → Prop) (hp : kw_H) (x0 : Nat) (x2 : Int32) (x3 : Nat) (x4 : Int32) (x5 : Int32) (x6 : Int32) (x7 : Nat) (x8 : Int32) (x9 : Int32) (r : (Int32 × Int32 × Int32) ⊕ (((Int32 × Int32 × kw_H) ⊕ (Int32 × kw_H)))) : Prop := match r with
  | .inl z => kw_V G mX1_kindsSeen 78 [some (.ref x0), none, some (.int x2), some (.ref x3), some (.int x4), some (.int x5), some (.int x6), some (.ref x7), some (.int x8), some (.int x9), some (.int z.1), some (.int z.2.1), some (.int z.2.2)] [] hp Q
  | .inr r => X1_kindsSeen_K37 G Q x0 x2 x3 x4 x5 x6 x7 r
def X1_kindsSeen_J154 (hp : kw_H) (x0 : Nat) (x2 : Int32) (x3 : Nat) (x4 : Int32) (x5 : Int32) (x6 : Int32) (x7 : Nat) (x8 : Int32) (x9 : Int32) : Option (((Int32 × Int32 × kw_H) ⊕ (Int32 × kw_H))) :=
  some (.inl (x8, x9 + (nI 1), hp))
set_option maxRecDepth 100000 in
set_option maxHeartbeats 4000000 in
theorem X1_kindsSeen_J154_t (G : kw_G) (Q : Option Value → kw_H → Prop) (hp : kw_H) (x0 : Nat) (x2 : Int32) (x3 : Nat) (x4 : Int32) (x5 : Int32) (x6 : Int32) (x7 : Nat) (x8 : Int32) (x9 : Int32) (r : ((Int32 × Int32 × kw_H) ⊕ (Int32 × kw_H))) (h : X1_kindsSeen_J154 hp x0 x2 x3 x4 x5 x6 x7 x8 x9 = some r) (hK : X1_kindsSeen_K37 G Q x0 x2 x3 x4 x5 x6 x7 r) : kw_V G mX1_kindsSeen 154 [some (.ref x0), none, some (.int x2), some (.ref x3), some (.int x4), some (.int x5), some (.int x6), some (.ref x7), some (.int x8), some (.int x9), none, none, none] [] hp Q := by
  unfold X1_kindsSeen_J154 at h
  refine kv_iinc (w := nI 1) (L' := [some (.ref x0), none, some (.int x2), some (.ref x3), some (.int x4), some (.int x5), some (.int x6), some (.ref x7), some (.int x8), some (.int (x9 + (nI 1))), none, none, none]) dX1_kindsSeen_154 (by decide) rfl (by decide) rfl ?_
  refine kw_goto 37 dX1_kindsSeen_157 (by decide) ?_
  have h := Option.some.inj h
  subst h
  exact hK
def X1_kindsSeen_J140 (hp : kw_H) (x0 : Nat) (x2 : Int32) (x3 : Nat) (x4 : Int32) (x5 : Int32) (x6 : Int32) (x7 : Nat) (x8 : Int32) (x9 : Int32) (x11 : Int32) : Option (((Int32 × Int32 × kw_H) ⊕ (Int32 × kw_H))) :=
  (if x11 = 0 then
  X1_kindsSeen_J154 hp x0 x2 x3 x4 x5 x6 x7 x8 x9
else
  X1_kindsSeen_J154 hp x0 x2 x3 x4 x5 x6 x7 (x8 ||| ((nI 1) <<< (x9 &&& 31))) x9)
set_option maxRecDepth 100000 in
set_option maxHeartbeats 4000000 in
theorem X1_kindsSeen_J140_t (G : kw_G) (Q : Option Value → kw_H → Prop) (hp : kw_H) (x0 : Nat) (x2 : Int32) (x3 : Nat) (x4 : Int32) (x5 : Int32) (x6 : Int32) (x7 : Nat) (x8 : Int32) (x9 : Int32) (x11 : Int32) (r : ((Int32 × Int32 × kw_H) ⊕ (Int32 × kw_H))) (h : X1_kindsSeen_J140 hp x0 x2 x3 x4 x5 x6 x7 x8 x9 x11 = some r) (hK : X1_kindsSeen_K37 G Q x0 x2 x3 x4 x5 x6 x7 r) : kw_V G mX1_kindsSeen 140 [some (.ref x0), none, some (.int x2), some (.ref x3), some (.int x4), some (.int x5), some (.int x6), some (.ref x7), some (.int x8), some (.int x9), none, some (.int x11), none] [] hp Q := by
  unfold X1_kindsSeen_J140 at h
  refine kw_iload dX1_kindsSeen_140 rfl ?_
  refine kw_if_eq 154 dX1_kindsSeen_142 (by decide) (fun c17 => ?_) (fun c17 => ?_)
  · have h := (if_pos c17).symm.trans h
    refine kw_mask [true, true, true, true, true, true, true, true, true, true, true, false, true] (L' := [some (.ref x0), none, some (.int x2), some (.ref x3), some (.int x4), some (.int x5), some (.int x6), some (.ref x7), some (.int x8), some (.int x9), none, none, none]) rfl ?_
    exact X1_kindsSeen_J154_t G Q hp x0 x2 x3 x4 x5 x6 x7 x8 x9 _ h hK
  · have h := (if_neg c17).symm.trans h
    refine kw_iload dX1_kindsSeen_145 rfl ?_
    refine kw_iconst (v := nI 1) dX1_kindsSeen_147 (by decide) ?_
    refine kw_iload dX1_kindsSeen_148 rfl ?_
    refine kw_ishl dX1_kindsSeen_150 ?_
    refine kw_ior dX1_kindsSeen_151 ?_
    refine kw_istore (L' := [some (.ref x0), none, some (.int x2), some (.ref x3), some (.int x4), some (.int x5), some (.int x6), some (.ref x7), some (.int (x8 ||| ((nI 1) <<< (x9 &&& 31)))), some (.int x9), none, some (.int x11), none]) dX1_kindsSeen_152 (by decide) rfl ?_
    refine kw_mask [true, true, true, true, true, true, true, true, true, true, true, false, true] (L' := [some (.ref x0), none, some (.int x2), some (.ref x3), some (.int x4), some (.int x5), some (.int x6), some (.ref x7), some (.int (x8 ||| ((nI 1) <<< (x9 &&& 31)))), some (.int x9), none, none, none]) rfl ?_
    exact X1_kindsSeen_J154_t G Q hp x0 x2 x3 x4 x5 x6 x7 (x8 ||| ((nI 1) <<< (x9 &&& 31))) x9 _ h hK
def X1_kindsSeen_J132 (hp : kw_H) (x0 : Nat) (x2 : Int32) (x3 : Nat) (x4 : Int32) (x5 : Int32) (x6 : Int32) (x7 : Nat) (x8 : Int32) (x9 : Int32) (x10 : Int32) (x12 : Int32) (s0 : Int32) : Option (((Int32 × Int32 × Int32) ⊕ (((Int32 × Int32 × kw_H) ⊕ (Int32 × kw_H))))) :=
  some (.inl (x10, s0, x12 + (nI 1)))
set_option maxRecDepth 100000 in
set_option maxHeartbeats 4000000 in
theorem X1_kindsSeen_J132_t (G : kw_G) (Q : Option Value → kw_H → Prop) (hp : kw_H) (x0 : Nat) (x2 : Int32) (x3 : Nat) (x4 : Int32) (x5 : Int32) (x6 : Int32) (x7 : Nat) (x8 : Int32) (x9 : Int32) (x10 : Int32) (x12 : Int32) (s0 : Int32) (r : ((Int32 × Int32 × Int32) ⊕ (((Int32 × Int32 × kw_H) ⊕ (Int32 × kw_H))))) (h : X1_kindsSeen_J132 hp x0 x2 x3 x4 x5 x6 x7 x8 x9 x10 x12 s0 = some r) (hK : X1_kindsSeen_K78 G Q hp x0 x2 x3 x4 x5 x6 x7 x8 x9 r) : kw_V G mX1_kindsSeen 132 [some (.ref x0), none, some (.int x2), some (.ref x3), some (.int x4), some (.int x5), some (.int x6), some (.ref x7), some (.int x8), some (.int x9), some (.int x10), none, some (.int x12)] [.int s0] hp Q := by
  unfold X1_kindsSeen_J132 at h
  refine kw_istore (L' := [some (.ref x0), none, some (.int x2), some (.ref x3), some (.int x4), some (.int x5), some (.int x6), some (.ref x7), some (.int x8), some (.int x9), some (.int x10), some (.int s0), some (.int x12)]) dX1_kindsSeen_132 (by decide) rfl ?_
  refine kv_iinc (w := nI 1) (L' := [some (.ref x0), none, some (.int x2), some (.ref x3), some (.int x4), some (.int x5), some (.int x6), some (.ref x7), some (.int x8), some (.int x9), some (.int x10), some (.int s0), some (.int (x12 + (nI 1)))]) dX1_kindsSeen_134 (by decide) rfl (by decide) rfl ?_
  refine kw_goto 78 dX1_kindsSeen_137 (by decide) ?_
  have h := Option.some.inj h
  subst h
  exact hK
def X1_kindsSeen_b78 (hp : kw_H) (x0 : Nat) (x2 : Int32) (x3 : Nat) (x4 : Int32) (x5 : Int32) (x6 : Int32) (x7 : Nat) (x8 : Int32) (x9 : Int32) (x10 : Int32) (x11 : Int32) (x12 : Int32) : Option (((Int32 × Int32 × Int32) ⊕ (((Int32 × Int32 × kw_H) ⊕ (Int32 × kw_H))))) :=
  (if x6 ≤ x12 then
  (X1_kindsSeen_J140 hp x0 x2 x3 x4 x5 x6 x7 x8 x9 x11).map (fun r => .inr (r))
else
  (if x11 = 0 then
  (X1_kindsSeen_J140 hp x0 x2 x3 x4 x5 x6 x7 x8 x9 x11).map (fun r => .inr (r))
else
  (kp_gR hp x0 [1] 0).bind fun v20 =>
  (kp_gR hp x0 [1] 0).bind fun v21 =>
  (kp_gI hp v21 [2] 7).bind fun v22 =>
  ((kp_ob hp v20 2).bind fun _ => X2_turnedNext_F hp v20 x10 (v22 + x12)).bind fun r23 =>
  ((kp_ob hp x3 6).bind fun _ => X6_itemAt_F hp x3 x4 (x5 + x12)).bind fun r24 =>
  (if r23 = r24 then
  X1_kindsSeen_J132 hp x0 x2 x3 x4 x5 x6 x7 x8 x9 r23 x12 (nI 1)
else
  X1_kindsSeen_J132 hp x0 x2 x3 x4 x5 x6 x7 x8 x9 r23 x12 (nI 0))))
set_option maxRecDepth 100000 in
set_option maxHeartbeats 4000000 in
theorem X1_kindsSeen_b78_t (G : kw_G) (Q : Option Value → kw_H → Prop) (hp : kw_H) (x0 : Nat) (x2 : Int32) (x3 : Nat) (x4 : Int32) (x5 : Int32) (x6 : Int32) (x7 : Nat) (x8 : Int32) (x9 : Int32) (x10 : Int32) (x11 : Int32) (x12 : Int32) (r : ((Int32 × Int32 × Int32) ⊕ (((Int32 × Int32 × kw_H) ⊕ (Int32 × kw_H))))) (h : X1_kindsSeen_b78 hp x0 x2 x3 x4 x5 x6 x7 x8 x9 x10 x11 x12 = some r) (hK : X1_kindsSeen_K78 G Q hp x0 x2 x3 x4 x5 x6 x7 x8 x9 r) : kw_V G mX1_kindsSeen 78 [some (.ref x0), none, some (.int x2), some (.ref x3), some (.int x4), some (.int x5), some (.int x6), some (.ref x7), some (.int x8), some (.int x9), some (.int x10), some (.int x11), some (.int x12)] [] hp Q := by
  unfold X1_kindsSeen_b78 at h
  refine kw_iload dX1_kindsSeen_78 rfl ?_
  refine kw_iload dX1_kindsSeen_80 rfl ?_
  refine kw_icmp_ge 140 dX1_kindsSeen_82 (by decide) (fun c27 => ?_) (fun c27 => ?_)
  · have h := (if_pos c27).symm.trans h
    refine kw_mask [true, true, true, true, true, true, true, true, true, true, false, true, false] (L' := [some (.ref x0), none, some (.int x2), some (.ref x3), some (.int x4), some (.int x5), some (.int x6), some (.ref x7), some (.int x8), some (.int x9), none, some (.int x11), none]) rfl ?_
    obtain ⟨r18, hr18, hrr18⟩ := Option.map_eq_some_iff.mp h
    subst hrr18
    exact X1_kindsSeen_J140_t G Q hp x0 x2 x3 x4 x5 x6 x7 x8 x9 x11 r18 hr18 hK
  · have h := (if_neg c27).symm.trans h
    refine kw_iload dX1_kindsSeen_85 rfl ?_
    refine kw_if_eq 140 dX1_kindsSeen_87 (by decide) (fun c26 => ?_) (fun c26 => ?_)
    · have h := (if_pos c26).symm.trans h
      refine kw_mask [true, true, true, true, true, true, true, true, true, true, false, true, false] (L' := [some (.ref x0), none, some (.int x2), some (.ref x3), some (.int x4), some (.int x5), some (.int x6), some (.ref x7), some (.int x8), some (.int x9), none, some (.int x11), none]) rfl ?_
      obtain ⟨r19, hr19, hrr19⟩ := Option.map_eq_some_iff.mp h
      subst hrr19
      exact X1_kindsSeen_J140_t G Q hp x0 x2 x3 x4 x5 x6 x7 x8 x9 x11 r19 hr19 hK
    · have h := (if_neg c26).symm.trans h
      refine kw_aload_n dX1_kindsSeen_90 rfl ?_
      obtain ⟨v20, ev20, h⟩ := Option.bind_eq_some_iff.mp h
      refine kv_gR gfX1_12 dX1_kindsSeen_91 ev20 ?_
      refine kw_iload dX1_kindsSeen_94 rfl ?_
      refine kw_aload_n dX1_kindsSeen_96 rfl ?_
      obtain ⟨v21, ev21, h⟩ := Option.bind_eq_some_iff.mp h
      refine kv_gR gfX1_12 dX1_kindsSeen_97 ev21 ?_
      obtain ⟨v22, ev22, h⟩ := Option.bind_eq_some_iff.mp h
      refine kv_gI gfX1_48 dX1_kindsSeen_100 ev22 ?_
      refine kw_iload dX1_kindsSeen_103 rfl ?_
      refine kw_iadd dX1_kindsSeen_105 ?_
      obtain ⟨r23, er23, h⟩ := Option.bind_eq_some_iff.mp h
      obtain ⟨ur23, eur23, er23⟩ := Option.bind_eq_some_iff.mp er23
      obtain ⟨fsr23, hor23⟩ := kp_ob_inv eur23
      refine kw_callV (As := [.int x10, .int (v22 + x12)]) (S := []) kcX2 cbX1_kindsSeen_X2_turnedNext lkX1_51 imX2_turnedNext seX2_X2_turnedNext_X2_turnedNext rfl rfl (Nat.le_of_ble_eq_true rfl) dX1_kindsSeen_106 hor23 (X2_turnedNext_c G hp v20 x10 (v22 + x12) _ er23) (fun vv hh hq => ?_)
      rw [hq.1, hq.2]
      show kw_V G mX1_kindsSeen 109 [some (.ref x0), none, some (.int x2), some (.ref x3), some (.int x4), some (.int x5), some (.int x6), some (.ref x7), some (.int x8), some (.int x9), some (.int x10), some (.int x11), some (.int x12)] [.int r23] hp Q
      refine kw_istore (L' := [some (.ref x0), none, some (.int x2), some (.ref x3), some (.int x4), some (.int x5), some (.int x6), some (.ref x7), some (.int x8), some (.int x9), some (.int r23), some (.int x11), some (.int x12)]) dX1_kindsSeen_109 (by decide) rfl ?_
      refine kw_iload dX1_kindsSeen_111 rfl ?_
      refine kw_aload_n dX1_kindsSeen_113 rfl ?_
      refine kw_iload dX1_kindsSeen_114 rfl ?_
      refine kw_iload dX1_kindsSeen_116 rfl ?_
      refine kw_iload dX1_kindsSeen_118 rfl ?_
      refine kw_iadd dX1_kindsSeen_120 ?_
      obtain ⟨r24, er24, h⟩ := Option.bind_eq_some_iff.mp h
      obtain ⟨ur24, eur24, er24⟩ := Option.bind_eq_some_iff.mp er24
      obtain ⟨fsr24, hor24⟩ := kp_ob_inv eur24
      refine kw_callV (As := [.int x4, .int (x5 + x12)]) (S := [.int r23]) kcX6 cbX1_kindsSeen_X6_itemAt lkX1_139 imX6_itemAt seX6_X6_itemAt_X6_itemAt rfl rfl (Nat.le_of_ble_eq_true rfl) dX1_kindsSeen_121 hor24 (X6_itemAt_c G hp x3 x4 (x5 + x12) _ er24) (fun vv hh hq => ?_)
      rw [hq.1, hq.2]
      show kw_V G mX1_kindsSeen 124 [some (.ref x0), none, some (.int x2), some (.ref x3), some (.int x4), some (.int x5), some (.int x6), some (.ref x7), some (.int x8), some (.int x9), some (.int r23), some (.int x11), some (.int x12)] [.int r24, .int r23] hp Q
      refine kw_icmp_ne 131 dX1_kindsSeen_124 (by decide) (fun c25 => ?_) (fun c25 => ?_)
      · have h := (if_neg c25).symm.trans h
        refine kw_iconst (v := nI 0) dX1_kindsSeen_131 (by decide) ?_
        refine kw_mask [true, true, true, true, true, true, true, true, true, true, true, false, true] (L' := [some (.ref x0), none, some (.int x2), some (.ref x3), some (.int x4), some (.int x5), some (.int x6), some (.ref x7), some (.int x8), some (.int x9), some (.int r23), none, some (.int x12)]) rfl ?_
        exact X1_kindsSeen_J132_t G Q hp x0 x2 x3 x4 x5 x6 x7 x8 x9 r23 x12 (nI 0) _ h hK
      · have h := (if_pos c25).symm.trans h
        refine kw_iconst (v := nI 1) dX1_kindsSeen_127 (by decide) ?_
        refine kw_goto 132 dX1_kindsSeen_128 (by decide) ?_
        refine kw_mask [true, true, true, true, true, true, true, true, true, true, true, false, true] (L' := [some (.ref x0), none, some (.int x2), some (.ref x3), some (.int x4), some (.int x5), some (.int x6), some (.ref x7), some (.int x8), some (.int x9), some (.int r23), none, some (.int x12)]) rfl ?_
        exact X1_kindsSeen_J132_t G Q hp x0 x2 x3 x4 x5 x6 x7 x8 x9 r23 x12 (nI 1) _ h hK
def X1_kindsSeen_B78 (hp : kw_H) (x0 : Nat) (x2 : Int32) (x3 : Nat) (x4 : Int32) (x5 : Int32) (x6 : Int32) (x7 : Nat) (x8 : Int32) (x9 : Int32) (z : Int32 × Int32 × Int32) : Option (((Int32 × Int32 × Int32) ⊕ (((Int32 × Int32 × kw_H) ⊕ (Int32 × kw_H))))) := X1_kindsSeen_b78 hp x0 x2 x3 x4 x5 x6 x7 x8 x9 z.1 z.2.1 z.2.2
theorem X1_kindsSeen_L78_t (G : kw_G) (Q : Option Value → kw_H → Prop) (hp : kw_H) (x0 : Nat) (x2 : Int32) (x3 : Nat) (x4 : Int32) (x5 : Int32) (x6 : Int32) (x7 : Nat) (x8 : Int32) (x9 : Int32) (n : Nat) (z : Int32 × Int32 × Int32) (r : ((Int32 × Int32 × kw_H) ⊕ (Int32 × kw_H))) (h : kp_lp (X1_kindsSeen_B78 hp x0 x2 x3 x4 x5 x6 x7 x8 x9) n z = some r) (hK : X1_kindsSeen_K37 G Q x0 x2 x3 x4 x5 x6 x7 r) : kw_V G mX1_kindsSeen 78 [some (.ref x0), none, some (.int x2), some (.ref x3), some (.int x4), some (.int x5), some (.int x6), some (.ref x7), some (.int x8), some (.int x9), some (.int z.1), some (.int z.2.1), some (.int z.2.2)] [] hp Q :=
  kv_lp _ (fun z => kw_V G mX1_kindsSeen 78 [some (.ref x0), none, some (.int x2), some (.ref x3), some (.int x4), some (.int x5), some (.int x6), some (.ref x7), some (.int x8), some (.int x9), some (.int z.1), some (.int z.2.1), some (.int z.2.2)] [] hp Q) (fun r => X1_kindsSeen_K37 G Q x0 x2 x3 x4 x5 x6 x7 r) (fun z x hb hx => X1_kindsSeen_b78_t G Q hp x0 x2 x3 x4 x5 x6 x7 x8 x9 z.1 z.2.1 z.2.2 x hb (by cases x <;> exact hx)) n z r h hK
def X1_kindsSeen_b37 (x0 : Nat) (x2 : Int32) (x3 : Nat) (x4 : Int32) (x5 : Int32) (x6 : Int32) (x7 : Nat) (x8 : Int32) (x9 : Int32) (hp : kw_H) : Option (((Int32 × Int32 × kw_H) ⊕ (Int32 × kw_H))) :=
  (if (nI 5) < x9 then
  (X1_kindsSeen_J160 hp x8).map (fun r => .inr (r))
else
  (kp_gR hp x0 [1] 0).bind fun v8 =>
  (kp_gR hp v8 [2] 2).bind fun v9 =>
  (kp_gI hp x7 [0, 3, 4, 5, 7] 1).bind fun v10 =>
  (X10_made_F hp x9 x2 v10).bind fun r11 =>
  kp_spl r11 fun o12 hpo12 =>
  kp_nu o12 ((kp_stR hpo12 3 v9 x2 none [0, 3, 4, 5, 7]).bind fun hp14 =>
  (kp_gR hp14 x0 [1] 0).bind fun v15 =>
  (kp_gI hp14 v15 [2] 8).bind fun v16 =>
  kp_lp (X1_kindsSeen_B78 hp14 x0 x2 x3 x4 x5 x6 x7 x8 x9) 2000 (v16, nI 1, nI 0)) (fun b13 =>
  (kp_stR hpo12 3 v9 x2 (some b13) [0, 3, 4, 5, 7]).bind fun hp28 =>
  (kp_gR hp28 x0 [1] 0).bind fun v29 =>
  (kp_gI hp28 v29 [2] 8).bind fun v30 =>
  kp_lp (X1_kindsSeen_B78 hp28 x0 x2 x3 x4 x5 x6 x7 x8 x9) 2000 (v30, nI 1, nI 0)))
set_option maxRecDepth 100000 in
set_option maxHeartbeats 4000000 in
theorem X1_kindsSeen_b37_t (G : kw_G) (Q : Option Value → kw_H → Prop) (x0 : Nat) (x2 : Int32) (x3 : Nat) (x4 : Int32) (x5 : Int32) (x6 : Int32) (x7 : Nat) (x8 : Int32) (x9 : Int32) (hp : kw_H) (r : ((Int32 × Int32 × kw_H) ⊕ (Int32 × kw_H))) (h : X1_kindsSeen_b37 x0 x2 x3 x4 x5 x6 x7 x8 x9 hp = some r) (hK : X1_kindsSeen_K37 G Q x0 x2 x3 x4 x5 x6 x7 r) : kw_V G mX1_kindsSeen 37 [some (.ref x0), none, some (.int x2), some (.ref x3), some (.int x4), some (.int x5), some (.int x6), some (.ref x7), some (.int x8), some (.int x9), none, none, none] [] hp Q := by
  unfold X1_kindsSeen_b37 at h
  refine kw_iload dX1_kindsSeen_37 rfl ?_
  refine kw_iconst (v := nI 5) dX1_kindsSeen_39 (by decide) ?_
  refine kw_icmp_gt 160 dX1_kindsSeen_40 (by decide) (fun c31 => ?_) (fun c31 => ?_)
  · have h := (if_pos c31).symm.trans h
    refine kw_mask [false, true, false, false, false, false, false, false, true, false, true, true, true] (L' := [none, none, none, none, none, none, none, none, some (.int x8), none, none, none, none]) rfl ?_
    obtain ⟨r7, hr7, hrr7⟩ := Option.map_eq_some_iff.mp h
    subst hrr7
    exact X1_kindsSeen_J160_t G Q hp x8 r7 hr7 hK
  · have h := (if_neg c31).symm.trans h
    refine kw_aload_n dX1_kindsSeen_43 rfl ?_
    obtain ⟨v8, ev8, h⟩ := Option.bind_eq_some_iff.mp h
    refine kv_gR gfX1_12 dX1_kindsSeen_44 ev8 ?_
    obtain ⟨v9, ev9, h⟩ := Option.bind_eq_some_iff.mp h
    refine kv_gR gfX1_148 dX1_kindsSeen_47 ev9 ?_
    refine kw_iload_n dX1_kindsSeen_50 rfl ?_
    refine kw_iload dX1_kindsSeen_51 rfl ?_
    refine kw_iload_n dX1_kindsSeen_53 rfl ?_
    refine kw_aload dX1_kindsSeen_54 rfl ?_
    obtain ⟨v10, ev10, h⟩ := Option.bind_eq_some_iff.mp h
    refine kv_gI gfX1_152 dX1_kindsSeen_56 ev10 ?_
    obtain ⟨r11, er11, h⟩ := Option.bind_eq_some_iff.mp h
    refine kw_callS (As := [.int x9, .int x2, .int v10]) (S := [.int x2, .ref v9]) cbX1_kindsSeen_X10_made lkX1_157 stX10_made rfl rfl (Nat.le_of_ble_eq_true rfl) dX1_kindsSeen_59 (X10_made_c G hp x9 x2 v10 _ er11) (fun vv hh hq => ?_)
    rw [hq.1, hq.2]
    obtain ⟨o12, hpo12⟩ := r11
    dsimp only [kp_spl] at h ⊢
    show kw_V G mX1_kindsSeen 62 [some (.ref x0), none, some (.int x2), some (.ref x3), some (.int x4), some (.int x5), some (.int x6), some (.ref x7), some (.int x8), some (.int x9), none, none, none] (va_rf o12 :: [.int x2, .ref v9]) hpo12 Q
    cases o12 with
    | none =>
      dsimp only [kp_nu, va_rf] at h ⊢
      obtain ⟨hp14, ehp14, h⟩ := Option.bind_eq_some_iff.mp h
      refine kv_stRN (by decide) dX1_kindsSeen_62 ehp14 ?_
      refine kw_aload_n dX1_kindsSeen_63 rfl ?_
      obtain ⟨v15, ev15, h⟩ := Option.bind_eq_some_iff.mp h
      refine kv_gR gfX1_12 dX1_kindsSeen_64 ev15 ?_
      obtain ⟨v16, ev16, h⟩ := Option.bind_eq_some_iff.mp h
      refine kv_gI gfX1_29 dX1_kindsSeen_67 ev16 ?_
      refine kw_istore (L' := [some (.ref x0), none, some (.int x2), some (.ref x3), some (.int x4), some (.int x5), some (.int x6), some (.ref x7), some (.int x8), some (.int x9), some (.int v16), none, none]) dX1_kindsSeen_70 (by decide) rfl ?_
      refine kw_iconst (v := nI 1) dX1_kindsSeen_72 (by decide) ?_
      refine kw_istore (L' := [some (.ref x0), none, some (.int x2), some (.ref x3), some (.int x4), some (.int x5), some (.int x6), some (.ref x7), some (.int x8), some (.int x9), some (.int v16), some (.int (nI 1)), none]) dX1_kindsSeen_73 (by decide) rfl ?_
      refine kw_iconst (v := nI 0) dX1_kindsSeen_75 (by decide) ?_
      refine kw_istore (L' := [some (.ref x0), none, some (.int x2), some (.ref x3), some (.int x4), some (.int x5), some (.int x6), some (.ref x7), some (.int x8), some (.int x9), some (.int v16), some (.int (nI 1)), some (.int (nI 0))]) dX1_kindsSeen_76 (by decide) rfl ?_
      exact X1_kindsSeen_L78_t G Q hp14 x0 x2 x3 x4 x5 x6 x7 x8 x9 _ (v16, nI 1, nI 0) _ h hK
    | some b13 =>
      dsimp only [kp_nu, va_rf] at h ⊢
      obtain ⟨hp28, ehp28, h⟩ := Option.bind_eq_some_iff.mp h
      refine kv_stR ao3 dX1_kindsSeen_62 ehp28 ?_
      refine kw_aload_n dX1_kindsSeen_63 rfl ?_
      obtain ⟨v29, ev29, h⟩ := Option.bind_eq_some_iff.mp h
      refine kv_gR gfX1_12 dX1_kindsSeen_64 ev29 ?_
      obtain ⟨v30, ev30, h⟩ := Option.bind_eq_some_iff.mp h
      refine kv_gI gfX1_29 dX1_kindsSeen_67 ev30 ?_
      refine kw_istore (L' := [some (.ref x0), none, some (.int x2), some (.ref x3), some (.int x4), some (.int x5), some (.int x6), some (.ref x7), some (.int x8), some (.int x9), some (.int v30), none, none]) dX1_kindsSeen_70 (by decide) rfl ?_
      refine kw_iconst (v := nI 1) dX1_kindsSeen_72 (by decide) ?_
      refine kw_istore (L' := [some (.ref x0), none, some (.int x2), some (.ref x3), some (.int x4), some (.int x5), some (.int x6), some (.ref x7), some (.int x8), some (.int x9), some (.int v30), some (.int (nI 1)), none]) dX1_kindsSeen_73 (by decide) rfl ?_
      refine kw_iconst (v := nI 0) dX1_kindsSeen_75 (by decide) ?_
      refine kw_istore (L' := [some (.ref x0), none, some (.int x2), some (.ref x3), some (.int x4), some (.int x5), some (.int x6), some (.ref x7), some (.int x8), some (.int x9), some (.int v30), some (.int (nI 1)), some (.int (nI 0))]) dX1_kindsSeen_76 (by decide) rfl ?_
      exact X1_kindsSeen_L78_t G Q hp28 x0 x2 x3 x4 x5 x6 x7 x8 x9 _ (v30, nI 1, nI 0) _ h hK
def X1_kindsSeen_B37 (x0 : Nat) (x2 : Int32) (x3 : Nat) (x4 : Int32) (x5 : Int32) (x6 : Int32) (x7 : Nat) (z : Int32 × Int32 × kw_H) : Option (((Int32 × Int32 × kw_H) ⊕ (Int32 × kw_H))) := X1_kindsSeen_b37 x0 x2 x3 x4 x5 x6 x7 z.1 z.2.1 z.2.2
theorem X1_kindsSeen_L37_t (G : kw_G) (Q : Option Value → kw_H → Prop) (x0 : Nat) (x2 : Int32) (x3 : Nat) (x4 : Int32) (x5 : Int32) (x6 : Int32) (x7 : Nat) (n : Nat) (z : Int32 × Int32 × kw_H) (r : Int32 × kw_H) (h : kp_lp (X1_kindsSeen_B37 x0 x2 x3 x4 x5 x6 x7) n z = some r) (hK : Q (some (.int r.1)) r.2) : kw_V G mX1_kindsSeen 37 [some (.ref x0), none, some (.int x2), some (.ref x3), some (.int x4), some (.int x5), some (.int x6), some (.ref x7), some (.int z.1), some (.int z.2.1), none, none, none] [] z.2.2 Q :=
  kv_lp _ (fun z => kw_V G mX1_kindsSeen 37 [some (.ref x0), none, some (.int x2), some (.ref x3), some (.int x4), some (.int x5), some (.int x6), some (.ref x7), some (.int z.1), some (.int z.2.1), none, none, none] [] z.2.2 Q) (fun r => Q (some (.int r.1)) r.2) (fun z x hb hx => X1_kindsSeen_b37_t G Q x0 x2 x3 x4 x5 x6 x7 z.1 z.2.1 z.2.2 x hb (by cases x <;> exact hx)) n z r h hK
def X1_kindsSeen_F (hp : kw_H) (x0 : Nat) (x1 : Nat) (x2 : Int32) (x3 : Nat) (x4 : Int32) (x5 : Int32) (x6 : Int32) : Option (Int32 × kw_H) :=
  ((kp_ob hp x1 2).bind fun _ => X2_turnerAt_F hp x1 x2).bind fun r1 =>
  kp_nu r1 (some ((nI 0, hp))) (fun b3 =>
  (X11_within_F hp x2 (nI 0) (nI 3)).bind fun r4 =>
  (if r4 = 0 then
  some ((nI 0, hp))
else
  (kp_gR hp x0 [1] 0).bind fun v5 =>
  ((kp_ob hp v5 2).bind fun _ => X2_become_F hp v5 x1).bind fun r6 =>
  kp_lp (X1_kindsSeen_B37 x0 x2 x3 x4 x5 x6 b3) 2000 (nI 0, nI 1, r6)))
set_option maxRecDepth 100000 in
set_option maxHeartbeats 4000000 in
theorem X1_kindsSeen_c (G : kw_G) (hp : kw_H) (x0 : Nat) (x1 : Nat) (x2 : Int32) (x3 : Nat) (x4 : Int32) (x5 : Int32) (x6 : Int32) (r : Int32 × kw_H) (h : X1_kindsSeen_F hp x0 x1 x2 x3 x4 x5 x6 = some r) : kw_Met G mX1_kindsSeen [.ref x0, .ref x1, .int x2, .ref x3, .int x4, .int x5, .int x6] hp (fun v h2 => v = some (.int r.1) ∧ h2 = r.2) := by
  refine kw_met (L := [some (.ref x0), some (.ref x1), some (.int x2), some (.ref x3), some (.int x4), some (.int x5), some (.int x6), none, none, none, none, none, none]) (r := 6) (by decide +kernel) (Nat.le_of_ble_eq_true rfl) rfl ?_
  unfold X1_kindsSeen_F at h
  obtain ⟨Q, hQ⟩ : ∃ Q : Option Value → kw_H → Prop, Q = (fun v h2 => v = some (.int r.1) ∧ h2 = r.2) := ⟨_, rfl⟩
  have hK : Q (some (.int r.1)) r.2 := by rw [hQ]; exact ⟨rfl, rfl⟩
  rw [← hQ]
  clear hQ
  refine kw_aload_n dX1_kindsSeen_0 rfl ?_
  refine kw_iload_n dX1_kindsSeen_1 rfl ?_
  obtain ⟨r1, er1, h⟩ := Option.bind_eq_some_iff.mp h
  obtain ⟨ur1, eur1, er1⟩ := Option.bind_eq_some_iff.mp er1
  obtain ⟨fsr1, hor1⟩ := kp_ob_inv eur1
  refine kw_callV (As := [.int x2]) (S := []) kcX2 cbX1_kindsSeen_X2_turnerAt lkX1_144 imX2_turnerAt seX2_X2_turnerAt_X2_turnerAt rfl rfl (Nat.le_of_ble_eq_true rfl) dX1_kindsSeen_2 hor1 (X2_turnerAt_c G hp x1 x2 _ er1) (fun vv hh hq => ?_)
  rw [hq.1, hq.2]
  show kw_V G mX1_kindsSeen 5 [some (.ref x0), some (.ref x1), some (.int x2), some (.ref x3), some (.int x4), some (.int x5), some (.int x6), none, none, none, none, none, none] (va_rf r1 :: []) hp Q
  cases r1 with
  | none =>
    dsimp only [kp_nu, va_rf] at h ⊢
    refine kw_astoreN (L' := [some (.ref x0), some (.ref x1), some (.int x2), some (.ref x3), some (.int x4), some (.int x5), some (.int x6), some (.null), none, none, none, none, none]) dX1_kindsSeen_5 (by decide) rfl ?_
    refine kw_aloadN dX1_kindsSeen_7 rfl ?_
    refine kw_ifnullN 21 dX1_kindsSeen_9 (by decide) ?_
    refine kw_iconst (v := nI 0) dX1_kindsSeen_21 (by decide) ?_
    have h := Option.some.inj h
    subst h
    exact kw_iret rfl dX1_kindsSeen_22 hK
  | some b3 =>
    dsimp only [kp_nu, va_rf] at h ⊢
    refine kw_astore (L' := [some (.ref x0), some (.ref x1), some (.int x2), some (.ref x3), some (.int x4), some (.int x5), some (.int x6), some (.ref b3), none, none, none, none, none]) dX1_kindsSeen_5 (by decide) rfl ?_
    refine kw_aload dX1_kindsSeen_7 rfl ?_
    refine kw_ifnull dX1_kindsSeen_9 ?_
    refine kw_iload_n dX1_kindsSeen_12 rfl ?_
    refine kw_iconst (v := nI 0) dX1_kindsSeen_13 (by decide) ?_
    refine kw_iconst (v := nI 3) dX1_kindsSeen_14 (by decide) ?_
    obtain ⟨r4, er4, h⟩ := Option.bind_eq_some_iff.mp h
    refine kw_callSN (As := [.int x2, .int (nI 0), .int (nI 3)]) (S := []) cbX1_kindsSeen_X11_within lnX1_119 stX11_within rfl rfl (Nat.le_of_ble_eq_true rfl) dX1_kindsSeen_15 (X11_within_c G hp x2 (nI 0) (nI 3) _ er4) (fun vv hh hq => ?_)
    rw [hq.1, hq.2]
    show kw_V G mX1_kindsSeen 18 [some (.ref x0), some (.ref x1), some (.int x2), some (.ref x3), some (.int x4), some (.int x5), some (.int x6), some (.ref b3), none, none, none, none, none] [.int r4] hp Q
    refine kw_if_ne 23 dX1_kindsSeen_18 (by decide) (fun c32 => ?_) (fun c32 => ?_)
    · have h := (if_neg c32).symm.trans h
      refine kw_aload_n dX1_kindsSeen_23 rfl ?_
      obtain ⟨v5, ev5, h⟩ := Option.bind_eq_some_iff.mp h
      refine kv_gR gfX1_12 dX1_kindsSeen_24 ev5 ?_
      refine kw_aload_n dX1_kindsSeen_27 rfl ?_
      obtain ⟨r6, er6, h⟩ := Option.bind_eq_some_iff.mp h
      obtain ⟨ur6, eur6, er6⟩ := Option.bind_eq_some_iff.mp er6
      obtain ⟨fsr6, hor6⟩ := kp_ob_inv eur6
      refine kw_callV (As := [.ref x1]) (S := []) kcX2 cbX1_kindsSeen_X2_become lkX1_111 imX2_become seX2_X2_become_X2_become rfl rfl (Nat.le_of_ble_eq_true rfl) dX1_kindsSeen_28 hor6 (X2_become_c G hp v5 x1 _ er6) (fun vv hh hq => ?_)
      rw [hq.1, hq.2]
      show kw_V G mX1_kindsSeen 31 [some (.ref x0), some (.ref x1), some (.int x2), some (.ref x3), some (.int x4), some (.int x5), some (.int x6), some (.ref b3), none, none, none, none, none] [] r6 Q
      refine kw_iconst (v := nI 0) dX1_kindsSeen_31 (by decide) ?_
      refine kw_istore (L' := [some (.ref x0), some (.ref x1), some (.int x2), some (.ref x3), some (.int x4), some (.int x5), some (.int x6), some (.ref b3), some (.int (nI 0)), none, none, none, none]) dX1_kindsSeen_32 (by decide) rfl ?_
      refine kw_iconst (v := nI 1) dX1_kindsSeen_34 (by decide) ?_
      refine kw_istore (L' := [some (.ref x0), some (.ref x1), some (.int x2), some (.ref x3), some (.int x4), some (.int x5), some (.int x6), some (.ref b3), some (.int (nI 0)), some (.int (nI 1)), none, none, none]) dX1_kindsSeen_35 (by decide) rfl ?_
      refine kw_mask [true, false, true, true, true, true, true, true, true, true, true, true, true] (L' := [some (.ref x0), none, some (.int x2), some (.ref x3), some (.int x4), some (.int x5), some (.int x6), some (.ref b3), some (.int (nI 0)), some (.int (nI 1)), none, none, none]) rfl ?_
      exact X1_kindsSeen_L37_t G Q x0 x2 x3 x4 x5 x6 b3 _ (nI 0, nI 1, r6) _ h hK
    · have h := (if_pos c32).symm.trans h
      refine kw_iconst (v := nI 0) dX1_kindsSeen_21 (by decide) ?_
      have h := Option.some.inj h
      subst h
      exact kw_iret rfl dX1_kindsSeen_22 hK
/-! java/lang/Integer.bitCount(I)I -/
def J6_bitCount_0f7a4_F (hp : kw_H) (x0 : Int32) : Option (Int32) :=
  some ((((((((x0 - (((x0.toUInt32 >>> ((nI 1).toUInt32 &&& Int32.toUInt32 31)).toInt32) &&& (nI 1431655765))) &&& (nI 858993459)) + ((((x0 - (((x0.toUInt32 >>> ((nI 1).toUInt32 &&& Int32.toUInt32 31)).toInt32) &&& (nI 1431655765))).toUInt32 >>> ((nI 2).toUInt32 &&& Int32.toUInt32 31)).toInt32) &&& (nI 858993459))) + (((((x0 - (((x0.toUInt32 >>> ((nI 1).toUInt32 &&& Int32.toUInt32 31)).toInt32) &&& (nI 1431655765))) &&& (nI 858993459)) + ((((x0 - (((x0.toUInt32 >>> ((nI 1).toUInt32 &&& Int32.toUInt32 31)).toInt32) &&& (nI 1431655765))).toUInt32 >>> ((nI 2).toUInt32 &&& Int32.toUInt32 31)).toInt32) &&& (nI 858993459))).toUInt32 >>> ((nI 4).toUInt32 &&& Int32.toUInt32 31)).toInt32)) &&& (nI 252645135)) + (((((((x0 - (((x0.toUInt32 >>> ((nI 1).toUInt32 &&& Int32.toUInt32 31)).toInt32) &&& (nI 1431655765))) &&& (nI 858993459)) + ((((x0 - (((x0.toUInt32 >>> ((nI 1).toUInt32 &&& Int32.toUInt32 31)).toInt32) &&& (nI 1431655765))).toUInt32 >>> ((nI 2).toUInt32 &&& Int32.toUInt32 31)).toInt32) &&& (nI 858993459))) + (((((x0 - (((x0.toUInt32 >>> ((nI 1).toUInt32 &&& Int32.toUInt32 31)).toInt32) &&& (nI 1431655765))) &&& (nI 858993459)) + ((((x0 - (((x0.toUInt32 >>> ((nI 1).toUInt32 &&& Int32.toUInt32 31)).toInt32) &&& (nI 1431655765))).toUInt32 >>> ((nI 2).toUInt32 &&& Int32.toUInt32 31)).toInt32) &&& (nI 858993459))).toUInt32 >>> ((nI 4).toUInt32 &&& Int32.toUInt32 31)).toInt32)) &&& (nI 252645135)).toUInt32 >>> ((nI 8).toUInt32 &&& Int32.toUInt32 31)).toInt32)) + ((((((((x0 - (((x0.toUInt32 >>> ((nI 1).toUInt32 &&& Int32.toUInt32 31)).toInt32) &&& (nI 1431655765))) &&& (nI 858993459)) + ((((x0 - (((x0.toUInt32 >>> ((nI 1).toUInt32 &&& Int32.toUInt32 31)).toInt32) &&& (nI 1431655765))).toUInt32 >>> ((nI 2).toUInt32 &&& Int32.toUInt32 31)).toInt32) &&& (nI 858993459))) + (((((x0 - (((x0.toUInt32 >>> ((nI 1).toUInt32 &&& Int32.toUInt32 31)).toInt32) &&& (nI 1431655765))) &&& (nI 858993459)) + ((((x0 - (((x0.toUInt32 >>> ((nI 1).toUInt32 &&& Int32.toUInt32 31)).toInt32) &&& (nI 1431655765))).toUInt32 >>> ((nI 2).toUInt32 &&& Int32.toUInt32 31)).toInt32) &&& (nI 858993459))).toUInt32 >>> ((nI 4).toUInt32 &&& Int32.toUInt32 31)).toInt32)) &&& (nI 252645135)) + (((((((x0 - (((x0.toUInt32 >>> ((nI 1).toUInt32 &&& Int32.toUInt32 31)).toInt32) &&& (nI 1431655765))) &&& (nI 858993459)) + ((((x0 - (((x0.toUInt32 >>> ((nI 1).toUInt32 &&& Int32.toUInt32 31)).toInt32) &&& (nI 1431655765))).toUInt32 >>> ((nI 2).toUInt32 &&& Int32.toUInt32 31)).toInt32) &&& (nI 858993459))) + (((((x0 - (((x0.toUInt32 >>> ((nI 1).toUInt32 &&& Int32.toUInt32 31)).toInt32) &&& (nI 1431655765))) &&& (nI 858993459)) + ((((x0 - (((x0.toUInt32 >>> ((nI 1).toUInt32 &&& Int32.toUInt32 31)).toInt32) &&& (nI 1431655765))).toUInt32 >>> ((nI 2).toUInt32 &&& Int32.toUInt32 31)).toInt32) &&& (nI 858993459))).toUInt32 >>> ((nI 4).toUInt32 &&& Int32.toUInt32 31)).toInt32)) &&& (nI 252645135)).toUInt32 >>> ((nI 8).toUInt32 &&& Int32.toUInt32 31)).toInt32)).toUInt32 >>> ((nI 16).toUInt32 &&& Int32.toUInt32 31)).toInt32)) &&& (nI 63))
set_option maxRecDepth 100000 in
set_option maxHeartbeats 4000000 in
theorem J6_bitCount_0f7a4_c (G : kw_G) (hp : kw_H) (x0 : Int32) (r : Int32) (h : J6_bitCount_0f7a4_F hp x0 = some r) : kw_Met G mJ6_bitCount_0f7a4 [.int x0] hp (fun v h2 => v = some (.int r) ∧ h2 = hp) := by
  refine kw_met (L := [some (.int x0)]) (r := 0) (by decide +kernel) (Nat.le_of_ble_eq_true rfl) rfl ?_
  unfold J6_bitCount_0f7a4_F at h
  obtain ⟨Q, hQ⟩ : ∃ Q : Option Value → kw_H → Prop, Q = (fun v h2 => v = some (.int r) ∧ h2 = hp) := ⟨_, rfl⟩
  have hK : Q (some (.int r)) hp := by rw [hQ]; exact ⟨rfl, rfl⟩
  rw [← hQ]
  clear hQ
  refine kw_iload_n dJ6_bitCount_0f7a4_0 rfl ?_
  refine kw_iload_n dJ6_bitCount_0f7a4_1 rfl ?_
  refine kw_iconst (v := nI 1) dJ6_bitCount_0f7a4_2 (by decide) ?_
  refine kw_iushr dJ6_bitCount_0f7a4_3 ?_
  refine kw_ldc_w (v := nI 1431655765) dJ6_bitCount_0f7a4_4 ckJ6_265 ?_
  refine kw_iand dJ6_bitCount_0f7a4_7 ?_
  refine kw_isub dJ6_bitCount_0f7a4_8 ?_
  refine kw_istore_n (L' := [some (.int (x0 - (((x0.toUInt32 >>> ((nI 1).toUInt32 &&& Int32.toUInt32 31)).toInt32) &&& (nI 1431655765))))]) dJ6_bitCount_0f7a4_9 (by decide) rfl ?_
  refine kw_iload_n dJ6_bitCount_0f7a4_10 rfl ?_
  refine kw_ldc_w (v := nI 858993459) dJ6_bitCount_0f7a4_11 ckJ6_266 ?_
  refine kw_iand dJ6_bitCount_0f7a4_14 ?_
  refine kw_iload_n dJ6_bitCount_0f7a4_15 rfl ?_
  refine kw_iconst (v := nI 2) dJ6_bitCount_0f7a4_16 (by decide) ?_
  refine kw_iushr dJ6_bitCount_0f7a4_17 ?_
  refine kw_ldc_w (v := nI 858993459) dJ6_bitCount_0f7a4_18 ckJ6_266 ?_
  refine kw_iand dJ6_bitCount_0f7a4_21 ?_
  refine kw_iadd dJ6_bitCount_0f7a4_22 ?_
  refine kw_istore_n (L' := [some (.int (((x0 - (((x0.toUInt32 >>> ((nI 1).toUInt32 &&& Int32.toUInt32 31)).toInt32) &&& (nI 1431655765))) &&& (nI 858993459)) + ((((x0 - (((x0.toUInt32 >>> ((nI 1).toUInt32 &&& Int32.toUInt32 31)).toInt32) &&& (nI 1431655765))).toUInt32 >>> ((nI 2).toUInt32 &&& Int32.toUInt32 31)).toInt32) &&& (nI 858993459))))]) dJ6_bitCount_0f7a4_23 (by decide) rfl ?_
  refine kw_iload_n dJ6_bitCount_0f7a4_24 rfl ?_
  refine kw_iload_n dJ6_bitCount_0f7a4_25 rfl ?_
  refine kw_iconst (v := nI 4) dJ6_bitCount_0f7a4_26 (by decide) ?_
  refine kw_iushr dJ6_bitCount_0f7a4_27 ?_
  refine kw_iadd dJ6_bitCount_0f7a4_28 ?_
  refine kw_ldc_w (v := nI 252645135) dJ6_bitCount_0f7a4_29 ckJ6_267 ?_
  refine kw_iand dJ6_bitCount_0f7a4_32 ?_
  refine kw_istore_n (L' := [some (.int (((((x0 - (((x0.toUInt32 >>> ((nI 1).toUInt32 &&& Int32.toUInt32 31)).toInt32) &&& (nI 1431655765))) &&& (nI 858993459)) + ((((x0 - (((x0.toUInt32 >>> ((nI 1).toUInt32 &&& Int32.toUInt32 31)).toInt32) &&& (nI 1431655765))).toUInt32 >>> ((nI 2).toUInt32 &&& Int32.toUInt32 31)).toInt32) &&& (nI 858993459))) + (((((x0 - (((x0.toUInt32 >>> ((nI 1).toUInt32 &&& Int32.toUInt32 31)).toInt32) &&& (nI 1431655765))) &&& (nI 858993459)) + ((((x0 - (((x0.toUInt32 >>> ((nI 1).toUInt32 &&& Int32.toUInt32 31)).toInt32) &&& (nI 1431655765))).toUInt32 >>> ((nI 2).toUInt32 &&& Int32.toUInt32 31)).toInt32) &&& (nI 858993459))).toUInt32 >>> ((nI 4).toUInt32 &&& Int32.toUInt32 31)).toInt32)) &&& (nI 252645135)))]) dJ6_bitCount_0f7a4_33 (by decide) rfl ?_
  refine kw_iload_n dJ6_bitCount_0f7a4_34 rfl ?_
  refine kw_iload_n dJ6_bitCount_0f7a4_35 rfl ?_
  refine kw_bipush (v := nI 8) dJ6_bitCount_0f7a4_36 (by decide) ?_
  refine kw_iushr dJ6_bitCount_0f7a4_38 ?_
  refine kw_iadd dJ6_bitCount_0f7a4_39 ?_
  refine kw_istore_n (L' := [some (.int ((((((x0 - (((x0.toUInt32 >>> ((nI 1).toUInt32 &&& Int32.toUInt32 31)).toInt32) &&& (nI 1431655765))) &&& (nI 858993459)) + ((((x0 - (((x0.toUInt32 >>> ((nI 1).toUInt32 &&& Int32.toUInt32 31)).toInt32) &&& (nI 1431655765))).toUInt32 >>> ((nI 2).toUInt32 &&& Int32.toUInt32 31)).toInt32) &&& (nI 858993459))) + (((((x0 - (((x0.toUInt32 >>> ((nI 1).toUInt32 &&& Int32.toUInt32 31)).toInt32) &&& (nI 1431655765))) &&& (nI 858993459)) + ((((x0 - (((x0.toUInt32 >>> ((nI 1).toUInt32 &&& Int32.toUInt32 31)).toInt32) &&& (nI 1431655765))).toUInt32 >>> ((nI 2).toUInt32 &&& Int32.toUInt32 31)).toInt32) &&& (nI 858993459))).toUInt32 >>> ((nI 4).toUInt32 &&& Int32.toUInt32 31)).toInt32)) &&& (nI 252645135)) + (((((((x0 - (((x0.toUInt32 >>> ((nI 1).toUInt32 &&& Int32.toUInt32 31)).toInt32) &&& (nI 1431655765))) &&& (nI 858993459)) + ((((x0 - (((x0.toUInt32 >>> ((nI 1).toUInt32 &&& Int32.toUInt32 31)).toInt32) &&& (nI 1431655765))).toUInt32 >>> ((nI 2).toUInt32 &&& Int32.toUInt32 31)).toInt32) &&& (nI 858993459))) + (((((x0 - (((x0.toUInt32 >>> ((nI 1).toUInt32 &&& Int32.toUInt32 31)).toInt32) &&& (nI 1431655765))) &&& (nI 858993459)) + ((((x0 - (((x0.toUInt32 >>> ((nI 1).toUInt32 &&& Int32.toUInt32 31)).toInt32) &&& (nI 1431655765))).toUInt32 >>> ((nI 2).toUInt32 &&& Int32.toUInt32 31)).toInt32) &&& (nI 858993459))).toUInt32 >>> ((nI 4).toUInt32 &&& Int32.toUInt32 31)).toInt32)) &&& (nI 252645135)).toUInt32 >>> ((nI 8).toUInt32 &&& Int32.toUInt32 31)).toInt32)))]) dJ6_bitCount_0f7a4_40 (by decide) rfl ?_
  refine kw_iload_n dJ6_bitCount_0f7a4_41 rfl ?_
  refine kw_iload_n dJ6_bitCount_0f7a4_42 rfl ?_
  refine kw_bipush (v := nI 16) dJ6_bitCount_0f7a4_43 (by decide) ?_
  refine kw_iushr dJ6_bitCount_0f7a4_45 ?_
  refine kw_iadd dJ6_bitCount_0f7a4_46 ?_
  refine kw_istore_n (L' := [some (.int (((((((x0 - (((x0.toUInt32 >>> ((nI 1).toUInt32 &&& Int32.toUInt32 31)).toInt32) &&& (nI 1431655765))) &&& (nI 858993459)) + ((((x0 - (((x0.toUInt32 >>> ((nI 1).toUInt32 &&& Int32.toUInt32 31)).toInt32) &&& (nI 1431655765))).toUInt32 >>> ((nI 2).toUInt32 &&& Int32.toUInt32 31)).toInt32) &&& (nI 858993459))) + (((((x0 - (((x0.toUInt32 >>> ((nI 1).toUInt32 &&& Int32.toUInt32 31)).toInt32) &&& (nI 1431655765))) &&& (nI 858993459)) + ((((x0 - (((x0.toUInt32 >>> ((nI 1).toUInt32 &&& Int32.toUInt32 31)).toInt32) &&& (nI 1431655765))).toUInt32 >>> ((nI 2).toUInt32 &&& Int32.toUInt32 31)).toInt32) &&& (nI 858993459))).toUInt32 >>> ((nI 4).toUInt32 &&& Int32.toUInt32 31)).toInt32)) &&& (nI 252645135)) + (((((((x0 - (((x0.toUInt32 >>> ((nI 1).toUInt32 &&& Int32.toUInt32 31)).toInt32) &&& (nI 1431655765))) &&& (nI 858993459)) + ((((x0 - (((x0.toUInt32 >>> ((nI 1).toUInt32 &&& Int32.toUInt32 31)).toInt32) &&& (nI 1431655765))).toUInt32 >>> ((nI 2).toUInt32 &&& Int32.toUInt32 31)).toInt32) &&& (nI 858993459))) + (((((x0 - (((x0.toUInt32 >>> ((nI 1).toUInt32 &&& Int32.toUInt32 31)).toInt32) &&& (nI 1431655765))) &&& (nI 858993459)) + ((((x0 - (((x0.toUInt32 >>> ((nI 1).toUInt32 &&& Int32.toUInt32 31)).toInt32) &&& (nI 1431655765))).toUInt32 >>> ((nI 2).toUInt32 &&& Int32.toUInt32 31)).toInt32) &&& (nI 858993459))).toUInt32 >>> ((nI 4).toUInt32 &&& Int32.toUInt32 31)).toInt32)) &&& (nI 252645135)).toUInt32 >>> ((nI 8).toUInt32 &&& Int32.toUInt32 31)).toInt32)) + ((((((((x0 - (((x0.toUInt32 >>> ((nI 1).toUInt32 &&& Int32.toUInt32 31)).toInt32) &&& (nI 1431655765))) &&& (nI 858993459)) + ((((x0 - (((x0.toUInt32 >>> ((nI 1).toUInt32 &&& Int32.toUInt32 31)).toInt32) &&& (nI 1431655765))).toUInt32 >>> ((nI 2).toUInt32 &&& Int32.toUInt32 31)).toInt32) &&& (nI 858993459))) + (((((x0 - (((x0.toUInt32 >>> ((nI 1).toUInt32 &&& Int32.toUInt32 31)).toInt32) &&& (nI 1431655765))) &&& (nI 858993459)) + ((((x0 - (((x0.toUInt32 >>> ((nI 1).toUInt32 &&& Int32.toUInt32 31)).toInt32) &&& (nI 1431655765))).toUInt32 >>> ((nI 2).toUInt32 &&& Int32.toUInt32 31)).toInt32) &&& (nI 858993459))).toUInt32 >>> ((nI 4).toUInt32 &&& Int32.toUInt32 31)).toInt32)) &&& (nI 252645135)) + (((((((x0 - (((x0.toUInt32 >>> ((nI 1).toUInt32 &&& Int32.toUInt32 31)).toInt32) &&& (nI 1431655765))) &&& (nI 858993459)) + ((((x0 - (((x0.toUInt32 >>> ((nI 1).toUInt32 &&& Int32.toUInt32 31)).toInt32) &&& (nI 1431655765))).toUInt32 >>> ((nI 2).toUInt32 &&& Int32.toUInt32 31)).toInt32) &&& (nI 858993459))) + (((((x0 - (((x0.toUInt32 >>> ((nI 1).toUInt32 &&& Int32.toUInt32 31)).toInt32) &&& (nI 1431655765))) &&& (nI 858993459)) + ((((x0 - (((x0.toUInt32 >>> ((nI 1).toUInt32 &&& Int32.toUInt32 31)).toInt32) &&& (nI 1431655765))).toUInt32 >>> ((nI 2).toUInt32 &&& Int32.toUInt32 31)).toInt32) &&& (nI 858993459))).toUInt32 >>> ((nI 4).toUInt32 &&& Int32.toUInt32 31)).toInt32)) &&& (nI 252645135)).toUInt32 >>> ((nI 8).toUInt32 &&& Int32.toUInt32 31)).toInt32)).toUInt32 >>> ((nI 16).toUInt32 &&& Int32.toUInt32 31)).toInt32)))]) dJ6_bitCount_0f7a4_47 (by decide) rfl ?_
  refine kw_iload_n dJ6_bitCount_0f7a4_48 rfl ?_
  refine kw_bipush (v := nI 63) dJ6_bitCount_0f7a4_49 (by decide) ?_
  refine kw_iand dJ6_bitCount_0f7a4_51 ?_
  have h := Option.some.inj h
  subst h
  exact kw_iret rfl dJ6_bitCount_0f7a4_52 hK
/-! KitchenWheels$Foreteller.pairsIn(LKitchenWheels$Kitchen;I)I -/
def X1_pairsIn_K16 (G : kw_G) (Q : Option Value → kw_H → Prop) (x0 : Nat) (x1 : Nat) (x2 : Int32) (r : (Int32 × Int32 × kw_H) ⊕ (Int32 × kw_H)) : Prop := match r with
  | .inl z => kw_V G mX1_pairsIn 16 [some (.ref x0), some (.ref x1), some (.int x2), some (.int z.1), some (.int z.2.1), none, none, none] [] z.2.2 Q
  | .inr r => Q (some (.int r.1)) r.2
def X1_pairsIn_K120 (G : kw_G) (Q : Option Value → kw_H → Prop) (hp : kw_H) (x0 : Nat) (r : (Int32 × Int32) ⊕ (Int32 × kw_H)) : Prop := match r with
  | .inl z => kw_V G mX1_pairsIn 120 [some (.ref x0), none, none, none, some (.int z.1), some (.int z.2), none, none] [] hp Q
  | .inr r => Q (some (.int r.1)) r.2
def X1_pairsIn_J153 (hp : kw_H) (x4 : Int32) : Option (Int32 × kw_H) :=
  some ((x4, hp))
set_option maxRecDepth 100000 in
set_option maxHeartbeats 4000000 in
theorem X1_pairsIn_J153_t (G : kw_G) (Q : Option Value → kw_H → Prop) (hp : kw_H) (x4 : Int32) (r : Int32 × kw_H) (h : X1_pairsIn_J153 hp x4 = some r) (hK : Q (some (.int r.1)) r.2) : kw_V G mX1_pairsIn 153 [none, none, none, none, some (.int x4), none, none, none] [] hp Q := by
  unfold X1_pairsIn_J153 at h
  refine kw_iload dX1_pairsIn_153 rfl ?_
  have h := Option.some.inj h
  subst h
  exact kw_iret rfl dX1_pairsIn_155 hK
def X1_pairsIn_b120 (hp : kw_H) (x0 : Nat) (x4 : Int32) (x5 : Int32) : Option (((Int32 × Int32) ⊕ (Int32 × kw_H))) :=
  (if (nI 6) ≤ x5 then
  (X1_pairsIn_J153 hp x4).map (fun r => .inr (r))
else
  (kp_gR hp x0 [1] 1).bind fun v5 =>
  (kp_ldI hp v5 x5).bind fun v6 =>
  (J6_bitCount_0f7a4_F hp (v6 >>> ((x5 + (nI 1)) &&& 31))).bind fun r7 =>
  some (.inl (x4 + r7, x5 + (nI 1))))
set_option maxRecDepth 100000 in
set_option maxHeartbeats 4000000 in
theorem X1_pairsIn_b120_t (G : kw_G) (Q : Option Value → kw_H → Prop) (hp : kw_H) (x0 : Nat) (x4 : Int32) (x5 : Int32) (r : ((Int32 × Int32) ⊕ (Int32 × kw_H))) (h : X1_pairsIn_b120 hp x0 x4 x5 = some r) (hK : X1_pairsIn_K120 G Q hp x0 r) : kw_V G mX1_pairsIn 120 [some (.ref x0), none, none, none, some (.int x4), some (.int x5), none, none] [] hp Q := by
  unfold X1_pairsIn_b120 at h
  refine kw_iload dX1_pairsIn_120 rfl ?_
  refine kw_bipush (v := nI 6) dX1_pairsIn_122 (by decide) ?_
  refine kw_icmp_ge 153 dX1_pairsIn_124 (by decide) (fun c8 => ?_) (fun c8 => ?_)
  · have h := (if_pos c8).symm.trans h
    refine kw_mask [false, true, true, true, true, false, true, true] (L' := [none, none, none, none, some (.int x4), none, none, none]) rfl ?_
    obtain ⟨r4, hr4, hrr4⟩ := Option.map_eq_some_iff.mp h
    subst hrr4
    exact X1_pairsIn_J153_t G Q hp x4 r4 hr4 hK
  · have h := (if_neg c8).symm.trans h
    refine kw_iload dX1_pairsIn_127 rfl ?_
    refine kw_aload_n dX1_pairsIn_129 rfl ?_
    obtain ⟨v5, ev5, h⟩ := Option.bind_eq_some_iff.mp h
    refine kv_gR gfX1_18 dX1_pairsIn_130 ev5 ?_
    refine kw_iload dX1_pairsIn_133 rfl ?_
    obtain ⟨v6, ev6, h⟩ := Option.bind_eq_some_iff.mp h
    refine kv_ldI dX1_pairsIn_135 ev6 ?_
    refine kw_iload dX1_pairsIn_136 rfl ?_
    refine kw_iconst (v := nI 1) dX1_pairsIn_138 (by decide) ?_
    refine kw_iadd dX1_pairsIn_139 ?_
    refine kw_ishr dX1_pairsIn_140 ?_
    obtain ⟨r7, er7, h⟩ := Option.bind_eq_some_iff.mp h
    refine kw_callS (As := [.int (v6 >>> ((x5 + (nI 1)) &&& 31))]) (S := [.int x4]) cbX1_pairsIn_J6_bitCount_0f7a4 lkX1_161 stJ6_bitCount_0f7a4 rfl rfl (Nat.le_of_ble_eq_true rfl) dX1_pairsIn_141 (J6_bitCount_0f7a4_c G hp (v6 >>> ((x5 + (nI 1)) &&& 31)) _ er7) (fun vv hh hq => ?_)
    rw [hq.1, hq.2]
    show kw_V G mX1_pairsIn 144 [some (.ref x0), none, none, none, some (.int x4), some (.int x5), none, none] [.int r7, .int x4] hp Q
    refine kw_iadd dX1_pairsIn_144 ?_
    refine kw_istore (L' := [some (.ref x0), none, none, none, some (.int (x4 + r7)), some (.int x5), none, none]) dX1_pairsIn_145 (by decide) rfl ?_
    refine kv_iinc (w := nI 1) (L' := [some (.ref x0), none, none, none, some (.int (x4 + r7)), some (.int (x5 + (nI 1))), none, none]) dX1_pairsIn_147 (by decide) rfl (by decide) rfl ?_
    refine kw_goto 120 dX1_pairsIn_150 (by decide) ?_
    have h := Option.some.inj h
    subst h
    exact hK
def X1_pairsIn_B120 (hp : kw_H) (x0 : Nat) (z : Int32 × Int32) : Option (((Int32 × Int32) ⊕ (Int32 × kw_H))) := X1_pairsIn_b120 hp x0 z.1 z.2
theorem X1_pairsIn_L120_t (G : kw_G) (Q : Option Value → kw_H → Prop) (hp : kw_H) (x0 : Nat) (n : Nat) (z : Int32 × Int32) (r : Int32 × kw_H) (h : kp_lp (X1_pairsIn_B120 hp x0) n z = some r) (hK : Q (some (.int r.1)) r.2) : kw_V G mX1_pairsIn 120 [some (.ref x0), none, none, none, some (.int z.1), some (.int z.2), none, none] [] hp Q :=
  kv_lp _ (fun z => kw_V G mX1_pairsIn 120 [some (.ref x0), none, none, none, some (.int z.1), some (.int z.2), none, none] [] hp Q) (fun r => Q (some (.int r.1)) r.2) (fun z x hb hx => X1_pairsIn_b120_t G Q hp x0 z.1 z.2 x hb (by cases x <;> exact hx)) n z r h hK
def X1_pairsIn_J114 (hp : kw_H) (x0 : Nat) : Option (Int32 × kw_H) :=
  kp_lp (X1_pairsIn_B120 hp x0) 2000 (nI 0, nI 0)
set_option maxRecDepth 100000 in
set_option maxHeartbeats 4000000 in
theorem X1_pairsIn_J114_t (G : kw_G) (Q : Option Value → kw_H → Prop) (hp : kw_H) (x0 : Nat) (r : Int32 × kw_H) (h : X1_pairsIn_J114 hp x0 = some r) (hK : Q (some (.int r.1)) r.2) : kw_V G mX1_pairsIn 114 [some (.ref x0), none, none, none, none, none, none, none] [] hp Q := by
  unfold X1_pairsIn_J114 at h
  refine kw_iconst (v := nI 0) dX1_pairsIn_114 (by decide) ?_
  refine kw_istore (L' := [some (.ref x0), none, none, none, some (.int (nI 0)), none, none, none]) dX1_pairsIn_115 (by decide) rfl ?_
  refine kw_iconst (v := nI 0) dX1_pairsIn_117 (by decide) ?_
  refine kw_istore (L' := [some (.ref x0), none, none, none, some (.int (nI 0)), some (.int (nI 0)), none, none]) dX1_pairsIn_118 (by decide) rfl ?_
  exact X1_pairsIn_L120_t G Q hp x0 _ (nI 0, nI 0) _ h hK
def X1_pairsIn_K25 (G : kw_G) (Q : Option Value → kw_H → Prop) (x0 : Nat) (x1 : Nat) (x2 : Int32) (x3 : Int32) (x4 : Int32) (r : (Int32 × kw_H) ⊕ (((Int32 × Int32 × kw_H) ⊕ (Int32 × kw_H)))) : Prop := match r with
  | .inl z => kw_V G mX1_pairsIn 25 [some (.ref x0), some (.ref x1), some (.int x2), some (.int x3), some (.int x4), some (.int z.1), none, none] [] z.2 Q
  | .inr r => X1_pairsIn_K16 G Q x0 x1 x2 r
def X1_pairsIn_J95 (hp : kw_H) (x0 : Nat) (x1 : Nat) (x2 : Int32) (x3 : Int32) (x4 : Int32) : Option (((Int32 × Int32 × kw_H) ⊕ (Int32 × kw_H))) :=
  (kp_gI hp x1 [2] 7).bind fun v10 =>
  ((kp_ob hp x1 2).bind fun _ => X2_turnedNext_F hp x1 x3 (v10 + x4)).bind fun r11 =>
  some (.inl (r11, x4 + (nI 1), hp))
set_option maxRecDepth 100000 in
set_option maxHeartbeats 4000000 in
theorem X1_pairsIn_J95_t (G : kw_G) (Q : Option Value → kw_H → Prop) (hp : kw_H) (x0 : Nat) (x1 : Nat) (x2 : Int32) (x3 : Int32) (x4 : Int32) (r : ((Int32 × Int32 × kw_H) ⊕ (Int32 × kw_H))) (h : X1_pairsIn_J95 hp x0 x1 x2 x3 x4 = some r) (hK : X1_pairsIn_K16 G Q x0 x1 x2 r) : kw_V G mX1_pairsIn 95 [some (.ref x0), some (.ref x1), some (.int x2), some (.int x3), some (.int x4), none, none, none] [] hp Q := by
  unfold X1_pairsIn_J95 at h
  refine kw_aload_n dX1_pairsIn_95 rfl ?_
  refine kw_iload_n dX1_pairsIn_96 rfl ?_
  refine kw_aload_n dX1_pairsIn_97 rfl ?_
  obtain ⟨v10, ev10, h⟩ := Option.bind_eq_some_iff.mp h
  refine kv_gI gfX1_48 dX1_pairsIn_98 ev10 ?_
  refine kw_iload dX1_pairsIn_101 rfl ?_
  refine kw_iadd dX1_pairsIn_103 ?_
  obtain ⟨r11, er11, h⟩ := Option.bind_eq_some_iff.mp h
  obtain ⟨ur11, eur11, er11⟩ := Option.bind_eq_some_iff.mp er11
  obtain ⟨fsr11, hor11⟩ := kp_ob_inv eur11
  refine kw_callV (As := [.int x3, .int (v10 + x4)]) (S := []) kcX2 cbX1_pairsIn_X2_turnedNext lkX1_51 imX2_turnedNext seX2_X2_turnedNext_X2_turnedNext rfl rfl (Nat.le_of_ble_eq_true rfl) dX1_pairsIn_104 hor11 (X2_turnedNext_c G hp x1 x3 (v10 + x4) _ er11) (fun vv hh hq => ?_)
  rw [hq.1, hq.2]
  show kw_V G mX1_pairsIn 107 [some (.ref x0), some (.ref x1), some (.int x2), some (.int x3), some (.int x4), none, none, none] [.int r11] hp Q
  refine kw_istore_n (L' := [some (.ref x0), some (.ref x1), some (.int x2), some (.int r11), some (.int x4), none, none, none]) dX1_pairsIn_107 (by decide) rfl ?_
  refine kv_iinc (w := nI 1) (L' := [some (.ref x0), some (.ref x1), some (.int x2), some (.int r11), some (.int (x4 + (nI 1))), none, none, none]) dX1_pairsIn_108 (by decide) rfl (by decide) rfl ?_
  refine kw_goto 16 dX1_pairsIn_111 (by decide) ?_
  have h := Option.some.inj h
  subst h
  exact hK
def X1_pairsIn_K50 (G : kw_G) (Q : Option Value → kw_H → Prop) (x0 : Nat) (x1 : Nat) (x2 : Int32) (x3 : Int32) (x4 : Int32) (x5 : Int32) (x6 : Int32) (r : (Int32 × kw_H) ⊕ (((Int32 × kw_H) ⊕ (((Int32 × Int32 × kw_H) ⊕ (Int32 × kw_H)))))) : Prop := match r with
  | .inl z => kw_V G mX1_pairsIn 50 [some (.ref x0), some (.ref x1), some (.int x2), some (.int x3), some (.int x4), some (.int x5), some (.int x6), some (.int z.1)] [] z.2 Q
  | .inr r => X1_pairsIn_K25 G Q x0 x1 x2 x3 x4 r
def X1_pairsIn_J89 (hp : kw_H) (x0 : Nat) (x1 : Nat) (x2 : Int32) (x3 : Int32) (x4 : Int32) (x5 : Int32) : Option (((Int32 × kw_H) ⊕ (((Int32 × Int32 × kw_H) ⊕ (Int32 × kw_H))))) :=
  some (.inl (x5 + (nI 1), hp))
set_option maxRecDepth 100000 in
set_option maxHeartbeats 4000000 in
theorem X1_pairsIn_J89_t (G : kw_G) (Q : Option Value → kw_H → Prop) (hp : kw_H) (x0 : Nat) (x1 : Nat) (x2 : Int32) (x3 : Int32) (x4 : Int32) (x5 : Int32) (r : ((Int32 × kw_H) ⊕ (((Int32 × Int32 × kw_H) ⊕ (Int32 × kw_H))))) (h : X1_pairsIn_J89 hp x0 x1 x2 x3 x4 x5 = some r) (hK : X1_pairsIn_K25 G Q x0 x1 x2 x3 x4 r) : kw_V G mX1_pairsIn 89 [some (.ref x0), some (.ref x1), some (.int x2), some (.int x3), some (.int x4), some (.int x5), none, none] [] hp Q := by
  unfold X1_pairsIn_J89 at h
  refine kv_iinc (w := nI 1) (L' := [some (.ref x0), some (.ref x1), some (.int x2), some (.int x3), some (.int x4), some (.int (x5 + (nI 1))), none, none]) dX1_pairsIn_89 (by decide) rfl (by decide) rfl ?_
  refine kw_goto 25 dX1_pairsIn_92 (by decide) ?_
  have h := Option.some.inj h
  subst h
  exact hK
def X1_pairsIn_J81 (hp : kw_H) (x0 : Nat) (x1 : Nat) (x2 : Int32) (x3 : Int32) (x4 : Int32) (x5 : Int32) (x6 : Int32) (x7 : Int32) (s0 : Int32) (s1 : Int32) (s2 : Int32) (s3 : Nat) : Option (((Int32 × kw_H) ⊕ (((Int32 × kw_H) ⊕ (((Int32 × Int32 × kw_H) ⊕ (Int32 × kw_H))))))) :=
  (kp_stI hp s3 s2 (s1 ||| s0)).bind fun hp19 =>
  some (.inl (x7 + (nI 1), hp19))
set_option maxRecDepth 100000 in
set_option maxHeartbeats 4000000 in
theorem X1_pairsIn_J81_t (G : kw_G) (Q : Option Value → kw_H → Prop) (hp : kw_H) (x0 : Nat) (x1 : Nat) (x2 : Int32) (x3 : Int32) (x4 : Int32) (x5 : Int32) (x6 : Int32) (x7 : Int32) (s0 : Int32) (s1 : Int32) (s2 : Int32) (s3 : Nat) (r : ((Int32 × kw_H) ⊕ (((Int32 × kw_H) ⊕ (((Int32 × Int32 × kw_H) ⊕ (Int32 × kw_H))))))) (h : X1_pairsIn_J81 hp x0 x1 x2 x3 x4 x5 x6 x7 s0 s1 s2 s3 = some r) (hK : X1_pairsIn_K50 G Q x0 x1 x2 x3 x4 x5 x6 r) : kw_V G mX1_pairsIn 81 [some (.ref x0), some (.ref x1), some (.int x2), some (.int x3), some (.int x4), some (.int x5), some (.int x6), some (.int x7)] [.int s0, .int s1, .int s2, .ref s3] hp Q := by
  unfold X1_pairsIn_J81 at h
  refine kw_ior dX1_pairsIn_81 ?_
  obtain ⟨hp19, ehp19, h⟩ := Option.bind_eq_some_iff.mp h
  refine kv_stI dX1_pairsIn_82 ehp19 ?_
  refine kv_iinc (w := nI 1) (L' := [some (.ref x0), some (.ref x1), some (.int x2), some (.int x3), some (.int x4), some (.int x5), some (.int x6), some (.int (x7 + (nI 1)))]) dX1_pairsIn_83 (by decide) rfl (by decide) rfl ?_
  refine kw_goto 50 dX1_pairsIn_86 (by decide) ?_
  have h := Option.some.inj h
  subst h
  exact hK
def X1_pairsIn_b50 (x0 : Nat) (x1 : Nat) (x2 : Int32) (x3 : Int32) (x4 : Int32) (x5 : Int32) (x6 : Int32) (x7 : Int32) (hp : kw_H) : Option (((Int32 × kw_H) ⊕ (((Int32 × kw_H) ⊕ (((Int32 × Int32 × kw_H) ⊕ (Int32 × kw_H))))))) :=
  (if (nI 6) ≤ x7 then
  (X1_pairsIn_J89 hp x0 x1 x2 x3 x4 x5).map (fun r => .inr (r))
else
  (kp_gR hp x0 [1] 1).bind fun v16 =>
  (kp_ldI hp v16 x7).bind fun v17 =>
  (X11_holds_F hp x6 x7).bind fun r18 =>
  (if r18 = 0 then
  X1_pairsIn_J81 hp x0 x1 x2 x3 x4 x5 x6 x7 (nI 0) v17 x7 v16
else
  X1_pairsIn_J81 hp x0 x1 x2 x3 x4 x5 x6 x7 x6 v17 x7 v16))
set_option maxRecDepth 100000 in
set_option maxHeartbeats 4000000 in
theorem X1_pairsIn_b50_t (G : kw_G) (Q : Option Value → kw_H → Prop) (x0 : Nat) (x1 : Nat) (x2 : Int32) (x3 : Int32) (x4 : Int32) (x5 : Int32) (x6 : Int32) (x7 : Int32) (hp : kw_H) (r : ((Int32 × kw_H) ⊕ (((Int32 × kw_H) ⊕ (((Int32 × Int32 × kw_H) ⊕ (Int32 × kw_H))))))) (h : X1_pairsIn_b50 x0 x1 x2 x3 x4 x5 x6 x7 hp = some r) (hK : X1_pairsIn_K50 G Q x0 x1 x2 x3 x4 x5 x6 r) : kw_V G mX1_pairsIn 50 [some (.ref x0), some (.ref x1), some (.int x2), some (.int x3), some (.int x4), some (.int x5), some (.int x6), some (.int x7)] [] hp Q := by
  unfold X1_pairsIn_b50 at h
  refine kw_iload dX1_pairsIn_50 rfl ?_
  refine kw_bipush (v := nI 6) dX1_pairsIn_52 (by decide) ?_
  refine kw_icmp_ge 89 dX1_pairsIn_54 (by decide) (fun c21 => ?_) (fun c21 => ?_)
  · have h := (if_pos c21).symm.trans h
    refine kw_mask [true, true, true, true, true, true, false, false] (L' := [some (.ref x0), some (.ref x1), some (.int x2), some (.int x3), some (.int x4), some (.int x5), none, none]) rfl ?_
    obtain ⟨r15, hr15, hrr15⟩ := Option.map_eq_some_iff.mp h
    subst hrr15
    exact X1_pairsIn_J89_t G Q hp x0 x1 x2 x3 x4 x5 r15 hr15 hK
  · have h := (if_neg c21).symm.trans h
    refine kw_aload_n dX1_pairsIn_57 rfl ?_
    obtain ⟨v16, ev16, h⟩ := Option.bind_eq_some_iff.mp h
    refine kv_gR gfX1_18 dX1_pairsIn_58 ev16 ?_
    refine kw_iload dX1_pairsIn_61 rfl ?_
    refine kw_dup2 dX1_pairsIn_63 rfl rfl ?_
    obtain ⟨v17, ev17, h⟩ := Option.bind_eq_some_iff.mp h
    refine kv_ldI dX1_pairsIn_64 ev17 ?_
    refine kw_iload dX1_pairsIn_65 rfl ?_
    refine kw_iload dX1_pairsIn_67 rfl ?_
    obtain ⟨r18, er18, h⟩ := Option.bind_eq_some_iff.mp h
    refine kw_callSN (As := [.int x6, .int x7]) (S := [.int v17, .int x7, .ref v16]) cbX1_pairsIn_X11_holds lnX1_57 stX11_holds rfl rfl (Nat.le_of_ble_eq_true rfl) dX1_pairsIn_69 (X11_holds_c G hp x6 x7 _ er18) (fun vv hh hq => ?_)
    rw [hq.1, hq.2]
    show kw_V G mX1_pairsIn 72 [some (.ref x0), some (.ref x1), some (.int x2), some (.int x3), some (.int x4), some (.int x5), some (.int x6), some (.int x7)] [.int r18, .int v17, .int x7, .ref v16] hp Q
    refine kw_if_eq 80 dX1_pairsIn_72 (by decide) (fun c20 => ?_) (fun c20 => ?_)
    · have h := (if_pos c20).symm.trans h
      refine kw_iconst (v := nI 0) dX1_pairsIn_80 (by decide) ?_
      exact X1_pairsIn_J81_t G Q hp x0 x1 x2 x3 x4 x5 x6 x7 (nI 0) v17 x7 v16 _ h hK
    · have h := (if_neg c20).symm.trans h
      refine kw_iload dX1_pairsIn_75 rfl ?_
      refine kw_goto 81 dX1_pairsIn_77 (by decide) ?_
      exact X1_pairsIn_J81_t G Q hp x0 x1 x2 x3 x4 x5 x6 x7 x6 v17 x7 v16 _ h hK
def X1_pairsIn_B50 (x0 : Nat) (x1 : Nat) (x2 : Int32) (x3 : Int32) (x4 : Int32) (x5 : Int32) (x6 : Int32) (z : Int32 × kw_H) : Option (((Int32 × kw_H) ⊕ (((Int32 × kw_H) ⊕ (((Int32 × Int32 × kw_H) ⊕ (Int32 × kw_H))))))) := X1_pairsIn_b50 x0 x1 x2 x3 x4 x5 x6 z.1 z.2
theorem X1_pairsIn_L50_t (G : kw_G) (Q : Option Value → kw_H → Prop) (x0 : Nat) (x1 : Nat) (x2 : Int32) (x3 : Int32) (x4 : Int32) (x5 : Int32) (x6 : Int32) (n : Nat) (z : Int32 × kw_H) (r : ((Int32 × kw_H) ⊕ (((Int32 × Int32 × kw_H) ⊕ (Int32 × kw_H))))) (h : kp_lp (X1_pairsIn_B50 x0 x1 x2 x3 x4 x5 x6) n z = some r) (hK : X1_pairsIn_K25 G Q x0 x1 x2 x3 x4 r) : kw_V G mX1_pairsIn 50 [some (.ref x0), some (.ref x1), some (.int x2), some (.int x3), some (.int x4), some (.int x5), some (.int x6), some (.int z.1)] [] z.2 Q :=
  kv_lp _ (fun z => kw_V G mX1_pairsIn 50 [some (.ref x0), some (.ref x1), some (.int x2), some (.int x3), some (.int x4), some (.int x5), some (.int x6), some (.int z.1)] [] z.2 Q) (fun r => X1_pairsIn_K25 G Q x0 x1 x2 x3 x4 r) (fun z x hb hx => X1_pairsIn_b50_t G Q x0 x1 x2 x3 x4 x5 x6 z.1 z.2 x hb (by cases x <;> exact hx)) n z r h hK
def X1_pairsIn_b25 (x0 : Nat) (x1 : Nat) (x2 : Int32) (x3 : Int32) (x4 : Int32) (x5 : Int32) (hp : kw_H) : Option (((Int32 × kw_H) ⊕ (((Int32 × Int32 × kw_H) ⊕ (Int32 × kw_H))))) :=
  (if (nI 6) ≤ x5 then
  (X1_pairsIn_J95 hp x0 x1 x2 x3 x4).map (fun r => .inr (r))
else
  ((kp_ob hp x1 2).bind fun _ => X2_awayBehind_F hp x1 x4).bind fun r13 =>
  ((kp_ob hp x1 2).bind fun _ => X2_doersOf_F hp x1 x5 x3 r13).bind fun r14 =>
  kp_lp (X1_pairsIn_B50 x0 x1 x2 x3 x4 x5 r14) 2000 (nI 0, hp))
set_option maxRecDepth 100000 in
set_option maxHeartbeats 4000000 in
theorem X1_pairsIn_b25_t (G : kw_G) (Q : Option Value → kw_H → Prop) (x0 : Nat) (x1 : Nat) (x2 : Int32) (x3 : Int32) (x4 : Int32) (x5 : Int32) (hp : kw_H) (r : ((Int32 × kw_H) ⊕ (((Int32 × Int32 × kw_H) ⊕ (Int32 × kw_H))))) (h : X1_pairsIn_b25 x0 x1 x2 x3 x4 x5 hp = some r) (hK : X1_pairsIn_K25 G Q x0 x1 x2 x3 x4 r) : kw_V G mX1_pairsIn 25 [some (.ref x0), some (.ref x1), some (.int x2), some (.int x3), some (.int x4), some (.int x5), none, none] [] hp Q := by
  unfold X1_pairsIn_b25 at h
  refine kw_iload dX1_pairsIn_25 rfl ?_
  refine kw_bipush (v := nI 6) dX1_pairsIn_27 (by decide) ?_
  refine kw_icmp_ge 95 dX1_pairsIn_29 (by decide) (fun c22 => ?_) (fun c22 => ?_)
  · have h := (if_pos c22).symm.trans h
    refine kw_mask [true, true, true, true, true, false, true, true] (L' := [some (.ref x0), some (.ref x1), some (.int x2), some (.int x3), some (.int x4), none, none, none]) rfl ?_
    obtain ⟨r12, hr12, hrr12⟩ := Option.map_eq_some_iff.mp h
    subst hrr12
    exact X1_pairsIn_J95_t G Q hp x0 x1 x2 x3 x4 r12 hr12 hK
  · have h := (if_neg c22).symm.trans h
    refine kw_aload_n dX1_pairsIn_32 rfl ?_
    refine kw_iload dX1_pairsIn_33 rfl ?_
    refine kw_iload_n dX1_pairsIn_35 rfl ?_
    refine kw_aload_n dX1_pairsIn_36 rfl ?_
    refine kw_iload dX1_pairsIn_37 rfl ?_
    obtain ⟨r13, er13, h⟩ := Option.bind_eq_some_iff.mp h
    obtain ⟨ur13, eur13, er13⟩ := Option.bind_eq_some_iff.mp er13
    obtain ⟨fsr13, hor13⟩ := kp_ob_inv eur13
    refine kw_callV (As := [.int x4]) (S := [.int x3, .int x5, .ref x1]) kcX2 cbX1_pairsIn_X2_awayBehind lkX1_40 imX2_awayBehind seX2_X2_awayBehind_X2_awayBehind rfl rfl (Nat.le_of_ble_eq_true rfl) dX1_pairsIn_39 hor13 (X2_awayBehind_c G hp x1 x4 _ er13) (fun vv hh hq => ?_)
    rw [hq.1, hq.2]
    show kw_V G mX1_pairsIn 42 [some (.ref x0), some (.ref x1), some (.int x2), some (.int x3), some (.int x4), some (.int x5), none, none] [.int r13, .int x3, .int x5, .ref x1] hp Q
    obtain ⟨r14, er14, h⟩ := Option.bind_eq_some_iff.mp h
    obtain ⟨ur14, eur14, er14⟩ := Option.bind_eq_some_iff.mp er14
    obtain ⟨fsr14, hor14⟩ := kp_ob_inv eur14
    refine kw_callV (As := [.int x5, .int x3, .int r13]) (S := []) kcX2 cbX1_pairsIn_X2_doersOf lkX1_54 imX2_doersOf seX2_X2_doersOf_X2_doersOf rfl rfl (Nat.le_of_ble_eq_true rfl) dX1_pairsIn_42 hor14 (X2_doersOf_c G hp x1 x5 x3 r13 _ er14) (fun vv hh hq => ?_)
    rw [hq.1, hq.2]
    show kw_V G mX1_pairsIn 45 [some (.ref x0), some (.ref x1), some (.int x2), some (.int x3), some (.int x4), some (.int x5), none, none] [.int r14] hp Q
    refine kw_istore (L' := [some (.ref x0), some (.ref x1), some (.int x2), some (.int x3), some (.int x4), some (.int x5), some (.int r14), none]) dX1_pairsIn_45 (by decide) rfl ?_
    refine kw_iconst (v := nI 0) dX1_pairsIn_47 (by decide) ?_
    refine kw_istore (L' := [some (.ref x0), some (.ref x1), some (.int x2), some (.int x3), some (.int x4), some (.int x5), some (.int r14), some (.int (nI 0))]) dX1_pairsIn_48 (by decide) rfl ?_
    exact X1_pairsIn_L50_t G Q x0 x1 x2 x3 x4 x5 r14 _ (nI 0, hp) _ h hK
def X1_pairsIn_B25 (x0 : Nat) (x1 : Nat) (x2 : Int32) (x3 : Int32) (x4 : Int32) (z : Int32 × kw_H) : Option (((Int32 × kw_H) ⊕ (((Int32 × Int32 × kw_H) ⊕ (Int32 × kw_H))))) := X1_pairsIn_b25 x0 x1 x2 x3 x4 z.1 z.2
theorem X1_pairsIn_L25_t (G : kw_G) (Q : Option Value → kw_H → Prop) (x0 : Nat) (x1 : Nat) (x2 : Int32) (x3 : Int32) (x4 : Int32) (n : Nat) (z : Int32 × kw_H) (r : ((Int32 × Int32 × kw_H) ⊕ (Int32 × kw_H))) (h : kp_lp (X1_pairsIn_B25 x0 x1 x2 x3 x4) n z = some r) (hK : X1_pairsIn_K16 G Q x0 x1 x2 r) : kw_V G mX1_pairsIn 25 [some (.ref x0), some (.ref x1), some (.int x2), some (.int x3), some (.int x4), some (.int z.1), none, none] [] z.2 Q :=
  kv_lp _ (fun z => kw_V G mX1_pairsIn 25 [some (.ref x0), some (.ref x1), some (.int x2), some (.int x3), some (.int x4), some (.int z.1), none, none] [] z.2 Q) (fun r => X1_pairsIn_K16 G Q x0 x1 x2 r) (fun z x hb hx => X1_pairsIn_b25_t G Q x0 x1 x2 x3 x4 z.1 z.2 x hb (by cases x <;> exact hx)) n z r h hK
def X1_pairsIn_b16 (x0 : Nat) (x1 : Nat) (x2 : Int32) (x3 : Int32) (x4 : Int32) (hp : kw_H) : Option (((Int32 × Int32 × kw_H) ⊕ (Int32 × kw_H))) :=
  (if x2 ≤ x4 then
  (X1_pairsIn_J114 hp x0).map (fun r => .inr (r))
else
  kp_lp (X1_pairsIn_B25 x0 x1 x2 x3 x4) 2000 (nI 0, hp))
set_option maxRecDepth 100000 in
set_option maxHeartbeats 4000000 in
theorem X1_pairsIn_b16_t (G : kw_G) (Q : Option Value → kw_H → Prop) (x0 : Nat) (x1 : Nat) (x2 : Int32) (x3 : Int32) (x4 : Int32) (hp : kw_H) (r : ((Int32 × Int32 × kw_H) ⊕ (Int32 × kw_H))) (h : X1_pairsIn_b16 x0 x1 x2 x3 x4 hp = some r) (hK : X1_pairsIn_K16 G Q x0 x1 x2 r) : kw_V G mX1_pairsIn 16 [some (.ref x0), some (.ref x1), some (.int x2), some (.int x3), some (.int x4), none, none, none] [] hp Q := by
  unfold X1_pairsIn_b16 at h
  refine kw_iload dX1_pairsIn_16 rfl ?_
  refine kw_iload_n dX1_pairsIn_18 rfl ?_
  refine kw_icmp_ge 114 dX1_pairsIn_19 (by decide) (fun c23 => ?_) (fun c23 => ?_)
  · have h := (if_pos c23).symm.trans h
    refine kw_mask [true, false, false, false, false, true, true, true] (L' := [some (.ref x0), none, none, none, none, none, none, none]) rfl ?_
    obtain ⟨r9, hr9, hrr9⟩ := Option.map_eq_some_iff.mp h
    subst hrr9
    exact X1_pairsIn_J114_t G Q hp x0 r9 hr9 hK
  · have h := (if_neg c23).symm.trans h
    refine kw_iconst (v := nI 0) dX1_pairsIn_22 (by decide) ?_
    refine kw_istore (L' := [some (.ref x0), some (.ref x1), some (.int x2), some (.int x3), some (.int x4), some (.int (nI 0)), none, none]) dX1_pairsIn_23 (by decide) rfl ?_
    exact X1_pairsIn_L25_t G Q x0 x1 x2 x3 x4 _ (nI 0, hp) _ h hK
def X1_pairsIn_B16 (x0 : Nat) (x1 : Nat) (x2 : Int32) (z : Int32 × Int32 × kw_H) : Option (((Int32 × Int32 × kw_H) ⊕ (Int32 × kw_H))) := X1_pairsIn_b16 x0 x1 x2 z.1 z.2.1 z.2.2
theorem X1_pairsIn_L16_t (G : kw_G) (Q : Option Value → kw_H → Prop) (x0 : Nat) (x1 : Nat) (x2 : Int32) (n : Nat) (z : Int32 × Int32 × kw_H) (r : Int32 × kw_H) (h : kp_lp (X1_pairsIn_B16 x0 x1 x2) n z = some r) (hK : Q (some (.int r.1)) r.2) : kw_V G mX1_pairsIn 16 [some (.ref x0), some (.ref x1), some (.int x2), some (.int z.1), some (.int z.2.1), none, none, none] [] z.2.2 Q :=
  kv_lp _ (fun z => kw_V G mX1_pairsIn 16 [some (.ref x0), some (.ref x1), some (.int x2), some (.int z.1), some (.int z.2.1), none, none, none] [] z.2.2 Q) (fun r => Q (some (.int r.1)) r.2) (fun z x hb hx => X1_pairsIn_b16_t G Q x0 x1 x2 z.1 z.2.1 z.2.2 x hb (by cases x <;> exact hx)) n z r h hK
def X1_pairsIn_F (hp : kw_H) (x0 : Nat) (x1 : Nat) (x2 : Int32) : Option (Int32 × kw_H) :=
  (kp_gR hp x0 [1] 1).bind fun v1 =>
  (J7_fill_53178_F hp v1 (nI 0)).bind fun r2 =>
  (kp_gI r2 x1 [2] 8).bind fun v3 =>
  kp_lp (X1_pairsIn_B16 x0 x1 x2) 2000 (v3, nI 0, r2)
set_option maxRecDepth 100000 in
set_option maxHeartbeats 4000000 in
theorem X1_pairsIn_c (G : kw_G) (hp : kw_H) (x0 : Nat) (x1 : Nat) (x2 : Int32) (r : Int32 × kw_H) (h : X1_pairsIn_F hp x0 x1 x2 = some r) : kw_Met G mX1_pairsIn [.ref x0, .ref x1, .int x2] hp (fun v h2 => v = some (.int r.1) ∧ h2 = r.2) := by
  refine kw_met (L := [some (.ref x0), some (.ref x1), some (.int x2), none, none, none, none, none]) (r := 5) (by decide +kernel) (Nat.le_of_ble_eq_true rfl) rfl ?_
  unfold X1_pairsIn_F at h
  obtain ⟨Q, hQ⟩ : ∃ Q : Option Value → kw_H → Prop, Q = (fun v h2 => v = some (.int r.1) ∧ h2 = r.2) := ⟨_, rfl⟩
  have hK : Q (some (.int r.1)) r.2 := by rw [hQ]; exact ⟨rfl, rfl⟩
  rw [← hQ]
  clear hQ
  refine kw_aload_n dX1_pairsIn_0 rfl ?_
  obtain ⟨v1, ev1, h⟩ := Option.bind_eq_some_iff.mp h
  refine kv_gR gfX1_18 dX1_pairsIn_1 ev1 ?_
  refine kw_iconst (v := nI 0) dX1_pairsIn_4 (by decide) ?_
  obtain ⟨r2, er2, h⟩ := Option.bind_eq_some_iff.mp h
  refine kw_callS (As := [.ref v1, .int (nI 0)]) (S := []) cbX1_pairsIn_J7_fill_53178 lkX1_69 stJ7_fill_53178 rfl rfl (Nat.le_of_ble_eq_true rfl) dX1_pairsIn_5 (J7_fill_53178_c G hp v1 (nI 0) _ er2) (fun vv hh hq => ?_)
  rw [hq.1, hq.2]
  show kw_V G mX1_pairsIn 8 [some (.ref x0), some (.ref x1), some (.int x2), none, none, none, none, none] [] r2 Q
  refine kw_aload_n dX1_pairsIn_8 rfl ?_
  obtain ⟨v3, ev3, h⟩ := Option.bind_eq_some_iff.mp h
  refine kv_gI gfX1_29 dX1_pairsIn_9 ev3 ?_
  refine kw_istore_n (L' := [some (.ref x0), some (.ref x1), some (.int x2), some (.int v3), none, none, none, none]) dX1_pairsIn_12 (by decide) rfl ?_
  refine kw_iconst (v := nI 0) dX1_pairsIn_13 (by decide) ?_
  refine kw_istore (L' := [some (.ref x0), some (.ref x1), some (.int x2), some (.int v3), some (.int (nI 0)), none, none, none]) dX1_pairsIn_14 (by decide) rfl ?_
  exact X1_pairsIn_L16_t G Q x0 x1 x2 _ (v3, nI 0, r2) _ h hK
/-! java/util/Arrays.fill([JJ)V -/
def J7_fill_d0a16_K6 (G : kw_G) (Q : Option Value → kw_H → Prop) (x0 : Nat) (x1 : Int64) (x4 : Int32) (r : (Int32 × kw_H) ⊕ (kw_H)) : Prop := match r with
  | .inl z => kw_V G mJ7_fill_d0a16 6 [some (.ref x0), some (.long x1), none, some (.int z.1), some (.int x4)] [] z.2 Q
  | .inr r => Q none r
def J7_fill_d0a16_J22 (hp : kw_H) : Option (kw_H) :=
  some (hp)
set_option maxRecDepth 100000 in
set_option maxHeartbeats 4000000 in
theorem J7_fill_d0a16_J22_t (G : kw_G) (Q : Option Value → kw_H → Prop) (hp : kw_H) (r : kw_H) (h : J7_fill_d0a16_J22 hp = some r) (hK : Q none r) : kw_V G mJ7_fill_d0a16 22 [none, none, none, none, none] [] hp Q := by
  unfold J7_fill_d0a16_J22 at h
  have h := Option.some.inj h
  subst h
  exact kw_vret rfl dJ7_fill_d0a16_22 hK
def J7_fill_d0a16_b6 (x0 : Nat) (x1 : Int64) (x4 : Int32) (x3 : Int32) (hp : kw_H) : Option (((Int32 × kw_H) ⊕ (kw_H))) :=
  (if x4 ≤ x3 then
  (J7_fill_d0a16_J22 hp).map (fun r => .inr (r))
else
  (kp_stJ hp x0 x3 x1).bind fun hp3 =>
  some (.inl (x3 + (nI 1), hp3)))
set_option maxRecDepth 100000 in
set_option maxHeartbeats 4000000 in
theorem J7_fill_d0a16_b6_t (G : kw_G) (Q : Option Value → kw_H → Prop) (x0 : Nat) (x1 : Int64) (x4 : Int32) (x3 : Int32) (hp : kw_H) (r : ((Int32 × kw_H) ⊕ (kw_H))) (h : J7_fill_d0a16_b6 x0 x1 x4 x3 hp = some r) (hK : J7_fill_d0a16_K6 G Q x0 x1 x4 r) : kw_V G mJ7_fill_d0a16 6 [some (.ref x0), some (.long x1), none, some (.int x3), some (.int x4)] [] hp Q := by
  unfold J7_fill_d0a16_b6 at h
  refine kw_iload_n dJ7_fill_d0a16_6 rfl ?_
  refine kw_iload dJ7_fill_d0a16_7 rfl ?_
  refine kw_icmp_ge 22 dJ7_fill_d0a16_9 (by decide) (fun c4 => ?_) (fun c4 => ?_)
  · have h := (if_pos c4).symm.trans h
    refine kw_mask [false, false, true, false, false] (L' := [none, none, none, none, none]) rfl ?_
    obtain ⟨r2, hr2, hrr2⟩ := Option.map_eq_some_iff.mp h
    subst hrr2
    exact J7_fill_d0a16_J22_t G Q hp r2 hr2 hK
  · have h := (if_neg c4).symm.trans h
    refine kw_aload_n dJ7_fill_d0a16_12 rfl ?_
    refine kw_iload_n dJ7_fill_d0a16_13 rfl ?_
    refine kw_lload_n dJ7_fill_d0a16_14 rfl ?_
    obtain ⟨hp3, ehp3, h⟩ := Option.bind_eq_some_iff.mp h
    refine kv_stJ dJ7_fill_d0a16_15 ehp3 ?_
    refine kv_iinc (w := nI 1) (L' := [some (.ref x0), some (.long x1), none, some (.int (x3 + (nI 1))), some (.int x4)]) dJ7_fill_d0a16_16 (by decide) rfl (by decide) rfl ?_
    refine kw_goto 6 dJ7_fill_d0a16_19 (by decide) ?_
    have h := Option.some.inj h
    subst h
    exact hK
def J7_fill_d0a16_B6 (x0 : Nat) (x1 : Int64) (x4 : Int32) (z : Int32 × kw_H) : Option (((Int32 × kw_H) ⊕ (kw_H))) := J7_fill_d0a16_b6 x0 x1 x4 z.1 z.2
theorem J7_fill_d0a16_L6_t (G : kw_G) (Q : Option Value → kw_H → Prop) (x0 : Nat) (x1 : Int64) (x4 : Int32) (n : Nat) (z : Int32 × kw_H) (r : kw_H) (h : kp_lp (J7_fill_d0a16_B6 x0 x1 x4) n z = some r) (hK : Q none r) : kw_V G mJ7_fill_d0a16 6 [some (.ref x0), some (.long x1), none, some (.int z.1), some (.int x4)] [] z.2 Q :=
  kv_lp _ (fun z => kw_V G mJ7_fill_d0a16 6 [some (.ref x0), some (.long x1), none, some (.int z.1), some (.int x4)] [] z.2 Q) (fun r => Q none r) (fun z x hb hx => J7_fill_d0a16_b6_t G Q x0 x1 x4 z.1 z.2 x hb (by cases x <;> exact hx)) n z r h hK
def J7_fill_d0a16_F (hp : kw_H) (x0 : Nat) (x1 : Int64) : Option (kw_H) :=
  (kp_len hp x0).bind fun v1 =>
  kp_lp (J7_fill_d0a16_B6 x0 x1 v1) 2000 (nI 0, hp)
set_option maxRecDepth 100000 in
set_option maxHeartbeats 4000000 in
theorem J7_fill_d0a16_c (G : kw_G) (hp : kw_H) (x0 : Nat) (x1 : Int64) (r : kw_H) (h : J7_fill_d0a16_F hp x0 x1 = some r) : kw_Met G mJ7_fill_d0a16 [.ref x0, .long x1] hp (fun v h2 => v = none ∧ h2 = r) := by
  refine kw_met (L := [some (.ref x0), some (.long x1), none, none, none]) (r := 2) (by decide +kernel) (Nat.le_of_ble_eq_true rfl) rfl ?_
  unfold J7_fill_d0a16_F at h
  obtain ⟨Q, hQ⟩ : ∃ Q : Option Value → kw_H → Prop, Q = (fun v h2 => v = none ∧ h2 = r) := ⟨_, rfl⟩
  have hK : Q none r := by rw [hQ]; exact ⟨rfl, rfl⟩
  rw [← hQ]
  clear hQ
  refine kw_iconst (v := nI 0) dJ7_fill_d0a16_0 (by decide) ?_
  refine kw_istore_n (L' := [some (.ref x0), some (.long x1), none, some (.int (nI 0)), none]) dJ7_fill_d0a16_1 (by decide) rfl ?_
  refine kw_aload_n dJ7_fill_d0a16_2 rfl ?_
  obtain ⟨v1, ev1, h⟩ := Option.bind_eq_some_iff.mp h
  refine kv_len dJ7_fill_d0a16_3 ev1 ?_
  refine kw_istore (L' := [some (.ref x0), some (.long x1), none, some (.int (nI 0)), some (.int v1)]) dJ7_fill_d0a16_4 (by decide) rfl ?_
  exact J7_fill_d0a16_L6_t G Q x0 x1 v1 _ (nI 0, hp) _ h hK
/-! KitchenWheels$Foreteller.passForgetful(LKitchenWheels$Kitchen;II)V -/
def X1_passForgetful_K11 (G : kw_G) (Q : Option Value → kw_H → Prop) (x0 : Nat) (x1 : Nat) (x2 : Int32) (x3 : Int32) (r : (Int32 × kw_H) ⊕ (kw_H)) : Prop := match r with
  | .inl z => kw_V G mX1_passForgetful 11 [some (.ref x0), some (.ref x1), some (.int x2), some (.int x3), some (.int z.1), none] [] z.2 Q
  | .inr r => Q none r
def X1_passForgetful_J96 (hp : kw_H) (x0 : Nat) : Option (kw_H) :=
  (kp_gR hp x0 [1] 3).bind fun v4 =>
  (kp_gR hp x0 [1] 2).bind fun v5 =>
  (kp_cpJ hp v4 (nI 0) v5 (nI 0) (nI 8)).bind fun hp6 =>
  some (hp6)
set_option maxRecDepth 100000 in
set_option maxHeartbeats 4000000 in
theorem X1_passForgetful_J96_t (G : kw_G) (Q : Option Value → kw_H → Prop) (hp : kw_H) (x0 : Nat) (r : kw_H) (h : X1_passForgetful_J96 hp x0 = some r) (hK : Q none r) : kw_V G mX1_passForgetful 96 [some (.ref x0), none, none, none, none, none] [] hp Q := by
  unfold X1_passForgetful_J96 at h
  refine kw_aload_n dX1_passForgetful_96 rfl ?_
  obtain ⟨v4, ev4, h⟩ := Option.bind_eq_some_iff.mp h
  refine kv_gR gfX1_26 dX1_passForgetful_97 ev4 ?_
  refine kw_iconst (v := nI 0) dX1_passForgetful_100 (by decide) ?_
  refine kw_aload_n dX1_passForgetful_101 rfl ?_
  obtain ⟨v5, ev5, h⟩ := Option.bind_eq_some_iff.mp h
  refine kv_gR gfX1_22 dX1_passForgetful_102 ev5 ?_
  refine kw_iconst (v := nI 0) dX1_passForgetful_105 (by decide) ?_
  refine kw_bipush (v := nI 8) dX1_passForgetful_106 (by decide) ?_
  obtain ⟨hp6, ehp6, h⟩ := Option.bind_eq_some_iff.mp h
  refine kv_cpJ coX1_passForgetful_172 (Nat.le_of_ble_eq_true rfl) dX1_passForgetful_108 ehp6 ?_
  have h := Option.some.inj h
  subst h
  exact kw_vret rfl dX1_passForgetful_111 hK
def X1_passForgetful_J90 (hp : kw_H) (x0 : Nat) (x1 : Nat) (x2 : Int32) (x3 : Int32) (x4 : Int32) : Option (((Int32 × kw_H) ⊕ (kw_H))) :=
  some (.inl (x4 + (nI 1), hp))
set_option maxRecDepth 100000 in
set_option maxHeartbeats 4000000 in
theorem X1_passForgetful_J90_t (G : kw_G) (Q : Option Value → kw_H → Prop) (hp : kw_H) (x0 : Nat) (x1 : Nat) (x2 : Int32) (x3 : Int32) (x4 : Int32) (r : ((Int32 × kw_H) ⊕ (kw_H))) (h : X1_passForgetful_J90 hp x0 x1 x2 x3 x4 = some r) (hK : X1_passForgetful_K11 G Q x0 x1 x2 x3 r) : kw_V G mX1_passForgetful 90 [some (.ref x0), some (.ref x1), some (.int x2), some (.int x3), some (.int x4), none] [] hp Q := by
  unfold X1_passForgetful_J90 at h
  refine kv_iinc (w := nI 1) (L' := [some (.ref x0), some (.ref x1), some (.int x2), some (.int x3), some (.int (x4 + (nI 1))), none]) dX1_passForgetful_90 (by decide) rfl (by decide) rfl ?_
  refine kw_goto 11 dX1_passForgetful_93 (by decide) ?_
  have h := Option.some.inj h
  subst h
  exact hK
def X1_passForgetful_b11 (x0 : Nat) (x1 : Nat) (x2 : Int32) (x3 : Int32) (x4 : Int32) (hp : kw_H) : Option (((Int32 × kw_H) ⊕ (kw_H))) :=
  (kp_gI hp x1 [2] 5).bind fun v3 =>
  (if v3 ≤ x4 then
  (X1_passForgetful_J96 hp x0).map (fun r => .inr (r))
else
  (if (nI 8) ≤ x4 then
  (X1_passForgetful_J96 hp x0).map (fun r => .inr (r))
else
  ((kp_ob hp x1 2).bind fun _ => X2_turnedNext_F hp x1 x4 x2).bind fun r9 =>
  (kp_gR hp x0 [1] 3).bind fun v10 =>
  (kp_ldJ hp v10 x4).bind fun v11 =>
  (kp_gR hp x0 [1] 2).bind fun v12 =>
  (kp_ldJ hp v12 x4).bind fun v13 =>
  (kp_stJ hp v10 x4 (v11 + (v13 * (Int32.toInt64 x3)))).bind fun hp14 =>
  (X11_within_F hp14 r9 (nI 0) (nI 7)).bind fun r15 =>
  (if r15 = 0 then
  X1_passForgetful_J90 hp14 x0 x1 x2 x3 x4
else
  (kp_gR hp14 x0 [1] 3).bind fun v16 =>
  (kp_ldJ hp14 v16 r9).bind fun v17 =>
  (kp_gR hp14 x0 [1] 2).bind fun v18 =>
  (kp_ldJ hp14 v18 x4).bind fun v19 =>
  (kp_stJ hp14 v16 r9 (v17 + (v19 * (Int32.toInt64 ((nI 10) - x3))))).bind fun hp20 =>
  X1_passForgetful_J90 hp20 x0 x1 x2 x3 x4)))
set_option maxRecDepth 100000 in
set_option maxHeartbeats 4000000 in
theorem X1_passForgetful_b11_t (G : kw_G) (Q : Option Value → kw_H → Prop) (x0 : Nat) (x1 : Nat) (x2 : Int32) (x3 : Int32) (x4 : Int32) (hp : kw_H) (r : ((Int32 × kw_H) ⊕ (kw_H))) (h : X1_passForgetful_b11 x0 x1 x2 x3 x4 hp = some r) (hK : X1_passForgetful_K11 G Q x0 x1 x2 x3 r) : kw_V G mX1_passForgetful 11 [some (.ref x0), some (.ref x1), some (.int x2), some (.int x3), some (.int x4), none] [] hp Q := by
  unfold X1_passForgetful_b11 at h
  refine kw_iload dX1_passForgetful_11 rfl ?_
  refine kw_aload_n dX1_passForgetful_13 rfl ?_
  obtain ⟨v3, ev3, h⟩ := Option.bind_eq_some_iff.mp h
  refine kv_gI gfX1_133 dX1_passForgetful_14 ev3 ?_
  refine kw_icmp_ge 96 dX1_passForgetful_17 (by decide) (fun c23 => ?_) (fun c23 => ?_)
  · have h := (if_pos c23).symm.trans h
    refine kw_mask [true, false, false, false, false, true] (L' := [some (.ref x0), none, none, none, none, none]) rfl ?_
    obtain ⟨r7, hr7, hrr7⟩ := Option.map_eq_some_iff.mp h
    subst hrr7
    exact X1_passForgetful_J96_t G Q hp x0 r7 hr7 hK
  · have h := (if_neg c23).symm.trans h
    refine kw_iload dX1_passForgetful_20 rfl ?_
    refine kw_bipush (v := nI 8) dX1_passForgetful_22 (by decide) ?_
    refine kw_icmp_ge 96 dX1_passForgetful_24 (by decide) (fun c22 => ?_) (fun c22 => ?_)
    · have h := (if_pos c22).symm.trans h
      refine kw_mask [true, false, false, false, false, true] (L' := [some (.ref x0), none, none, none, none, none]) rfl ?_
      obtain ⟨r8, hr8, hrr8⟩ := Option.map_eq_some_iff.mp h
      subst hrr8
      exact X1_passForgetful_J96_t G Q hp x0 r8 hr8 hK
    · have h := (if_neg c22).symm.trans h
      refine kw_aload_n dX1_passForgetful_27 rfl ?_
      refine kw_iload dX1_passForgetful_28 rfl ?_
      refine kw_iload_n dX1_passForgetful_30 rfl ?_
      obtain ⟨r9, er9, h⟩ := Option.bind_eq_some_iff.mp h
      obtain ⟨ur9, eur9, er9⟩ := Option.bind_eq_some_iff.mp er9
      obtain ⟨fsr9, hor9⟩ := kp_ob_inv eur9
      refine kw_callV (As := [.int x4, .int x2]) (S := []) kcX2 cbX1_passForgetful_X2_turnedNext lkX1_51 imX2_turnedNext seX2_X2_turnedNext_X2_turnedNext rfl rfl (Nat.le_of_ble_eq_true rfl) dX1_passForgetful_31 hor9 (X2_turnedNext_c G hp x1 x4 x2 _ er9) (fun vv hh hq => ?_)
      rw [hq.1, hq.2]
      show kw_V G mX1_passForgetful 34 [some (.ref x0), some (.ref x1), some (.int x2), some (.int x3), some (.int x4), none] [.int r9] hp Q
      refine kw_istore (L' := [some (.ref x0), some (.ref x1), some (.int x2), some (.int x3), some (.int x4), some (.int r9)]) dX1_passForgetful_34 (by decide) rfl ?_
      refine kw_aload_n dX1_passForgetful_36 rfl ?_
      obtain ⟨v10, ev10, h⟩ := Option.bind_eq_some_iff.mp h
      refine kv_gR gfX1_26 dX1_passForgetful_37 ev10 ?_
      refine kw_iload dX1_passForgetful_40 rfl ?_
      refine kw_dup2 dX1_passForgetful_42 rfl rfl ?_
      obtain ⟨v11, ev11, h⟩ := Option.bind_eq_some_iff.mp h
      refine kv_ldJ dX1_passForgetful_43 ev11 ?_
      refine kw_aload_n dX1_passForgetful_44 rfl ?_
      obtain ⟨v12, ev12, h⟩ := Option.bind_eq_some_iff.mp h
      refine kv_gR gfX1_22 dX1_passForgetful_45 ev12 ?_
      refine kw_iload dX1_passForgetful_48 rfl ?_
      obtain ⟨v13, ev13, h⟩ := Option.bind_eq_some_iff.mp h
      refine kv_ldJ dX1_passForgetful_50 ev13 ?_
      refine kw_iload_n dX1_passForgetful_51 rfl ?_
      refine kw_i2l dX1_passForgetful_52 ?_
      refine kw_lmul dX1_passForgetful_53 ?_
      refine kw_ladd dX1_passForgetful_54 ?_
      obtain ⟨hp14, ehp14, h⟩ := Option.bind_eq_some_iff.mp h
      refine kv_stJ dX1_passForgetful_55 ehp14 ?_
      refine kw_iload dX1_passForgetful_56 rfl ?_
      refine kw_iconst (v := nI 0) dX1_passForgetful_58 (by decide) ?_
      refine kw_bipush (v := nI 7) dX1_passForgetful_59 (by decide) ?_
      obtain ⟨r15, er15, h⟩ := Option.bind_eq_some_iff.mp h
      refine kw_callSN (As := [.int r9, .int (nI 0), .int (nI 7)]) (S := []) cbX1_passForgetful_X11_within lnX1_119 stX11_within rfl rfl (Nat.le_of_ble_eq_true rfl) dX1_passForgetful_61 (X11_within_c G hp14 r9 (nI 0) (nI 7) _ er15) (fun vv hh hq => ?_)
      rw [hq.1, hq.2]
      show kw_V G mX1_passForgetful 64 [some (.ref x0), some (.ref x1), some (.int x2), some (.int x3), some (.int x4), some (.int r9)] [.int r15] hp14 Q
      refine kw_if_eq 90 dX1_passForgetful_64 (by decide) (fun c21 => ?_) (fun c21 => ?_)
      · have h := (if_pos c21).symm.trans h
        refine kw_mask [true, true, true, true, true, false] (L' := [some (.ref x0), some (.ref x1), some (.int x2), some (.int x3), some (.int x4), none]) rfl ?_
        exact X1_passForgetful_J90_t G Q hp14 x0 x1 x2 x3 x4 _ h hK
      · have h := (if_neg c21).symm.trans h
        refine kw_aload_n dX1_passForgetful_67 rfl ?_
        obtain ⟨v16, ev16, h⟩ := Option.bind_eq_some_iff.mp h
        refine kv_gR gfX1_26 dX1_passForgetful_68 ev16 ?_
        refine kw_iload dX1_passForgetful_71 rfl ?_
        refine kw_dup2 dX1_passForgetful_73 rfl rfl ?_
        obtain ⟨v17, ev17, h⟩ := Option.bind_eq_some_iff.mp h
        refine kv_ldJ dX1_passForgetful_74 ev17 ?_
        refine kw_aload_n dX1_passForgetful_75 rfl ?_
        obtain ⟨v18, ev18, h⟩ := Option.bind_eq_some_iff.mp h
        refine kv_gR gfX1_22 dX1_passForgetful_76 ev18 ?_
        refine kw_iload dX1_passForgetful_79 rfl ?_
        obtain ⟨v19, ev19, h⟩ := Option.bind_eq_some_iff.mp h
        refine kv_ldJ dX1_passForgetful_81 ev19 ?_
        refine kw_bipush (v := nI 10) dX1_passForgetful_82 (by decide) ?_
        refine kw_iload_n dX1_passForgetful_84 rfl ?_
        refine kw_isub dX1_passForgetful_85 ?_
        refine kw_i2l dX1_passForgetful_86 ?_
        refine kw_lmul dX1_passForgetful_87 ?_
        refine kw_ladd dX1_passForgetful_88 ?_
        obtain ⟨hp20, ehp20, h⟩ := Option.bind_eq_some_iff.mp h
        refine kv_stJ dX1_passForgetful_89 ehp20 ?_
        refine kw_mask [true, true, true, true, true, false] (L' := [some (.ref x0), some (.ref x1), some (.int x2), some (.int x3), some (.int x4), none]) rfl ?_
        exact X1_passForgetful_J90_t G Q hp20 x0 x1 x2 x3 x4 _ h hK
def X1_passForgetful_B11 (x0 : Nat) (x1 : Nat) (x2 : Int32) (x3 : Int32) (z : Int32 × kw_H) : Option (((Int32 × kw_H) ⊕ (kw_H))) := X1_passForgetful_b11 x0 x1 x2 x3 z.1 z.2
theorem X1_passForgetful_L11_t (G : kw_G) (Q : Option Value → kw_H → Prop) (x0 : Nat) (x1 : Nat) (x2 : Int32) (x3 : Int32) (n : Nat) (z : Int32 × kw_H) (r : kw_H) (h : kp_lp (X1_passForgetful_B11 x0 x1 x2 x3) n z = some r) (hK : Q none r) : kw_V G mX1_passForgetful 11 [some (.ref x0), some (.ref x1), some (.int x2), some (.int x3), some (.int z.1), none] [] z.2 Q :=
  kv_lp _ (fun z => kw_V G mX1_passForgetful 11 [some (.ref x0), some (.ref x1), some (.int x2), some (.int x3), some (.int z.1), none] [] z.2 Q) (fun r => Q none r) (fun z x hb hx => X1_passForgetful_b11_t G Q x0 x1 x2 x3 z.1 z.2 x hb (by cases x <;> exact hx)) n z r h hK
def X1_passForgetful_F (hp : kw_H) (x0 : Nat) (x1 : Nat) (x2 : Int32) (x3 : Int32) : Option (kw_H) :=
  (kp_gR hp x0 [1] 3).bind fun v1 =>
  (J7_fill_d0a16_F hp v1 (lN 0)).bind fun r2 =>
  kp_lp (X1_passForgetful_B11 x0 x1 x2 x3) 2000 (nI 0, r2)
set_option maxRecDepth 100000 in
set_option maxHeartbeats 4000000 in
theorem X1_passForgetful_c (G : kw_G) (hp : kw_H) (x0 : Nat) (x1 : Nat) (x2 : Int32) (x3 : Int32) (r : kw_H) (h : X1_passForgetful_F hp x0 x1 x2 x3 = some r) : kw_Met G mX1_passForgetful [.ref x0, .ref x1, .int x2, .int x3] hp (fun v h2 => v = none ∧ h2 = r) := by
  refine kw_met (L := [some (.ref x0), some (.ref x1), some (.int x2), some (.int x3), none, none]) (r := 2) (by decide +kernel) (Nat.le_of_ble_eq_true rfl) rfl ?_
  unfold X1_passForgetful_F at h
  obtain ⟨Q, hQ⟩ : ∃ Q : Option Value → kw_H → Prop, Q = (fun v h2 => v = none ∧ h2 = r) := ⟨_, rfl⟩
  have hK : Q none r := by rw [hQ]; exact ⟨rfl, rfl⟩
  rw [← hQ]
  clear hQ
  refine kw_aload_n dX1_passForgetful_0 rfl ?_
  obtain ⟨v1, ev1, h⟩ := Option.bind_eq_some_iff.mp h
  refine kv_gR gfX1_26 dX1_passForgetful_1 ev1 ?_
  refine kw_lconst (v := lN 0) dX1_passForgetful_4 (by decide) ?_
  obtain ⟨r2, er2, h⟩ := Option.bind_eq_some_iff.mp h
  refine kw_callS (As := [.ref v1, .long (lN 0)]) (S := []) cbX1_passForgetful_J7_fill_d0a16 lkX1_166 stJ7_fill_d0a16 rfl rfl (Nat.le_of_ble_eq_true rfl) dX1_passForgetful_5 (J7_fill_d0a16_c G hp v1 (lN 0) _ er2) (fun vv hh hq => ?_)
  rw [hq.1, hq.2]
  show kw_V G mX1_passForgetful 8 [some (.ref x0), some (.ref x1), some (.int x2), some (.int x3), none, none] [] r2 Q
  refine kw_iconst (v := nI 0) dX1_passForgetful_8 (by decide) ?_
  refine kw_istore (L' := [some (.ref x0), some (.ref x1), some (.int x2), some (.int x3), some (.int (nI 0)), none]) dX1_passForgetful_9 (by decide) rfl ?_
  exact X1_passForgetful_L11_t G Q x0 x1 x2 x3 _ (nI 0, r2) _ h hK
/-! KitchenWheels$Foreteller.casesOf(LKitchenWheels$Kitchen;IIII)J -/
def X1_casesOf_K34 (G : kw_G) (Q : Option Value → kw_H → Prop) (x0 : Nat) (x1 : Nat) (x2 : Int32) (x3 : Int32) (x4 : Int32) (x5 : Int32) (r : (Int32 × kw_H) ⊕ (Int64 × kw_H)) : Prop := match r with
  | .inl z => kw_V G mX1_casesOf 34 [some (.ref x0), some (.ref x1), some (.int x2), some (.int x3), some (.int x4), some (.int x5), some (.int z.1), none, none] [] z.2 Q
  | .inr r => Q (some (.long r.1)) r.2
def X1_casesOf_K67 (G : kw_G) (Q : Option Value → kw_H → Prop) (hp : kw_H) (x0 : Nat) (x1 : Nat) (x2 : Int32) (x3 : Int32) (x4 : Int32) (r : (Int64 × Int32) ⊕ (Int64 × kw_H)) : Prop := match r with
  | .inl z => kw_V G mX1_casesOf 67 [some (.ref x0), some (.ref x1), some (.int x2), some (.int x3), some (.int x4), none, some (.long z.1), none, some (.int z.2)] [] hp Q
  | .inr r => Q (some (.long r.1)) r.2
def X1_casesOf_J121 (hp : kw_H) (x6 : Int64) : Option (Int64 × kw_H) :=
  some ((x6, hp))
set_option maxRecDepth 100000 in
set_option maxHeartbeats 4000000 in
theorem X1_casesOf_J121_t (G : kw_G) (Q : Option Value → kw_H → Prop) (hp : kw_H) (x6 : Int64) (r : Int64 × kw_H) (h : X1_casesOf_J121 hp x6 = some r) (hK : Q (some (.long r.1)) r.2) : kw_V G mX1_casesOf 121 [none, none, none, none, none, none, some (.long x6), none, none] [] hp Q := by
  unfold X1_casesOf_J121 at h
  refine kw_lload dX1_casesOf_121 rfl ?_
  have h := Option.some.inj h
  subst h
  exact kw_lret rfl dX1_casesOf_123 hK
def X1_casesOf_J115 (hp : kw_H) (x0 : Nat) (x1 : Nat) (x2 : Int32) (x3 : Int32) (x4 : Int32) (x6 : Int64) (x8 : Int32) : Option (((Int64 × Int32) ⊕ (Int64 × kw_H))) :=
  some (.inl (x6, x8 + (nI 1)))
set_option maxRecDepth 100000 in
set_option maxHeartbeats 4000000 in
theorem X1_casesOf_J115_t (G : kw_G) (Q : Option Value → kw_H → Prop) (hp : kw_H) (x0 : Nat) (x1 : Nat) (x2 : Int32) (x3 : Int32) (x4 : Int32) (x6 : Int64) (x8 : Int32) (r : ((Int64 × Int32) ⊕ (Int64 × kw_H))) (h : X1_casesOf_J115 hp x0 x1 x2 x3 x4 x6 x8 = some r) (hK : X1_casesOf_K67 G Q hp x0 x1 x2 x3 x4 r) : kw_V G mX1_casesOf 115 [some (.ref x0), some (.ref x1), some (.int x2), some (.int x3), some (.int x4), none, some (.long x6), none, some (.int x8)] [] hp Q := by
  unfold X1_casesOf_J115 at h
  refine kv_iinc (w := nI 1) (L' := [some (.ref x0), some (.ref x1), some (.int x2), some (.int x3), some (.int x4), none, some (.long x6), none, some (.int (x8 + (nI 1)))]) dX1_casesOf_115 (by decide) rfl (by decide) rfl ?_
  refine kw_goto 67 dX1_casesOf_118 (by decide) ?_
  have h := Option.some.inj h
  subst h
  exact hK
def X1_casesOf_b67 (hp : kw_H) (x0 : Nat) (x1 : Nat) (x2 : Int32) (x3 : Int32) (x4 : Int32) (x6 : Int64) (x8 : Int32) : Option (((Int64 × Int32) ⊕ (Int64 × kw_H))) :=
  (kp_gI hp x1 [2] 5).bind fun v5 =>
  (if v5 ≤ x8 then
  (X1_casesOf_J121 hp x6).map (fun r => .inr (r))
else
  (if (nI 8) ≤ x8 then
  (X1_casesOf_J121 hp x6).map (fun r => .inr (r))
else
  ((kp_ob hp x1 2).bind fun _ => X2_awayBehind_F hp x1 x4).bind fun r8 =>
  ((kp_ob hp x1 2).bind fun _ => X2_doersOf_F hp x1 x3 x8 r8).bind fun r9 =>
  (X11_holds_F hp r9 x2).bind fun r10 =>
  (if r10 = 0 then
  X1_casesOf_J115 hp x0 x1 x2 x3 x4 x6 x8
else
  (kp_gR hp x0 [1] 2).bind fun v11 =>
  (kp_ldJ hp v11 x8).bind fun v12 =>
  X1_casesOf_J115 hp x0 x1 x2 x3 x4 (x6 + v12) x8)))
set_option maxRecDepth 100000 in
set_option maxHeartbeats 4000000 in
theorem X1_casesOf_b67_t (G : kw_G) (Q : Option Value → kw_H → Prop) (hp : kw_H) (x0 : Nat) (x1 : Nat) (x2 : Int32) (x3 : Int32) (x4 : Int32) (x6 : Int64) (x8 : Int32) (r : ((Int64 × Int32) ⊕ (Int64 × kw_H))) (h : X1_casesOf_b67 hp x0 x1 x2 x3 x4 x6 x8 = some r) (hK : X1_casesOf_K67 G Q hp x0 x1 x2 x3 x4 r) : kw_V G mX1_casesOf 67 [some (.ref x0), some (.ref x1), some (.int x2), some (.int x3), some (.int x4), none, some (.long x6), none, some (.int x8)] [] hp Q := by
  unfold X1_casesOf_b67 at h
  refine kw_iload dX1_casesOf_67 rfl ?_
  refine kw_aload_n dX1_casesOf_69 rfl ?_
  obtain ⟨v5, ev5, h⟩ := Option.bind_eq_some_iff.mp h
  refine kv_gI gfX1_133 dX1_casesOf_70 ev5 ?_
  refine kw_icmp_ge 121 dX1_casesOf_73 (by decide) (fun c15 => ?_) (fun c15 => ?_)
  · have h := (if_pos c15).symm.trans h
    refine kw_mask [false, false, false, false, false, true, true, true, false] (L' := [none, none, none, none, none, none, some (.long x6), none, none]) rfl ?_
    obtain ⟨r6, hr6, hrr6⟩ := Option.map_eq_some_iff.mp h
    subst hrr6
    exact X1_casesOf_J121_t G Q hp x6 r6 hr6 hK
  · have h := (if_neg c15).symm.trans h
    refine kw_iload dX1_casesOf_76 rfl ?_
    refine kw_bipush (v := nI 8) dX1_casesOf_78 (by decide) ?_
    refine kw_icmp_ge 121 dX1_casesOf_80 (by decide) (fun c14 => ?_) (fun c14 => ?_)
    · have h := (if_pos c14).symm.trans h
      refine kw_mask [false, false, false, false, false, true, true, true, false] (L' := [none, none, none, none, none, none, some (.long x6), none, none]) rfl ?_
      obtain ⟨r7, hr7, hrr7⟩ := Option.map_eq_some_iff.mp h
      subst hrr7
      exact X1_casesOf_J121_t G Q hp x6 r7 hr7 hK
    · have h := (if_neg c14).symm.trans h
      refine kw_aload_n dX1_casesOf_83 rfl ?_
      refine kw_iload_n dX1_casesOf_84 rfl ?_
      refine kw_iload dX1_casesOf_85 rfl ?_
      refine kw_aload_n dX1_casesOf_87 rfl ?_
      refine kw_iload dX1_casesOf_88 rfl ?_
      obtain ⟨r8, er8, h⟩ := Option.bind_eq_some_iff.mp h
      obtain ⟨ur8, eur8, er8⟩ := Option.bind_eq_some_iff.mp er8
      obtain ⟨fsr8, hor8⟩ := kp_ob_inv eur8
      refine kw_callV (As := [.int x4]) (S := [.int x8, .int x3, .ref x1]) kcX2 cbX1_casesOf_X2_awayBehind lkX1_40 imX2_awayBehind seX2_X2_awayBehind_X2_awayBehind rfl rfl (Nat.le_of_ble_eq_true rfl) dX1_casesOf_90 hor8 (X2_awayBehind_c G hp x1 x4 _ er8) (fun vv hh hq => ?_)
      rw [hq.1, hq.2]
      show kw_V G mX1_casesOf 93 [some (.ref x0), some (.ref x1), some (.int x2), some (.int x3), some (.int x4), none, some (.long x6), none, some (.int x8)] [.int r8, .int x8, .int x3, .ref x1] hp Q
      obtain ⟨r9, er9, h⟩ := Option.bind_eq_some_iff.mp h
      obtain ⟨ur9, eur9, er9⟩ := Option.bind_eq_some_iff.mp er9
      obtain ⟨fsr9, hor9⟩ := kp_ob_inv eur9
      refine kw_callV (As := [.int x3, .int x8, .int r8]) (S := []) kcX2 cbX1_casesOf_X2_doersOf lkX1_54 imX2_doersOf seX2_X2_doersOf_X2_doersOf rfl rfl (Nat.le_of_ble_eq_true rfl) dX1_casesOf_93 hor9 (X2_doersOf_c G hp x1 x3 x8 r8 _ er9) (fun vv hh hq => ?_)
      rw [hq.1, hq.2]
      show kw_V G mX1_casesOf 96 [some (.ref x0), some (.ref x1), some (.int x2), some (.int x3), some (.int x4), none, some (.long x6), none, some (.int x8)] [.int r9] hp Q
      refine kw_iload_n dX1_casesOf_96 rfl ?_
      obtain ⟨r10, er10, h⟩ := Option.bind_eq_some_iff.mp h
      refine kw_callSN (As := [.int r9, .int x2]) (S := []) cbX1_casesOf_X11_holds lnX1_57 stX11_holds rfl rfl (Nat.le_of_ble_eq_true rfl) dX1_casesOf_97 (X11_holds_c G hp r9 x2 _ er10) (fun vv hh hq => ?_)
      rw [hq.1, hq.2]
      show kw_V G mX1_casesOf 100 [some (.ref x0), some (.ref x1), some (.int x2), some (.int x3), some (.int x4), none, some (.long x6), none, some (.int x8)] [.int r10] hp Q
      refine kw_if_eq 115 dX1_casesOf_100 (by decide) (fun c13 => ?_) (fun c13 => ?_)
      · have h := (if_pos c13).symm.trans h
        exact X1_casesOf_J115_t G Q hp x0 x1 x2 x3 x4 x6 x8 _ h hK
      · have h := (if_neg c13).symm.trans h
        refine kw_lload dX1_casesOf_103 rfl ?_
        refine kw_aload_n dX1_casesOf_105 rfl ?_
        obtain ⟨v11, ev11, h⟩ := Option.bind_eq_some_iff.mp h
        refine kv_gR gfX1_22 dX1_casesOf_106 ev11 ?_
        refine kw_iload dX1_casesOf_109 rfl ?_
        obtain ⟨v12, ev12, h⟩ := Option.bind_eq_some_iff.mp h
        refine kv_ldJ dX1_casesOf_111 ev12 ?_
        refine kw_ladd dX1_casesOf_112 ?_
        refine kw_lstore (L' := [some (.ref x0), some (.ref x1), some (.int x2), some (.int x3), some (.int x4), none, some (.long (x6 + v12)), none, some (.int x8)]) dX1_casesOf_113 (by decide) rfl ?_
        exact X1_casesOf_J115_t G Q hp x0 x1 x2 x3 x4 (x6 + v12) x8 _ h hK
def X1_casesOf_B67 (hp : kw_H) (x0 : Nat) (x1 : Nat) (x2 : Int32) (x3 : Int32) (x4 : Int32) (z : Int64 × Int32) : Option (((Int64 × Int32) ⊕ (Int64 × kw_H))) := X1_casesOf_b67 hp x0 x1 x2 x3 x4 z.1 z.2
theorem X1_casesOf_L67_t (G : kw_G) (Q : Option Value → kw_H → Prop) (hp : kw_H) (x0 : Nat) (x1 : Nat) (x2 : Int32) (x3 : Int32) (x4 : Int32) (n : Nat) (z : Int64 × Int32) (r : Int64 × kw_H) (h : kp_lp (X1_casesOf_B67 hp x0 x1 x2 x3 x4) n z = some r) (hK : Q (some (.long r.1)) r.2) : kw_V G mX1_casesOf 67 [some (.ref x0), some (.ref x1), some (.int x2), some (.int x3), some (.int x4), none, some (.long z.1), none, some (.int z.2)] [] hp Q :=
  kv_lp _ (fun z => kw_V G mX1_casesOf 67 [some (.ref x0), some (.ref x1), some (.int x2), some (.int x3), some (.int x4), none, some (.long z.1), none, some (.int z.2)] [] hp Q) (fun r => Q (some (.long r.1)) r.2) (fun z x hb hx => X1_casesOf_b67_t G Q hp x0 x1 x2 x3 x4 z.1 z.2 x hb (by cases x <;> exact hx)) n z r h hK
def X1_casesOf_J61 (hp : kw_H) (x0 : Nat) (x1 : Nat) (x2 : Int32) (x3 : Int32) (x4 : Int32) : Option (Int64 × kw_H) :=
  kp_lp (X1_casesOf_B67 hp x0 x1 x2 x3 x4) 2000 (lN 0, nI 0)
set_option maxRecDepth 100000 in
set_option maxHeartbeats 4000000 in
theorem X1_casesOf_J61_t (G : kw_G) (Q : Option Value → kw_H → Prop) (hp : kw_H) (x0 : Nat) (x1 : Nat) (x2 : Int32) (x3 : Int32) (x4 : Int32) (r : Int64 × kw_H) (h : X1_casesOf_J61 hp x0 x1 x2 x3 x4 = some r) (hK : Q (some (.long r.1)) r.2) : kw_V G mX1_casesOf 61 [some (.ref x0), some (.ref x1), some (.int x2), some (.int x3), some (.int x4), none, none, none, none] [] hp Q := by
  unfold X1_casesOf_J61 at h
  refine kw_lconst (v := lN 0) dX1_casesOf_61 (by decide) ?_
  refine kw_lstore (L' := [some (.ref x0), some (.ref x1), some (.int x2), some (.int x3), some (.int x4), none, some (.long (lN 0)), none, none]) dX1_casesOf_62 (by decide) rfl ?_
  refine kw_iconst (v := nI 0) dX1_casesOf_64 (by decide) ?_
  refine kw_istore (L' := [some (.ref x0), some (.ref x1), some (.int x2), some (.int x3), some (.int x4), none, some (.long (lN 0)), none, some (.int (nI 0))]) dX1_casesOf_65 (by decide) rfl ?_
  exact X1_casesOf_L67_t G Q hp x0 x1 x2 x3 x4 _ (lN 0, nI 0) _ h hK
def X1_casesOf_b34 (x0 : Nat) (x1 : Nat) (x2 : Int32) (x3 : Int32) (x4 : Int32) (x5 : Int32) (x6 : Int32) (hp : kw_H) : Option (((Int32 × kw_H) ⊕ (Int64 × kw_H))) :=
  (if x4 ≤ x6 then
  (X1_casesOf_J61 hp x0 x1 x2 x3 x4).map (fun r => .inr (r))
else
  (kp_gI hp x1 [2] 7).bind fun v17 =>
  ((kp_ob hp x0 1).bind fun _ => X1_passForgetful_F hp x0 x1 (v17 + x6) x5).bind fun r18 =>
  some (.inl (x6 + (nI 1), r18)))
set_option maxRecDepth 100000 in
set_option maxHeartbeats 4000000 in
theorem X1_casesOf_b34_t (G : kw_G) (Q : Option Value → kw_H → Prop) (x0 : Nat) (x1 : Nat) (x2 : Int32) (x3 : Int32) (x4 : Int32) (x5 : Int32) (x6 : Int32) (hp : kw_H) (r : ((Int32 × kw_H) ⊕ (Int64 × kw_H))) (h : X1_casesOf_b34 x0 x1 x2 x3 x4 x5 x6 hp = some r) (hK : X1_casesOf_K34 G Q x0 x1 x2 x3 x4 x5 r) : kw_V G mX1_casesOf 34 [some (.ref x0), some (.ref x1), some (.int x2), some (.int x3), some (.int x4), some (.int x5), some (.int x6), none, none] [] hp Q := by
  unfold X1_casesOf_b34 at h
  refine kw_iload dX1_casesOf_34 rfl ?_
  refine kw_iload dX1_casesOf_36 rfl ?_
  refine kw_icmp_ge 61 dX1_casesOf_38 (by decide) (fun c19 => ?_) (fun c19 => ?_)
  · have h := (if_pos c19).symm.trans h
    refine kw_mask [true, true, true, true, true, false, false, true, true] (L' := [some (.ref x0), some (.ref x1), some (.int x2), some (.int x3), some (.int x4), none, none, none, none]) rfl ?_
    obtain ⟨r16, hr16, hrr16⟩ := Option.map_eq_some_iff.mp h
    subst hrr16
    exact X1_casesOf_J61_t G Q hp x0 x1 x2 x3 x4 r16 hr16 hK
  · have h := (if_neg c19).symm.trans h
    refine kw_aload_n dX1_casesOf_41 rfl ?_
    refine kw_aload_n dX1_casesOf_42 rfl ?_
    refine kw_aload_n dX1_casesOf_43 rfl ?_
    obtain ⟨v17, ev17, h⟩ := Option.bind_eq_some_iff.mp h
    refine kv_gI gfX1_48 dX1_casesOf_44 ev17 ?_
    refine kw_iload dX1_casesOf_47 rfl ?_
    refine kw_iadd dX1_casesOf_49 ?_
    refine kw_iload dX1_casesOf_50 rfl ?_
    obtain ⟨r18, er18, h⟩ := Option.bind_eq_some_iff.mp h
    obtain ⟨ur18, eur18, er18⟩ := Option.bind_eq_some_iff.mp er18
    obtain ⟨fsr18, hor18⟩ := kp_ob_inv eur18
    refine kw_callV (As := [.ref x1, .int (v17 + x6), .int x5]) (S := []) kcX1 cbX1_casesOf_X1_passForgetful lkX1_169 imX1_passForgetful seX1_X1_passForgetful_X1_passForgetful rfl rfl (Nat.le_of_ble_eq_true rfl) dX1_casesOf_52 hor18 (X1_passForgetful_c G hp x0 x1 (v17 + x6) x5 _ er18) (fun vv hh hq => ?_)
    rw [hq.1, hq.2]
    show kw_V G mX1_casesOf 55 [some (.ref x0), some (.ref x1), some (.int x2), some (.int x3), some (.int x4), some (.int x5), some (.int x6), none, none] [] r18 Q
    refine kv_iinc (w := nI 1) (L' := [some (.ref x0), some (.ref x1), some (.int x2), some (.int x3), some (.int x4), some (.int x5), some (.int (x6 + (nI 1))), none, none]) dX1_casesOf_55 (by decide) rfl (by decide) rfl ?_
    refine kw_goto 34 dX1_casesOf_58 (by decide) ?_
    have h := Option.some.inj h
    subst h
    exact hK
def X1_casesOf_B34 (x0 : Nat) (x1 : Nat) (x2 : Int32) (x3 : Int32) (x4 : Int32) (x5 : Int32) (z : Int32 × kw_H) : Option (((Int32 × kw_H) ⊕ (Int64 × kw_H))) := X1_casesOf_b34 x0 x1 x2 x3 x4 x5 z.1 z.2
theorem X1_casesOf_L34_t (G : kw_G) (Q : Option Value → kw_H → Prop) (x0 : Nat) (x1 : Nat) (x2 : Int32) (x3 : Int32) (x4 : Int32) (x5 : Int32) (n : Nat) (z : Int32 × kw_H) (r : Int64 × kw_H) (h : kp_lp (X1_casesOf_B34 x0 x1 x2 x3 x4 x5) n z = some r) (hK : Q (some (.long r.1)) r.2) : kw_V G mX1_casesOf 34 [some (.ref x0), some (.ref x1), some (.int x2), some (.int x3), some (.int x4), some (.int x5), some (.int z.1), none, none] [] z.2 Q :=
  kv_lp _ (fun z => kw_V G mX1_casesOf 34 [some (.ref x0), some (.ref x1), some (.int x2), some (.int x3), some (.int x4), some (.int x5), some (.int z.1), none, none] [] z.2 Q) (fun r => Q (some (.long r.1)) r.2) (fun z x hb hx => X1_casesOf_b34_t G Q x0 x1 x2 x3 x4 x5 z.1 z.2 x hb (by cases x <;> exact hx)) n z r h hK
def X1_casesOf_J31 (hp : kw_H) (x0 : Nat) (x1 : Nat) (x2 : Int32) (x3 : Int32) (x4 : Int32) (x5 : Int32) : Option (Int64 × kw_H) :=
  kp_lp (X1_casesOf_B34 x0 x1 x2 x3 x4 x5) 2000 (nI 0, hp)
set_option maxRecDepth 100000 in
set_option maxHeartbeats 4000000 in
theorem X1_casesOf_J31_t (G : kw_G) (Q : Option Value → kw_H → Prop) (hp : kw_H) (x0 : Nat) (x1 : Nat) (x2 : Int32) (x3 : Int32) (x4 : Int32) (x5 : Int32) (r : Int64 × kw_H) (h : X1_casesOf_J31 hp x0 x1 x2 x3 x4 x5 = some r) (hK : Q (some (.long r.1)) r.2) : kw_V G mX1_casesOf 31 [some (.ref x0), some (.ref x1), some (.int x2), some (.int x3), some (.int x4), some (.int x5), none, none, none] [] hp Q := by
  unfold X1_casesOf_J31 at h
  refine kw_iconst (v := nI 0) dX1_casesOf_31 (by decide) ?_
  refine kw_istore (L' := [some (.ref x0), some (.ref x1), some (.int x2), some (.int x3), some (.int x4), some (.int x5), some (.int (nI 0)), none, none]) dX1_casesOf_32 (by decide) rfl ?_
  exact X1_casesOf_L34_t G Q x0 x1 x2 x3 x4 x5 _ (nI 0, hp) _ h hK
def X1_casesOf_F (hp : kw_H) (x0 : Nat) (x1 : Nat) (x2 : Int32) (x3 : Int32) (x4 : Int32) (x5 : Int32) : Option (Int64 × kw_H) :=
  (kp_gR hp x0 [1] 2).bind fun v1 =>
  (J7_fill_d0a16_F hp v1 (lN 0)).bind fun r2 =>
  (kp_gI r2 x1 [2] 8).bind fun v3 =>
  (X11_within_F r2 v3 (nI 0) (nI 7)).bind fun r4 =>
  (if r4 = 0 then
  X1_casesOf_J31 r2 x0 x1 x2 x3 x4 x5
else
  (kp_gR r2 x0 [1] 2).bind fun v20 =>
  (kp_gI r2 x1 [2] 8).bind fun v21 =>
  (kp_stJ r2 v20 v21 (lN 1)).bind fun hp22 =>
  X1_casesOf_J31 hp22 x0 x1 x2 x3 x4 x5)
set_option maxRecDepth 100000 in
set_option maxHeartbeats 4000000 in
theorem X1_casesOf_c (G : kw_G) (hp : kw_H) (x0 : Nat) (x1 : Nat) (x2 : Int32) (x3 : Int32) (x4 : Int32) (x5 : Int32) (r : Int64 × kw_H) (h : X1_casesOf_F hp x0 x1 x2 x3 x4 x5 = some r) : kw_Met G mX1_casesOf [.ref x0, .ref x1, .int x2, .int x3, .int x4, .int x5] hp (fun v h2 => v = some (.long r.1) ∧ h2 = r.2) := by
  refine kw_met (L := [some (.ref x0), some (.ref x1), some (.int x2), some (.int x3), some (.int x4), some (.int x5), none, none, none]) (r := 3) (by decide +kernel) (Nat.le_of_ble_eq_true rfl) rfl ?_
  unfold X1_casesOf_F at h
  obtain ⟨Q, hQ⟩ : ∃ Q : Option Value → kw_H → Prop, Q = (fun v h2 => v = some (.long r.1) ∧ h2 = r.2) := ⟨_, rfl⟩
  have hK : Q (some (.long r.1)) r.2 := by rw [hQ]; exact ⟨rfl, rfl⟩
  rw [← hQ]
  clear hQ
  refine kw_aload_n dX1_casesOf_0 rfl ?_
  obtain ⟨v1, ev1, h⟩ := Option.bind_eq_some_iff.mp h
  refine kv_gR gfX1_22 dX1_casesOf_1 ev1 ?_
  refine kw_lconst (v := lN 0) dX1_casesOf_4 (by decide) ?_
  obtain ⟨r2, er2, h⟩ := Option.bind_eq_some_iff.mp h
  refine kw_callS (As := [.ref v1, .long (lN 0)]) (S := []) cbX1_casesOf_J7_fill_d0a16 lkX1_166 stJ7_fill_d0a16 rfl rfl (Nat.le_of_ble_eq_true rfl) dX1_casesOf_5 (J7_fill_d0a16_c G hp v1 (lN 0) _ er2) (fun vv hh hq => ?_)
  rw [hq.1, hq.2]
  show kw_V G mX1_casesOf 8 [some (.ref x0), some (.ref x1), some (.int x2), some (.int x3), some (.int x4), some (.int x5), none, none, none] [] r2 Q
  refine kw_aload_n dX1_casesOf_8 rfl ?_
  obtain ⟨v3, ev3, h⟩ := Option.bind_eq_some_iff.mp h
  refine kv_gI gfX1_29 dX1_casesOf_9 ev3 ?_
  refine kw_iconst (v := nI 0) dX1_casesOf_12 (by decide) ?_
  refine kw_bipush (v := nI 7) dX1_casesOf_13 (by decide) ?_
  obtain ⟨r4, er4, h⟩ := Option.bind_eq_some_iff.mp h
  refine kw_callSN (As := [.int v3, .int (nI 0), .int (nI 7)]) (S := []) cbX1_casesOf_X11_within lnX1_119 stX11_within rfl rfl (Nat.le_of_ble_eq_true rfl) dX1_casesOf_15 (X11_within_c G r2 v3 (nI 0) (nI 7) _ er4) (fun vv hh hq => ?_)
  rw [hq.1, hq.2]
  show kw_V G mX1_casesOf 18 [some (.ref x0), some (.ref x1), some (.int x2), some (.int x3), some (.int x4), some (.int x5), none, none, none] [.int r4] r2 Q
  refine kw_if_eq 31 dX1_casesOf_18 (by decide) (fun c23 => ?_) (fun c23 => ?_)
  · have h := (if_pos c23).symm.trans h
    exact X1_casesOf_J31_t G Q r2 x0 x1 x2 x3 x4 x5 _ h hK
  · have h := (if_neg c23).symm.trans h
    refine kw_aload_n dX1_casesOf_21 rfl ?_
    obtain ⟨v20, ev20, h⟩ := Option.bind_eq_some_iff.mp h
    refine kv_gR gfX1_22 dX1_casesOf_22 ev20 ?_
    refine kw_aload_n dX1_casesOf_25 rfl ?_
    obtain ⟨v21, ev21, h⟩ := Option.bind_eq_some_iff.mp h
    refine kv_gI gfX1_29 dX1_casesOf_26 ev21 ?_
    refine kw_lconst (v := lN 1) dX1_casesOf_29 (by decide) ?_
    obtain ⟨hp22, ehp22, h⟩ := Option.bind_eq_some_iff.mp h
    refine kv_stJ dX1_casesOf_30 ehp22 ?_
    exact X1_casesOf_J31_t G Q hp22 x0 x1 x2 x3 x4 x5 _ h hK
/-! KitchenWheels$Foreteller.doneByDraws(LKitchenWheels$Kitchen;II)I -/
def X1_doneByDraws_K21 (G : kw_G) (Q : Option Value → kw_H → Prop) (x0 : Nat) (x1 : Nat) (x2 : Int32) (r : (Int64 × Int32 × Int32 × kw_H) ⊕ (Int32 × kw_H)) : Prop := match r with
  | .inl z => kw_V G mX1_doneByDraws 21 [some (.ref x0), some (.ref x1), some (.int x2), none, some (.long z.1), none, some (.int z.2.1), some (.int z.2.2.1), none] [] z.2.2.2 Q
  | .inr r => Q (some (.int r.1)) r.2
def X1_doneByDraws_K89 (G : kw_G) (Q : Option Value → kw_H → Prop) (hp : kw_H) (x0 : Nat) (r : (Int32 × Int32) ⊕ (Int32 × kw_H)) : Prop := match r with
  | .inl z => kw_V G mX1_doneByDraws 89 [some (.ref x0), none, none, none, none, none, none, some (.int z.1), some (.int z.2)] [] hp Q
  | .inr r => Q (some (.int r.1)) r.2
def X1_doneByDraws_J114 (hp : kw_H) (x7 : Int32) : Option (Int32 × kw_H) :=
  some ((x7, hp))
set_option maxRecDepth 100000 in
set_option maxHeartbeats 4000000 in
theorem X1_doneByDraws_J114_t (G : kw_G) (Q : Option Value → kw_H → Prop) (hp : kw_H) (x7 : Int32) (r : Int32 × kw_H) (h : X1_doneByDraws_J114 hp x7 = some r) (hK : Q (some (.int r.1)) r.2) : kw_V G mX1_doneByDraws 114 [none, none, none, none, none, none, none, some (.int x7), none] [] hp Q := by
  unfold X1_doneByDraws_J114 at h
  refine kw_iload dX1_doneByDraws_114 rfl ?_
  have h := Option.some.inj h
  subst h
  exact kw_iret rfl dX1_doneByDraws_116 hK
def X1_doneByDraws_b89 (hp : kw_H) (x0 : Nat) (x7 : Int32) (x8 : Int32) : Option (((Int32 × Int32) ⊕ (Int32 × kw_H))) :=
  (if (nI 6) ≤ x8 then
  (X1_doneByDraws_J114 hp x7).map (fun r => .inr (r))
else
  (kp_gR hp x0 [1] 1).bind fun v5 =>
  (kp_ldI hp v5 x8).bind fun v6 =>
  some (.inl (x7 + v6, x8 + (nI 1))))
set_option maxRecDepth 100000 in
set_option maxHeartbeats 4000000 in
theorem X1_doneByDraws_b89_t (G : kw_G) (Q : Option Value → kw_H → Prop) (hp : kw_H) (x0 : Nat) (x7 : Int32) (x8 : Int32) (r : ((Int32 × Int32) ⊕ (Int32 × kw_H))) (h : X1_doneByDraws_b89 hp x0 x7 x8 = some r) (hK : X1_doneByDraws_K89 G Q hp x0 r) : kw_V G mX1_doneByDraws 89 [some (.ref x0), none, none, none, none, none, none, some (.int x7), some (.int x8)] [] hp Q := by
  unfold X1_doneByDraws_b89 at h
  refine kw_iload dX1_doneByDraws_89 rfl ?_
  refine kw_bipush (v := nI 6) dX1_doneByDraws_91 (by decide) ?_
  refine kw_icmp_ge 114 dX1_doneByDraws_93 (by decide) (fun c7 => ?_) (fun c7 => ?_)
  · have h := (if_pos c7).symm.trans h
    refine kw_mask [false, true, true, true, true, true, true, true, false] (L' := [none, none, none, none, none, none, none, some (.int x7), none]) rfl ?_
    obtain ⟨r4, hr4, hrr4⟩ := Option.map_eq_some_iff.mp h
    subst hrr4
    exact X1_doneByDraws_J114_t G Q hp x7 r4 hr4 hK
  · have h := (if_neg c7).symm.trans h
    refine kw_iload dX1_doneByDraws_96 rfl ?_
    refine kw_aload_n dX1_doneByDraws_98 rfl ?_
    obtain ⟨v5, ev5, h⟩ := Option.bind_eq_some_iff.mp h
    refine kv_gR gfX1_18 dX1_doneByDraws_99 ev5 ?_
    refine kw_iload dX1_doneByDraws_102 rfl ?_
    obtain ⟨v6, ev6, h⟩ := Option.bind_eq_some_iff.mp h
    refine kv_ldI dX1_doneByDraws_104 ev6 ?_
    refine kw_iadd dX1_doneByDraws_105 ?_
    refine kw_istore (L' := [some (.ref x0), none, none, none, none, none, none, some (.int (x7 + v6)), some (.int x8)]) dX1_doneByDraws_106 (by decide) rfl ?_
    refine kv_iinc (w := nI 1) (L' := [some (.ref x0), none, none, none, none, none, none, some (.int (x7 + v6)), some (.int (x8 + (nI 1)))]) dX1_doneByDraws_108 (by decide) rfl (by decide) rfl ?_
    refine kw_goto 89 dX1_doneByDraws_111 (by decide) ?_
    have h := Option.some.inj h
    subst h
    exact hK
def X1_doneByDraws_B89 (hp : kw_H) (x0 : Nat) (z : Int32 × Int32) : Option (((Int32 × Int32) ⊕ (Int32 × kw_H))) := X1_doneByDraws_b89 hp x0 z.1 z.2
theorem X1_doneByDraws_L89_t (G : kw_G) (Q : Option Value → kw_H → Prop) (hp : kw_H) (x0 : Nat) (n : Nat) (z : Int32 × Int32) (r : Int32 × kw_H) (h : kp_lp (X1_doneByDraws_B89 hp x0) n z = some r) (hK : Q (some (.int r.1)) r.2) : kw_V G mX1_doneByDraws 89 [some (.ref x0), none, none, none, none, none, none, some (.int z.1), some (.int z.2)] [] hp Q :=
  kv_lp _ (fun z => kw_V G mX1_doneByDraws 89 [some (.ref x0), none, none, none, none, none, none, some (.int z.1), some (.int z.2)] [] hp Q) (fun r => Q (some (.int r.1)) r.2) (fun z x hb hx => X1_doneByDraws_b89_t G Q hp x0 z.1 z.2 x hb (by cases x <;> exact hx)) n z r h hK
def X1_doneByDraws_J83 (hp : kw_H) (x0 : Nat) : Option (Int32 × kw_H) :=
  kp_lp (X1_doneByDraws_B89 hp x0) 2000 (nI 0, nI 0)
set_option maxRecDepth 100000 in
set_option maxHeartbeats 4000000 in
theorem X1_doneByDraws_J83_t (G : kw_G) (Q : Option Value → kw_H → Prop) (hp : kw_H) (x0 : Nat) (r : Int32 × kw_H) (h : X1_doneByDraws_J83 hp x0 = some r) (hK : Q (some (.int r.1)) r.2) : kw_V G mX1_doneByDraws 83 [some (.ref x0), none, none, none, none, none, none, none, none] [] hp Q := by
  unfold X1_doneByDraws_J83 at h
  refine kw_iconst (v := nI 0) dX1_doneByDraws_83 (by decide) ?_
  refine kw_istore (L' := [some (.ref x0), none, none, none, none, none, none, some (.int (nI 0)), none]) dX1_doneByDraws_84 (by decide) rfl ?_
  refine kw_iconst (v := nI 0) dX1_doneByDraws_86 (by decide) ?_
  refine kw_istore (L' := [some (.ref x0), none, none, none, none, none, none, some (.int (nI 0)), some (.int (nI 0))]) dX1_doneByDraws_87 (by decide) rfl ?_
  exact X1_doneByDraws_L89_t G Q hp x0 _ (nI 0, nI 0) _ h hK
def X1_doneByDraws_b21 (x0 : Nat) (x1 : Nat) (x2 : Int32) (x4 : Int64) (x6 : Int32) (x7 : Int32) (hp : kw_H) : Option (((Int64 × Int32 × Int32 × kw_H) ⊕ (Int32 × kw_H))) :=
  (if x2 ≤ x7 then
  (X1_doneByDraws_J83 hp x0).map (fun r => .inr (r))
else
  (kp_remL (x4 * (lN 16807)) (lN 2147483647)).bind fun v9 =>
  ((kp_ob hp x1 2).bind fun _ => X2_awayBehind_F hp x1 x7).bind fun r10 =>
  (kp_remL v9 (lN 6)).bind fun v11 =>
  ((kp_ob hp x0 1).bind fun _ => X1_countWeek_F hp x0 x1 x6 (r10 ||| ((nI 1) <<< ((Int64.toInt32 v11) &&& 31)))).bind fun r12 =>
  (kp_gI r12 x1 [2] 7).bind fun v13 =>
  ((kp_ob r12 x1 2).bind fun _ => X2_turnedNext_F r12 x1 x6 (v13 + x7)).bind fun r14 =>
  some (.inl (v9, r14, x7 + (nI 1), r12)))
set_option maxRecDepth 100000 in
set_option maxHeartbeats 4000000 in
theorem X1_doneByDraws_b21_t (G : kw_G) (Q : Option Value → kw_H → Prop) (x0 : Nat) (x1 : Nat) (x2 : Int32) (x4 : Int64) (x6 : Int32) (x7 : Int32) (hp : kw_H) (r : ((Int64 × Int32 × Int32 × kw_H) ⊕ (Int32 × kw_H))) (h : X1_doneByDraws_b21 x0 x1 x2 x4 x6 x7 hp = some r) (hK : X1_doneByDraws_K21 G Q x0 x1 x2 r) : kw_V G mX1_doneByDraws 21 [some (.ref x0), some (.ref x1), some (.int x2), none, some (.long x4), none, some (.int x6), some (.int x7), none] [] hp Q := by
  unfold X1_doneByDraws_b21 at h
  refine kw_iload dX1_doneByDraws_21 rfl ?_
  refine kw_iload_n dX1_doneByDraws_23 rfl ?_
  refine kw_icmp_ge 83 dX1_doneByDraws_24 (by decide) (fun c15 => ?_) (fun c15 => ?_)
  · have h := (if_pos c15).symm.trans h
    refine kw_mask [true, false, false, true, false, true, false, false, true] (L' := [some (.ref x0), none, none, none, none, none, none, none, none]) rfl ?_
    obtain ⟨r8, hr8, hrr8⟩ := Option.map_eq_some_iff.mp h
    subst hrr8
    exact X1_doneByDraws_J83_t G Q hp x0 r8 hr8 hK
  · have h := (if_neg c15).symm.trans h
    refine kw_lload dX1_doneByDraws_27 rfl ?_
    refine kw_ldc2_w (v := lN 16807) dX1_doneByDraws_29 ckX1_178 ?_
    refine kw_lmul dX1_doneByDraws_32 ?_
    refine kw_ldc2_w (v := lN 2147483647) dX1_doneByDraws_33 ckX1_180 ?_
    obtain ⟨v9, ev9, h⟩ := Option.bind_eq_some_iff.mp h
    refine kv_lrem dX1_doneByDraws_36 ev9 ?_
    refine kw_lstore (L' := [some (.ref x0), some (.ref x1), some (.int x2), none, some (.long v9), none, some (.int x6), some (.int x7), none]) dX1_doneByDraws_37 (by decide) rfl ?_
    refine kw_aload_n dX1_doneByDraws_39 rfl ?_
    refine kw_aload_n dX1_doneByDraws_40 rfl ?_
    refine kw_iload dX1_doneByDraws_41 rfl ?_
    refine kw_aload_n dX1_doneByDraws_43 rfl ?_
    refine kw_iload dX1_doneByDraws_44 rfl ?_
    obtain ⟨r10, er10, h⟩ := Option.bind_eq_some_iff.mp h
    obtain ⟨ur10, eur10, er10⟩ := Option.bind_eq_some_iff.mp er10
    obtain ⟨fsr10, hor10⟩ := kp_ob_inv eur10
    refine kw_callV (As := [.int x7]) (S := [.int x6, .ref x1, .ref x0]) kcX2 cbX1_doneByDraws_X2_awayBehind lkX1_40 imX2_awayBehind seX2_X2_awayBehind_X2_awayBehind rfl rfl (Nat.le_of_ble_eq_true rfl) dX1_doneByDraws_46 hor10 (X2_awayBehind_c G hp x1 x7 _ er10) (fun vv hh hq => ?_)
    rw [hq.1, hq.2]
    show kw_V G mX1_doneByDraws 49 [some (.ref x0), some (.ref x1), some (.int x2), none, some (.long v9), none, some (.int x6), some (.int x7), none] [.int r10, .int x6, .ref x1, .ref x0] hp Q
    refine kw_iconst (v := nI 1) dX1_doneByDraws_49 (by decide) ?_
    refine kw_lload dX1_doneByDraws_50 rfl ?_
    refine kw_ldc2_w (v := lN 6) dX1_doneByDraws_52 ckX1_182 ?_
    obtain ⟨v11, ev11, h⟩ := Option.bind_eq_some_iff.mp h
    refine kv_lrem dX1_doneByDraws_55 ev11 ?_
    refine kw_l2i dX1_doneByDraws_56 ?_
    refine kw_ishl dX1_doneByDraws_57 ?_
    refine kw_ior dX1_doneByDraws_58 ?_
    obtain ⟨r12, er12, h⟩ := Option.bind_eq_some_iff.mp h
    obtain ⟨ur12, eur12, er12⟩ := Option.bind_eq_some_iff.mp er12
    obtain ⟨fsr12, hor12⟩ := kp_ob_inv eur12
    refine kw_callV (As := [.ref x1, .int x6, .int (r10 ||| ((nI 1) <<< ((Int64.toInt32 v11) &&& 31)))]) (S := []) kcX1 cbX1_doneByDraws_X1_countWeek lkX1_88 imX1_countWeek seX1_X1_countWeek_X1_countWeek rfl rfl (Nat.le_of_ble_eq_true rfl) dX1_doneByDraws_59 hor12 (X1_countWeek_c G hp x0 x1 x6 (r10 ||| ((nI 1) <<< ((Int64.toInt32 v11) &&& 31))) _ er12) (fun vv hh hq => ?_)
    rw [hq.1, hq.2]
    show kw_V G mX1_doneByDraws 62 [some (.ref x0), some (.ref x1), some (.int x2), none, some (.long v9), none, some (.int x6), some (.int x7), none] [] r12 Q
    refine kw_aload_n dX1_doneByDraws_62 rfl ?_
    refine kw_iload dX1_doneByDraws_63 rfl ?_
    refine kw_aload_n dX1_doneByDraws_65 rfl ?_
    obtain ⟨v13, ev13, h⟩ := Option.bind_eq_some_iff.mp h
    refine kv_gI gfX1_48 dX1_doneByDraws_66 ev13 ?_
    refine kw_iload dX1_doneByDraws_69 rfl ?_
    refine kw_iadd dX1_doneByDraws_71 ?_
    obtain ⟨r14, er14, h⟩ := Option.bind_eq_some_iff.mp h
    obtain ⟨ur14, eur14, er14⟩ := Option.bind_eq_some_iff.mp er14
    obtain ⟨fsr14, hor14⟩ := kp_ob_inv eur14
    refine kw_callV (As := [.int x6, .int (v13 + x7)]) (S := []) kcX2 cbX1_doneByDraws_X2_turnedNext lkX1_51 imX2_turnedNext seX2_X2_turnedNext_X2_turnedNext rfl rfl (Nat.le_of_ble_eq_true rfl) dX1_doneByDraws_72 hor14 (X2_turnedNext_c G r12 x1 x6 (v13 + x7) _ er14) (fun vv hh hq => ?_)
    rw [hq.1, hq.2]
    show kw_V G mX1_doneByDraws 75 [some (.ref x0), some (.ref x1), some (.int x2), none, some (.long v9), none, some (.int x6), some (.int x7), none] [.int r14] r12 Q
    refine kw_istore (L' := [some (.ref x0), some (.ref x1), some (.int x2), none, some (.long v9), none, some (.int r14), some (.int x7), none]) dX1_doneByDraws_75 (by decide) rfl ?_
    refine kv_iinc (w := nI 1) (L' := [some (.ref x0), some (.ref x1), some (.int x2), none, some (.long v9), none, some (.int r14), some (.int (x7 + (nI 1))), none]) dX1_doneByDraws_77 (by decide) rfl (by decide) rfl ?_
    refine kw_goto 21 dX1_doneByDraws_80 (by decide) ?_
    have h := Option.some.inj h
    subst h
    exact hK
def X1_doneByDraws_B21 (x0 : Nat) (x1 : Nat) (x2 : Int32) (z : Int64 × Int32 × Int32 × kw_H) : Option (((Int64 × Int32 × Int32 × kw_H) ⊕ (Int32 × kw_H))) := X1_doneByDraws_b21 x0 x1 x2 z.1 z.2.1 z.2.2.1 z.2.2.2
theorem X1_doneByDraws_L21_t (G : kw_G) (Q : Option Value → kw_H → Prop) (x0 : Nat) (x1 : Nat) (x2 : Int32) (n : Nat) (z : Int64 × Int32 × Int32 × kw_H) (r : Int32 × kw_H) (h : kp_lp (X1_doneByDraws_B21 x0 x1 x2) n z = some r) (hK : Q (some (.int r.1)) r.2) : kw_V G mX1_doneByDraws 21 [some (.ref x0), some (.ref x1), some (.int x2), none, some (.long z.1), none, some (.int z.2.1), some (.int z.2.2.1), none] [] z.2.2.2 Q :=
  kv_lp _ (fun z => kw_V G mX1_doneByDraws 21 [some (.ref x0), some (.ref x1), some (.int x2), none, some (.long z.1), none, some (.int z.2.1), some (.int z.2.2.1), none] [] z.2.2.2 Q) (fun r => Q (some (.int r.1)) r.2) (fun z x hb hx => X1_doneByDraws_b21_t G Q x0 x1 x2 z.1 z.2.1 z.2.2.1 z.2.2.2 x hb (by cases x <;> exact hx)) n z r h hK
def X1_doneByDraws_F (hp : kw_H) (x0 : Nat) (x1 : Nat) (x2 : Int32) (x3 : Int32) : Option (Int32 × kw_H) :=
  (kp_gR hp x0 [1] 1).bind fun v1 =>
  (J7_fill_53178_F hp v1 (nI 0)).bind fun r2 =>
  (kp_gI r2 x1 [2] 8).bind fun v3 =>
  kp_lp (X1_doneByDraws_B21 x0 x1 x2) 2000 (Int32.toInt64 x3, v3, nI 0, r2)
set_option maxRecDepth 100000 in
set_option maxHeartbeats 4000000 in
theorem X1_doneByDraws_c (G : kw_G) (hp : kw_H) (x0 : Nat) (x1 : Nat) (x2 : Int32) (x3 : Int32) (r : Int32 × kw_H) (h : X1_doneByDraws_F hp x0 x1 x2 x3 = some r) : kw_Met G mX1_doneByDraws [.ref x0, .ref x1, .int x2, .int x3] hp (fun v h2 => v = some (.int r.1) ∧ h2 = r.2) := by
  refine kw_met (L := [some (.ref x0), some (.ref x1), some (.int x2), some (.int x3), none, none, none, none, none]) (r := 5) (by decide +kernel) (Nat.le_of_ble_eq_true rfl) rfl ?_
  unfold X1_doneByDraws_F at h
  obtain ⟨Q, hQ⟩ : ∃ Q : Option Value → kw_H → Prop, Q = (fun v h2 => v = some (.int r.1) ∧ h2 = r.2) := ⟨_, rfl⟩
  have hK : Q (some (.int r.1)) r.2 := by rw [hQ]; exact ⟨rfl, rfl⟩
  rw [← hQ]
  clear hQ
  refine kw_aload_n dX1_doneByDraws_0 rfl ?_
  obtain ⟨v1, ev1, h⟩ := Option.bind_eq_some_iff.mp h
  refine kv_gR gfX1_18 dX1_doneByDraws_1 ev1 ?_
  refine kw_iconst (v := nI 0) dX1_doneByDraws_4 (by decide) ?_
  obtain ⟨r2, er2, h⟩ := Option.bind_eq_some_iff.mp h
  refine kw_callS (As := [.ref v1, .int (nI 0)]) (S := []) cbX1_doneByDraws_J7_fill_53178 lkX1_69 stJ7_fill_53178 rfl rfl (Nat.le_of_ble_eq_true rfl) dX1_doneByDraws_5 (J7_fill_53178_c G hp v1 (nI 0) _ er2) (fun vv hh hq => ?_)
  rw [hq.1, hq.2]
  show kw_V G mX1_doneByDraws 8 [some (.ref x0), some (.ref x1), some (.int x2), some (.int x3), none, none, none, none, none] [] r2 Q
  refine kw_iload_n dX1_doneByDraws_8 rfl ?_
  refine kw_i2l dX1_doneByDraws_9 ?_
  refine kw_lstore (L' := [some (.ref x0), some (.ref x1), some (.int x2), some (.int x3), some (.long (Int32.toInt64 x3)), none, none, none, none]) dX1_doneByDraws_10 (by decide) rfl ?_
  refine kw_aload_n dX1_doneByDraws_12 rfl ?_
  obtain ⟨v3, ev3, h⟩ := Option.bind_eq_some_iff.mp h
  refine kv_gI gfX1_29 dX1_doneByDraws_13 ev3 ?_
  refine kw_istore (L' := [some (.ref x0), some (.ref x1), some (.int x2), some (.int x3), some (.long (Int32.toInt64 x3)), none, some (.int v3), none, none]) dX1_doneByDraws_16 (by decide) rfl ?_
  refine kw_iconst (v := nI 0) dX1_doneByDraws_18 (by decide) ?_
  refine kw_istore (L' := [some (.ref x0), some (.ref x1), some (.int x2), some (.int x3), some (.long (Int32.toInt64 x3)), none, some (.int v3), some (.int (nI 0)), none]) dX1_doneByDraws_19 (by decide) rfl ?_
  refine kw_mask [true, true, true, false, true, true, true, true, true] (L' := [some (.ref x0), some (.ref x1), some (.int x2), none, some (.long (Int32.toInt64 x3)), none, some (.int v3), some (.int (nI 0)), none]) rfl ?_
  exact X1_doneByDraws_L21_t G Q x0 x1 x2 _ (Int32.toInt64 x3, v3, nI 0, r2) _ h hK
/-! KitchenWheels$Kitchen.isThere()Z -/
def X2_isThere_F (hp : kw_H) (x0 : Nat) : Option (Int32) :=
  (kp_gI hp x0 [2] 4).bind fun v1 =>
  (if v1 ≤ 0 then
  some (nI 0)
else
  some (nI 1))
set_option maxRecDepth 100000 in
set_option maxHeartbeats 4000000 in
theorem X2_isThere_c (G : kw_G) (hp : kw_H) (x0 : Nat) (r : Int32) (h : X2_isThere_F hp x0 = some r) : kw_Met G mX2_isThere [.ref x0] hp (fun v h2 => v = some (.int r) ∧ h2 = hp) := by
  refine kw_met (L := [some (.ref x0)]) (r := 0) (by decide +kernel) (Nat.le_of_ble_eq_true rfl) rfl ?_
  unfold X2_isThere_F at h
  obtain ⟨Q, hQ⟩ : ∃ Q : Option Value → kw_H → Prop, Q = (fun v h2 => v = some (.int r) ∧ h2 = hp) := ⟨_, rfl⟩
  have hK : Q (some (.int r)) hp := by rw [hQ]; exact ⟨rfl, rfl⟩
  rw [← hQ]
  clear hQ
  refine kw_aload_n dX2_isThere_0 rfl ?_
  obtain ⟨v1, ev1, h⟩ := Option.bind_eq_some_iff.mp h
  refine kv_gI gfX2_27 dX2_isThere_1 ev1 ?_
  refine kw_if_le 11 dX2_isThere_4 (by decide) (fun c2 => ?_) (fun c2 => ?_)
  · have h := (if_pos c2).symm.trans h
    refine kw_iconst (v := nI 0) dX2_isThere_11 (by decide) ?_
    have h := Option.some.inj h
    subst h
    exact kw_zret rfl (Or.inl rfl) dX2_isThere_12 hK
  · have h := (if_neg c2).symm.trans h
    refine kw_iconst (v := nI 1) dX2_isThere_7 (by decide) ?_
    refine kw_goto 12 dX2_isThere_8 (by decide) ?_
    have h := Option.some.inj h
    subst h
    exact kw_zret rfl (Or.inr rfl) dX2_isThere_12 hK
/-! KitchenWheels.isJob(I)Z -/
def X11_isJob_F (hp : kw_H) (x0 : Int32) : Option (Int32) :=
  (X11_within_F hp x0 (nI 0) (nI 5)).bind fun r1 =>
  (kp_bool r1).bind fun v2 =>
  some (v2)
set_option maxRecDepth 100000 in
set_option maxHeartbeats 4000000 in
theorem X11_isJob_c (G : kw_G) (hp : kw_H) (x0 : Int32) (r : Int32) (h : X11_isJob_F hp x0 = some r) : kw_Met G mX11_isJob [.int x0] hp (fun v h2 => v = some (.int r) ∧ h2 = hp) := by
  refine kw_met (L := [some (.int x0)]) (r := 0) (by decide +kernel) (Nat.le_of_ble_eq_true rfl) rfl ?_
  unfold X11_isJob_F at h
  obtain ⟨Q, hQ⟩ : ∃ Q : Option Value → kw_H → Prop, Q = (fun v h2 => v = some (.int r) ∧ h2 = hp) := ⟨_, rfl⟩
  have hK : Q (some (.int r)) hp := by rw [hQ]; exact ⟨rfl, rfl⟩
  rw [← hQ]
  clear hQ
  refine kw_iload_n dX11_isJob_0 rfl ?_
  refine kw_iconst (v := nI 0) dX11_isJob_1 (by decide) ?_
  refine kw_iconst (v := nI 5) dX11_isJob_2 (by decide) ?_
  obtain ⟨r1, er1, h⟩ := Option.bind_eq_some_iff.mp h
  refine kw_callS (As := [.int x0, .int (nI 0), .int (nI 5)]) (S := []) cbX11_isJob_X11_within lkX11_55 stX11_within rfl rfl (Nat.le_of_ble_eq_true rfl) dX11_isJob_3 (X11_within_c G hp x0 (nI 0) (nI 5) _ er1) (fun vv hh hq => ?_)
  rw [hq.1, hq.2]
  show kw_V G mX11_isJob 6 [some (.int x0)] [.int r1] hp Q
  obtain ⟨v2, ev2, h⟩ := Option.bind_eq_some_iff.mp h
  obtain ⟨qv2, bv2⟩ := kv_bool ev2
  have h := Option.some.inj h
  subst h
  rw [qv2]
  exact kw_zret rfl bv2 dX11_isJob_6 hK
/-! KitchenWheels$Kitchen.passWeek()V -/
def X2_passWeek_K2 (G : kw_G) (Q : Option Value → kw_H → Prop) (x0 : Nat) (r : (Int32 × kw_H) ⊕ (kw_H)) : Prop := match r with
  | .inl z => kw_V G mX2_passWeek 2 [some (.ref x0), some (.int z.1), none, none] [] z.2 Q
  | .inr r => Q none r
def X2_passWeek_J69 (hp : kw_H) (x0 : Nat) : Option (kw_H) :=
  (kp_gI hp x0 [2] 8).bind fun v2 =>
  (kp_gI hp x0 [2] 7).bind fun v3 =>
  ((kp_ob hp x0 2).bind fun _ => X2_turnedNext_F hp x0 v2 v3).bind fun r4 =>
  (kp_put hp x0 [2] 8 (.int r4)).bind fun hp5 =>
  (kp_put hp5 x0 [2] 9 (.int (nI 0))).bind fun hp6 =>
  (kp_gI hp6 x0 [2] 7).bind fun v7 =>
  (kp_put hp6 x0 [2] 7 (.int (v7 + (nI 1)))).bind fun hp8 =>
  some (hp8)
set_option maxRecDepth 100000 in
set_option maxHeartbeats 4000000 in
theorem X2_passWeek_J69_t (G : kw_G) (Q : Option Value → kw_H → Prop) (hp : kw_H) (x0 : Nat) (r : kw_H) (h : X2_passWeek_J69 hp x0 = some r) (hK : Q none r) : kw_V G mX2_passWeek 69 [some (.ref x0), none, none, none] [] hp Q := by
  unfold X2_passWeek_J69 at h
  refine kw_aload_n dX2_passWeek_69 rfl ?_
  refine kw_aload_n dX2_passWeek_70 rfl ?_
  refine kw_aload_n dX2_passWeek_71 rfl ?_
  obtain ⟨v2, ev2, h⟩ := Option.bind_eq_some_iff.mp h
  refine kv_gI gfX2_46 dX2_passWeek_72 ev2 ?_
  refine kw_aload_n dX2_passWeek_75 rfl ?_
  obtain ⟨v3, ev3, h⟩ := Option.bind_eq_some_iff.mp h
  refine kv_gI gfX2_43 dX2_passWeek_76 ev3 ?_
  obtain ⟨r4, er4, h⟩ := Option.bind_eq_some_iff.mp h
  obtain ⟨ur4, eur4, er4⟩ := Option.bind_eq_some_iff.mp er4
  obtain ⟨fsr4, hor4⟩ := kp_ob_inv eur4
  refine kw_callV (As := [.int v2, .int v3]) (S := [.ref x0]) kcX2 cbX2_passWeek_X2_turnedNext lkX2_82 imX2_turnedNext seX2_X2_turnedNext_X2_turnedNext rfl rfl (Nat.le_of_ble_eq_true rfl) dX2_passWeek_79 hor4 (X2_turnedNext_c G hp x0 v2 v3 _ er4) (fun vv hh hq => ?_)
  rw [hq.1, hq.2]
  show kw_V G mX2_passWeek 82 [some (.ref x0), none, none, none] [.int r4, .ref x0] hp Q
  obtain ⟨hp5, ehp5, h⟩ := Option.bind_eq_some_iff.mp h
  refine kv_put pfX2_passWeek_46 (fun _ => ⟨rfl, rfl⟩) dX2_passWeek_82 ehp5 ?_
  refine kw_aload_n dX2_passWeek_85 rfl ?_
  refine kw_iconst (v := nI 0) dX2_passWeek_86 (by decide) ?_
  obtain ⟨hp6, ehp6, h⟩ := Option.bind_eq_some_iff.mp h
  refine kv_put pfX2_passWeek_49 (fun _ => ⟨rfl, rfl⟩) dX2_passWeek_87 ehp6 ?_
  refine kw_aload_n dX2_passWeek_90 rfl ?_
  refine kw_dup dX2_passWeek_91 rfl ?_
  obtain ⟨v7, ev7, h⟩ := Option.bind_eq_some_iff.mp h
  refine kv_gI gfX2_43 dX2_passWeek_92 ev7 ?_
  refine kw_iconst (v := nI 1) dX2_passWeek_95 (by decide) ?_
  refine kw_iadd dX2_passWeek_96 ?_
  obtain ⟨hp8, ehp8, h⟩ := Option.bind_eq_some_iff.mp h
  refine kv_put pfX2_passWeek_43 (fun _ => ⟨rfl, rfl⟩) dX2_passWeek_97 ehp8 ?_
  have h := Option.some.inj h
  subst h
  exact kw_vret rfl dX2_passWeek_100 hK
def X2_passWeek_J63 (hp : kw_H) (x0 : Nat) (x1 : Int32) : Option (((Int32 × kw_H) ⊕ (kw_H))) :=
  some (.inl (x1 + (nI 1), hp))
set_option maxRecDepth 100000 in
set_option maxHeartbeats 4000000 in
theorem X2_passWeek_J63_t (G : kw_G) (Q : Option Value → kw_H → Prop) (hp : kw_H) (x0 : Nat) (x1 : Int32) (r : ((Int32 × kw_H) ⊕ (kw_H))) (h : X2_passWeek_J63 hp x0 x1 = some r) (hK : X2_passWeek_K2 G Q x0 r) : kw_V G mX2_passWeek 63 [some (.ref x0), some (.int x1), none, none] [] hp Q := by
  unfold X2_passWeek_J63 at h
  refine kv_iinc (w := nI 1) (L' := [some (.ref x0), some (.int (x1 + (nI 1))), none, none]) dX2_passWeek_63 (by decide) rfl (by decide) rfl ?_
  refine kw_goto 2 dX2_passWeek_66 (by decide) ?_
  have h := Option.some.inj h
  subst h
  exact hK
def X2_passWeek_b2 (x0 : Nat) (x1 : Int32) (hp : kw_H) : Option (((Int32 × kw_H) ⊕ (kw_H))) :=
  (kp_gI hp x0 [2] 4).bind fun v1 =>
  (if v1 ≤ x1 then
  (X2_passWeek_J69 hp x0).map (fun r => .inr (r))
else
  (kp_gI hp x0 [2] 8).bind fun v10 =>
  (kp_gI hp x0 [2] 9).bind fun v11 =>
  ((kp_ob hp x0 2).bind fun _ => X2_doerIn_F hp x0 x1 v10 v11).bind fun r12 =>
  (kp_gI hp x0 [2] 8).bind fun v13 =>
  ((kp_ob hp x0 2).bind fun _ => X2_jobHad_F hp x0 x1 v13).bind fun r14 =>
  (X11_isPerson_F hp r12).bind fun r15 =>
  (if r15 = 0 then
  X2_passWeek_J63 hp x0 x1
else
  (X11_isJob_F hp r14).bind fun r16 =>
  (if r16 = 0 then
  X2_passWeek_J63 hp x0 x1
else
  (kp_gR hp x0 [2] 3).bind fun v17 =>
  (kp_ldI hp v17 ((r12 * (nI 6)) + r14)).bind fun v18 =>
  (kp_stI hp v17 ((r12 * (nI 6)) + r14) (v18 + (nI 1))).bind fun hp19 =>
  X2_passWeek_J63 hp19 x0 x1)))
set_option maxRecDepth 100000 in
set_option maxHeartbeats 4000000 in
theorem X2_passWeek_b2_t (G : kw_G) (Q : Option Value → kw_H → Prop) (x0 : Nat) (x1 : Int32) (hp : kw_H) (r : ((Int32 × kw_H) ⊕ (kw_H))) (h : X2_passWeek_b2 x0 x1 hp = some r) (hK : X2_passWeek_K2 G Q x0 r) : kw_V G mX2_passWeek 2 [some (.ref x0), some (.int x1), none, none] [] hp Q := by
  unfold X2_passWeek_b2 at h
  refine kw_iload_n dX2_passWeek_2 rfl ?_
  refine kw_aload_n dX2_passWeek_3 rfl ?_
  obtain ⟨v1, ev1, h⟩ := Option.bind_eq_some_iff.mp h
  refine kv_gI gfX2_27 dX2_passWeek_4 ev1 ?_
  refine kw_icmp_ge 69 dX2_passWeek_7 (by decide) (fun c22 => ?_) (fun c22 => ?_)
  · have h := (if_pos c22).symm.trans h
    refine kw_mask [true, false, true, true] (L' := [some (.ref x0), none, none, none]) rfl ?_
    obtain ⟨r9, hr9, hrr9⟩ := Option.map_eq_some_iff.mp h
    subst hrr9
    exact X2_passWeek_J69_t G Q hp x0 r9 hr9 hK
  · have h := (if_neg c22).symm.trans h
    refine kw_aload_n dX2_passWeek_10 rfl ?_
    refine kw_iload_n dX2_passWeek_11 rfl ?_
    refine kw_aload_n dX2_passWeek_12 rfl ?_
    obtain ⟨v10, ev10, h⟩ := Option.bind_eq_some_iff.mp h
    refine kv_gI gfX2_46 dX2_passWeek_13 ev10 ?_
    refine kw_aload_n dX2_passWeek_16 rfl ?_
    obtain ⟨v11, ev11, h⟩ := Option.bind_eq_some_iff.mp h
    refine kv_gI gfX2_49 dX2_passWeek_17 ev11 ?_
    obtain ⟨r12, er12, h⟩ := Option.bind_eq_some_iff.mp h
    obtain ⟨ur12, eur12, er12⟩ := Option.bind_eq_some_iff.mp er12
    obtain ⟨fsr12, hor12⟩ := kp_ob_inv eur12
    refine kw_callV (As := [.int x1, .int v10, .int v11]) (S := []) kcX2 cbX2_passWeek_X2_doerIn lkX2_71 imX2_doerIn seX2_X2_doerIn_X2_doerIn rfl rfl (Nat.le_of_ble_eq_true rfl) dX2_passWeek_20 hor12 (X2_doerIn_c G hp x0 x1 v10 v11 _ er12) (fun vv hh hq => ?_)
    rw [hq.1, hq.2]
    show kw_V G mX2_passWeek 23 [some (.ref x0), some (.int x1), none, none] [.int r12] hp Q
    refine kw_istore_n (L' := [some (.ref x0), some (.int x1), some (.int r12), none]) dX2_passWeek_23 (by decide) rfl ?_
    refine kw_aload_n dX2_passWeek_24 rfl ?_
    refine kw_iload_n dX2_passWeek_25 rfl ?_
    refine kw_aload_n dX2_passWeek_26 rfl ?_
    obtain ⟨v13, ev13, h⟩ := Option.bind_eq_some_iff.mp h
    refine kv_gI gfX2_46 dX2_passWeek_27 ev13 ?_
    obtain ⟨r14, er14, h⟩ := Option.bind_eq_some_iff.mp h
    obtain ⟨ur14, eur14, er14⟩ := Option.bind_eq_some_iff.mp er14
    obtain ⟨fsr14, hor14⟩ := kp_ob_inv eur14
    refine kw_callV (As := [.int x1, .int v13]) (S := []) kcX2 cbX2_passWeek_X2_jobHad lkX2_64 imX2_jobHad seX2_X2_jobHad_X2_jobHad rfl rfl (Nat.le_of_ble_eq_true rfl) dX2_passWeek_30 hor14 (X2_jobHad_c G hp x0 x1 v13 _ er14) (fun vv hh hq => ?_)
    rw [hq.1, hq.2]
    show kw_V G mX2_passWeek 33 [some (.ref x0), some (.int x1), some (.int r12), none] [.int r14] hp Q
    refine kw_istore_n (L' := [some (.ref x0), some (.int x1), some (.int r12), some (.int r14)]) dX2_passWeek_33 (by decide) rfl ?_
    refine kw_iload_n dX2_passWeek_34 rfl ?_
    obtain ⟨r15, er15, h⟩ := Option.bind_eq_some_iff.mp h
    refine kw_callSN (As := [.int r12]) (S := []) cbX2_passWeek_X11_isPerson lnX2_75 stX11_isPerson rfl rfl (Nat.le_of_ble_eq_true rfl) dX2_passWeek_35 (X11_isPerson_c G hp r12 _ er15) (fun vv hh hq => ?_)
    rw [hq.1, hq.2]
    show kw_V G mX2_passWeek 38 [some (.ref x0), some (.int x1), some (.int r12), some (.int r14)] [.int r15] hp Q
    refine kw_if_eq 63 dX2_passWeek_38 (by decide) (fun c21 => ?_) (fun c21 => ?_)
    · have h := (if_pos c21).symm.trans h
      refine kw_mask [true, true, false, false] (L' := [some (.ref x0), some (.int x1), none, none]) rfl ?_
      exact X2_passWeek_J63_t G Q hp x0 x1 _ h hK
    · have h := (if_neg c21).symm.trans h
      refine kw_iload_n dX2_passWeek_41 rfl ?_
      obtain ⟨r16, er16, h⟩ := Option.bind_eq_some_iff.mp h
      refine kw_callSN (As := [.int r14]) (S := []) cbX2_passWeek_X11_isJob lnX2_79 stX11_isJob rfl rfl (Nat.le_of_ble_eq_true rfl) dX2_passWeek_42 (X11_isJob_c G hp r14 _ er16) (fun vv hh hq => ?_)
      rw [hq.1, hq.2]
      show kw_V G mX2_passWeek 45 [some (.ref x0), some (.int x1), some (.int r12), some (.int r14)] [.int r16] hp Q
      refine kw_if_eq 63 dX2_passWeek_45 (by decide) (fun c20 => ?_) (fun c20 => ?_)
      · have h := (if_pos c20).symm.trans h
        refine kw_mask [true, true, false, false] (L' := [some (.ref x0), some (.int x1), none, none]) rfl ?_
        exact X2_passWeek_J63_t G Q hp x0 x1 _ h hK
      · have h := (if_neg c20).symm.trans h
        refine kw_aload_n dX2_passWeek_48 rfl ?_
        obtain ⟨v17, ev17, h⟩ := Option.bind_eq_some_iff.mp h
        refine kv_gR gfX2_24 dX2_passWeek_49 ev17 ?_
        refine kw_iload_n dX2_passWeek_52 rfl ?_
        refine kw_bipush (v := nI 6) dX2_passWeek_53 (by decide) ?_
        refine kw_imul dX2_passWeek_55 ?_
        refine kw_iload_n dX2_passWeek_56 rfl ?_
        refine kw_iadd dX2_passWeek_57 ?_
        refine kw_dup2 dX2_passWeek_58 rfl rfl ?_
        obtain ⟨v18, ev18, h⟩ := Option.bind_eq_some_iff.mp h
        refine kv_ldI dX2_passWeek_59 ev18 ?_
        refine kw_iconst (v := nI 1) dX2_passWeek_60 (by decide) ?_
        refine kw_iadd dX2_passWeek_61 ?_
        obtain ⟨hp19, ehp19, h⟩ := Option.bind_eq_some_iff.mp h
        refine kv_stI dX2_passWeek_62 ehp19 ?_
        refine kw_mask [true, true, false, false] (L' := [some (.ref x0), some (.int x1), none, none]) rfl ?_
        exact X2_passWeek_J63_t G Q hp19 x0 x1 _ h hK
def X2_passWeek_B2 (x0 : Nat) (z : Int32 × kw_H) : Option (((Int32 × kw_H) ⊕ (kw_H))) := X2_passWeek_b2 x0 z.1 z.2
theorem X2_passWeek_L2_t (G : kw_G) (Q : Option Value → kw_H → Prop) (x0 : Nat) (n : Nat) (z : Int32 × kw_H) (r : kw_H) (h : kp_lp (X2_passWeek_B2 x0) n z = some r) (hK : Q none r) : kw_V G mX2_passWeek 2 [some (.ref x0), some (.int z.1), none, none] [] z.2 Q :=
  kv_lp _ (fun z => kw_V G mX2_passWeek 2 [some (.ref x0), some (.int z.1), none, none] [] z.2 Q) (fun r => Q none r) (fun z x hb hx => X2_passWeek_b2_t G Q x0 z.1 z.2 x hb (by cases x <;> exact hx)) n z r h hK
def X2_passWeek_F (hp : kw_H) (x0 : Nat) : Option (kw_H) :=
  kp_lp (X2_passWeek_B2 x0) 2000 (nI 0, hp)
set_option maxRecDepth 100000 in
set_option maxHeartbeats 4000000 in
theorem X2_passWeek_c (G : kw_G) (hp : kw_H) (x0 : Nat) (r : kw_H) (h : X2_passWeek_F hp x0 = some r) : kw_Met G mX2_passWeek [.ref x0] hp (fun v h2 => v = none ∧ h2 = r) := by
  refine kw_met (L := [some (.ref x0), none, none, none]) (r := 3) (by decide +kernel) (Nat.le_of_ble_eq_true rfl) rfl ?_
  unfold X2_passWeek_F at h
  obtain ⟨Q, hQ⟩ : ∃ Q : Option Value → kw_H → Prop, Q = (fun v h2 => v = none ∧ h2 = r) := ⟨_, rfl⟩
  have hK : Q none r := by rw [hQ]; exact ⟨rfl, rfl⟩
  rw [← hQ]
  clear hQ
  refine kw_iconst (v := nI 0) dX2_passWeek_0 (by decide) ?_
  refine kw_istore_n (L' := [some (.ref x0), some (.int (nI 0)), none, none]) dX2_passWeek_1 (by decide) rfl ?_
  exact X2_passWeek_L2_t G Q x0 _ (nI 0, hp) _ h hK
/-! KitchenWheels$Kitchen.allTimesOf(I)I -/
def X2_allTimesOf_K4 (G : kw_G) (Q : Option Value → kw_H → Prop) (hp : kw_H) (x0 : Nat) (x1 : Int32) (r : (Int32 × Int32) ⊕ (Int32)) : Prop := match r with
  | .inl z => kw_V G mX2_allTimesOf 4 [some (.ref x0), some (.int x1), some (.int z.1), some (.int z.2)] [] hp Q
  | .inr r => Q (some (.int r)) hp
def X2_allTimesOf_J37 (hp : kw_H) (x2 : Int32) : Option (Int32) :=
  some (x2)
set_option maxRecDepth 100000 in
set_option maxHeartbeats 4000000 in
theorem X2_allTimesOf_J37_t (G : kw_G) (Q : Option Value → kw_H → Prop) (hp : kw_H) (x2 : Int32) (r : Int32) (h : X2_allTimesOf_J37 hp x2 = some r) (hK : Q (some (.int r)) hp) : kw_V G mX2_allTimesOf 37 [none, none, some (.int x2), none] [] hp Q := by
  unfold X2_allTimesOf_J37 at h
  refine kw_iload_n dX2_allTimesOf_37 rfl ?_
  have h := Option.some.inj h
  subst h
  exact kw_iret rfl dX2_allTimesOf_38 hK
def X2_allTimesOf_b4 (hp : kw_H) (x0 : Nat) (x1 : Int32) (x2 : Int32) (x3 : Int32) : Option (((Int32 × Int32) ⊕ (Int32))) :=
  (if (nI 6) ≤ x3 then
  (X2_allTimesOf_J37 hp x2).map (fun r => .inr (r))
else
  (X11_isPerson_F hp x1).bind fun r2 =>
  (if r2 = 0 then
  (X2_allTimesOf_J37 hp x2).map (fun r => .inr (r))
else
  (kp_gR hp x0 [2] 3).bind fun v4 =>
  (kp_ldI hp v4 ((x1 * (nI 6)) + x3)).bind fun v5 =>
  some (.inl (x2 + v5, x3 + (nI 1)))))
set_option maxRecDepth 100000 in
set_option maxHeartbeats 4000000 in
theorem X2_allTimesOf_b4_t (G : kw_G) (Q : Option Value → kw_H → Prop) (hp : kw_H) (x0 : Nat) (x1 : Int32) (x2 : Int32) (x3 : Int32) (r : ((Int32 × Int32) ⊕ (Int32))) (h : X2_allTimesOf_b4 hp x0 x1 x2 x3 = some r) (hK : X2_allTimesOf_K4 G Q hp x0 x1 r) : kw_V G mX2_allTimesOf 4 [some (.ref x0), some (.int x1), some (.int x2), some (.int x3)] [] hp Q := by
  unfold X2_allTimesOf_b4 at h
  refine kw_iload_n dX2_allTimesOf_4 rfl ?_
  refine kw_bipush (v := nI 6) dX2_allTimesOf_5 (by decide) ?_
  refine kw_icmp_ge 37 dX2_allTimesOf_7 (by decide) (fun c7 => ?_) (fun c7 => ?_)
  · have h := (if_pos c7).symm.trans h
    refine kw_mask [false, false, true, false] (L' := [none, none, some (.int x2), none]) rfl ?_
    obtain ⟨r1, hr1, hrr1⟩ := Option.map_eq_some_iff.mp h
    subst hrr1
    exact X2_allTimesOf_J37_t G Q hp x2 r1 hr1 hK
  · have h := (if_neg c7).symm.trans h
    refine kw_iload_n dX2_allTimesOf_10 rfl ?_
    obtain ⟨r2, er2, h⟩ := Option.bind_eq_some_iff.mp h
    refine kw_callSN (As := [.int x1]) (S := []) cbX2_allTimesOf_X11_isPerson lnX2_75 stX11_isPerson rfl rfl (Nat.le_of_ble_eq_true rfl) dX2_allTimesOf_11 (X11_isPerson_c G hp x1 _ er2) (fun vv hh hq => ?_)
    rw [hq.1, hq.2]
    show kw_V G mX2_allTimesOf 14 [some (.ref x0), some (.int x1), some (.int x2), some (.int x3)] [.int r2] hp Q
    refine kw_if_eq 37 dX2_allTimesOf_14 (by decide) (fun c6 => ?_) (fun c6 => ?_)
    · have h := (if_pos c6).symm.trans h
      refine kw_mask [false, false, true, false] (L' := [none, none, some (.int x2), none]) rfl ?_
      obtain ⟨r3, hr3, hrr3⟩ := Option.map_eq_some_iff.mp h
      subst hrr3
      exact X2_allTimesOf_J37_t G Q hp x2 r3 hr3 hK
    · have h := (if_neg c6).symm.trans h
      refine kw_iload_n dX2_allTimesOf_17 rfl ?_
      refine kw_aload_n dX2_allTimesOf_18 rfl ?_
      obtain ⟨v4, ev4, h⟩ := Option.bind_eq_some_iff.mp h
      refine kv_gR gfX2_24 dX2_allTimesOf_19 ev4 ?_
      refine kw_iload_n dX2_allTimesOf_22 rfl ?_
      refine kw_bipush (v := nI 6) dX2_allTimesOf_23 (by decide) ?_
      refine kw_imul dX2_allTimesOf_25 ?_
      refine kw_iload_n dX2_allTimesOf_26 rfl ?_
      refine kw_iadd dX2_allTimesOf_27 ?_
      obtain ⟨v5, ev5, h⟩ := Option.bind_eq_some_iff.mp h
      refine kv_ldI dX2_allTimesOf_28 ev5 ?_
      refine kw_iadd dX2_allTimesOf_29 ?_
      refine kw_istore_n (L' := [some (.ref x0), some (.int x1), some (.int (x2 + v5)), some (.int x3)]) dX2_allTimesOf_30 (by decide) rfl ?_
      refine kv_iinc (w := nI 1) (L' := [some (.ref x0), some (.int x1), some (.int (x2 + v5)), some (.int (x3 + (nI 1)))]) dX2_allTimesOf_31 (by decide) rfl (by decide) rfl ?_
      refine kw_goto 4 dX2_allTimesOf_34 (by decide) ?_
      have h := Option.some.inj h
      subst h
      exact hK
def X2_allTimesOf_B4 (hp : kw_H) (x0 : Nat) (x1 : Int32) (z : Int32 × Int32) : Option (((Int32 × Int32) ⊕ (Int32))) := X2_allTimesOf_b4 hp x0 x1 z.1 z.2
theorem X2_allTimesOf_L4_t (G : kw_G) (Q : Option Value → kw_H → Prop) (hp : kw_H) (x0 : Nat) (x1 : Int32) (n : Nat) (z : Int32 × Int32) (r : Int32) (h : kp_lp (X2_allTimesOf_B4 hp x0 x1) n z = some r) (hK : Q (some (.int r)) hp) : kw_V G mX2_allTimesOf 4 [some (.ref x0), some (.int x1), some (.int z.1), some (.int z.2)] [] hp Q :=
  kv_lp _ (fun z => kw_V G mX2_allTimesOf 4 [some (.ref x0), some (.int x1), some (.int z.1), some (.int z.2)] [] hp Q) (fun r => Q (some (.int r)) hp) (fun z x hb hx => X2_allTimesOf_b4_t G Q hp x0 x1 z.1 z.2 x hb (by cases x <;> exact hx)) n z r h hK
def X2_allTimesOf_F (hp : kw_H) (x0 : Nat) (x1 : Int32) : Option (Int32) :=
  kp_lp (X2_allTimesOf_B4 hp x0 x1) 2000 (nI 0, nI 0)
set_option maxRecDepth 100000 in
set_option maxHeartbeats 4000000 in
theorem X2_allTimesOf_c (G : kw_G) (hp : kw_H) (x0 : Nat) (x1 : Int32) (r : Int32) (h : X2_allTimesOf_F hp x0 x1 = some r) : kw_Met G mX2_allTimesOf [.ref x0, .int x1] hp (fun v h2 => v = some (.int r) ∧ h2 = hp) := by
  refine kw_met (L := [some (.ref x0), some (.int x1), none, none]) (r := 2) (by decide +kernel) (Nat.le_of_ble_eq_true rfl) rfl ?_
  unfold X2_allTimesOf_F at h
  obtain ⟨Q, hQ⟩ : ∃ Q : Option Value → kw_H → Prop, Q = (fun v h2 => v = some (.int r) ∧ h2 = hp) := ⟨_, rfl⟩
  have hK : Q (some (.int r)) hp := by rw [hQ]; exact ⟨rfl, rfl⟩
  rw [← hQ]
  clear hQ
  refine kw_iconst (v := nI 0) dX2_allTimesOf_0 (by decide) ?_
  refine kw_istore_n (L' := [some (.ref x0), some (.int x1), some (.int (nI 0)), none]) dX2_allTimesOf_1 (by decide) rfl ?_
  refine kw_iconst (v := nI 0) dX2_allTimesOf_2 (by decide) ?_
  refine kw_istore_n (L' := [some (.ref x0), some (.int x1), some (.int (nI 0)), some (.int (nI 0))]) dX2_allTimesOf_3 (by decide) rfl ?_
  exact X2_allTimesOf_L4_t G Q hp x0 x1 _ (nI 0, nI 0) _ h hK
/-! KitchenWheels$Kitchen.allTimes()I -/
def X2_allTimes_K4 (G : kw_G) (Q : Option Value → kw_H → Prop) (hp : kw_H) (x0 : Nat) (r : (Int32 × Int32) ⊕ (Int32)) : Prop := match r with
  | .inl z => kw_V G mX2_allTimes 4 [some (.ref x0), some (.int z.1), some (.int z.2)] [] hp Q
  | .inr r => Q (some (.int r)) hp
def X2_allTimes_J24 (hp : kw_H) (x1 : Int32) : Option (Int32) :=
  some (x1)
set_option maxRecDepth 100000 in
set_option maxHeartbeats 4000000 in
theorem X2_allTimes_J24_t (G : kw_G) (Q : Option Value → kw_H → Prop) (hp : kw_H) (x1 : Int32) (r : Int32) (h : X2_allTimes_J24 hp x1 = some r) (hK : Q (some (.int r)) hp) : kw_V G mX2_allTimes 24 [none, some (.int x1), none] [] hp Q := by
  unfold X2_allTimes_J24 at h
  refine kw_iload_n dX2_allTimes_24 rfl ?_
  have h := Option.some.inj h
  subst h
  exact kw_iret rfl dX2_allTimes_25 hK
def X2_allTimes_b4 (hp : kw_H) (x0 : Nat) (x1 : Int32) (x2 : Int32) : Option (((Int32 × Int32) ⊕ (Int32))) :=
  (if (nI 6) ≤ x2 then
  (X2_allTimes_J24 hp x1).map (fun r => .inr (r))
else
  ((kp_ob hp x0 2).bind fun _ => X2_allTimesOf_F hp x0 x2).bind fun r2 =>
  some (.inl (x1 + r2, x2 + (nI 1))))
set_option maxRecDepth 100000 in
set_option maxHeartbeats 4000000 in
theorem X2_allTimes_b4_t (G : kw_G) (Q : Option Value → kw_H → Prop) (hp : kw_H) (x0 : Nat) (x1 : Int32) (x2 : Int32) (r : ((Int32 × Int32) ⊕ (Int32))) (h : X2_allTimes_b4 hp x0 x1 x2 = some r) (hK : X2_allTimes_K4 G Q hp x0 r) : kw_V G mX2_allTimes 4 [some (.ref x0), some (.int x1), some (.int x2)] [] hp Q := by
  unfold X2_allTimes_b4 at h
  refine kw_iload_n dX2_allTimes_4 rfl ?_
  refine kw_bipush (v := nI 6) dX2_allTimes_5 (by decide) ?_
  refine kw_icmp_ge 24 dX2_allTimes_7 (by decide) (fun c3 => ?_) (fun c3 => ?_)
  · have h := (if_pos c3).symm.trans h
    refine kw_mask [false, true, false] (L' := [none, some (.int x1), none]) rfl ?_
    obtain ⟨r1, hr1, hrr1⟩ := Option.map_eq_some_iff.mp h
    subst hrr1
    exact X2_allTimes_J24_t G Q hp x1 r1 hr1 hK
  · have h := (if_neg c3).symm.trans h
    refine kw_iload_n dX2_allTimes_10 rfl ?_
    refine kw_aload_n dX2_allTimes_11 rfl ?_
    refine kw_iload_n dX2_allTimes_12 rfl ?_
    obtain ⟨r2, er2, h⟩ := Option.bind_eq_some_iff.mp h
    obtain ⟨ur2, eur2, er2⟩ := Option.bind_eq_some_iff.mp er2
    obtain ⟨fsr2, hor2⟩ := kp_ob_inv eur2
    refine kw_callV (As := [.int x2]) (S := [.int x1]) kcX2 cbX2_allTimes_X2_allTimesOf lkX2_96 imX2_allTimesOf seX2_X2_allTimesOf_X2_allTimesOf rfl rfl (Nat.le_of_ble_eq_true rfl) dX2_allTimes_13 hor2 (X2_allTimesOf_c G hp x0 x2 _ er2) (fun vv hh hq => ?_)
    rw [hq.1, hq.2]
    show kw_V G mX2_allTimes 16 [some (.ref x0), some (.int x1), some (.int x2)] [.int r2, .int x1] hp Q
    refine kw_iadd dX2_allTimes_16 ?_
    refine kw_istore_n (L' := [some (.ref x0), some (.int (x1 + r2)), some (.int x2)]) dX2_allTimes_17 (by decide) rfl ?_
    refine kv_iinc (w := nI 1) (L' := [some (.ref x0), some (.int (x1 + r2)), some (.int (x2 + (nI 1)))]) dX2_allTimes_18 (by decide) rfl (by decide) rfl ?_
    refine kw_goto 4 dX2_allTimes_21 (by decide) ?_
    have h := Option.some.inj h
    subst h
    exact hK
def X2_allTimes_B4 (hp : kw_H) (x0 : Nat) (z : Int32 × Int32) : Option (((Int32 × Int32) ⊕ (Int32))) := X2_allTimes_b4 hp x0 z.1 z.2
theorem X2_allTimes_L4_t (G : kw_G) (Q : Option Value → kw_H → Prop) (hp : kw_H) (x0 : Nat) (n : Nat) (z : Int32 × Int32) (r : Int32) (h : kp_lp (X2_allTimes_B4 hp x0) n z = some r) (hK : Q (some (.int r)) hp) : kw_V G mX2_allTimes 4 [some (.ref x0), some (.int z.1), some (.int z.2)] [] hp Q :=
  kv_lp _ (fun z => kw_V G mX2_allTimes 4 [some (.ref x0), some (.int z.1), some (.int z.2)] [] hp Q) (fun r => Q (some (.int r)) hp) (fun z x hb hx => X2_allTimes_b4_t G Q hp x0 z.1 z.2 x hb (by cases x <;> exact hx)) n z r h hK
def X2_allTimes_F (hp : kw_H) (x0 : Nat) : Option (Int32) :=
  kp_lp (X2_allTimes_B4 hp x0) 2000 (nI 0, nI 0)
set_option maxRecDepth 100000 in
set_option maxHeartbeats 4000000 in
theorem X2_allTimes_c (G : kw_G) (hp : kw_H) (x0 : Nat) (r : Int32) (h : X2_allTimes_F hp x0 = some r) : kw_Met G mX2_allTimes [.ref x0] hp (fun v h2 => v = some (.int r) ∧ h2 = hp) := by
  refine kw_met (L := [some (.ref x0), none, none]) (r := 2) (by decide +kernel) (Nat.le_of_ble_eq_true rfl) rfl ?_
  unfold X2_allTimes_F at h
  obtain ⟨Q, hQ⟩ : ∃ Q : Option Value → kw_H → Prop, Q = (fun v h2 => v = some (.int r) ∧ h2 = hp) := ⟨_, rfl⟩
  have hK : Q (some (.int r)) hp := by rw [hQ]; exact ⟨rfl, rfl⟩
  rw [← hQ]
  clear hQ
  refine kw_iconst (v := nI 0) dX2_allTimes_0 (by decide) ?_
  refine kw_istore_n (L' := [some (.ref x0), some (.int (nI 0)), none]) dX2_allTimes_1 (by decide) rfl ?_
  refine kw_iconst (v := nI 0) dX2_allTimes_2 (by decide) ?_
  refine kw_istore_n (L' := [some (.ref x0), some (.int (nI 0)), some (.int (nI 0))]) dX2_allTimes_3 (by decide) rfl ?_
  exact X2_allTimes_L4_t G Q hp x0 _ (nI 0, nI 0) _ h hK
