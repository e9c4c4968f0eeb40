/-! KitchenWheels$Foreteller.weeksUntilAnew(LKitchenWheels$Kitchen;)I -/
def X1_weeksUntilAnew_K7 (G : kw_G) (Q : Option Value → kw_H → Prop) (hp : kw_H) (x1 : Nat) (r : (Int32 × Int32) ⊕ (Int32)) : Prop := match r with
  | .inl z => kw_V G mX1_weeksUntilAnew 7 [none, some (.ref x1), some (.int z.1), some (.int z.2), none] [] hp Q
  | .inr r => Q (some (.int r)) hp
def X1_weeksUntilAnew_J75 (hp : kw_H) : Option (Int32) :=
  some ((-1000000))
set_option maxRecDepth 100000 in
set_option maxHeartbeats 4000000 in
theorem X1_weeksUntilAnew_J75_t (G : kw_G) (Q : Option Value → kw_H → Prop) (hp : kw_H) (r : Int32) (h : X1_weeksUntilAnew_J75 hp = some r) (hK : Q (some (.int r)) hp) : kw_V G mX1_weeksUntilAnew 75 [none, none, none, none, none] [] hp Q := by
  unfold X1_weeksUntilAnew_J75 at h
  refine kw_ldc (v := (-1000000)) dX1_weeksUntilAnew_75 ckX1_61 ?_
  have h := Option.some.inj h
  subst h
  exact kw_iret rfl dX1_weeksUntilAnew_77 hK
def X1_weeksUntilAnew_J69 (hp : kw_H) (x1 : Nat) (x2 : Int32) (x3 : Int32) : Option (((Int32 × Int32) ⊕ (Int32))) :=
  some (.inl (x2, x3 + (nI 1)))
set_option maxRecDepth 100000 in
set_option maxHeartbeats 4000000 in
theorem X1_weeksUntilAnew_J69_t (G : kw_G) (Q : Option Value → kw_H → Prop) (hp : kw_H) (x1 : Nat) (x2 : Int32) (x3 : Int32) (r : ((Int32 × Int32) ⊕ (Int32))) (h : X1_weeksUntilAnew_J69 hp x1 x2 x3 = some r) (hK : X1_weeksUntilAnew_K7 G Q hp x1 r) : kw_V G mX1_weeksUntilAnew 69 [none, some (.ref x1), some (.int x2), some (.int x3), none] [] hp Q := by
  unfold X1_weeksUntilAnew_J69 at h
  refine kv_iinc (w := nI 1) (L' := [none, some (.ref x1), some (.int x2), some (.int (x3 + (nI 1))), none]) dX1_weeksUntilAnew_69 (by decide) rfl (by decide) rfl ?_
  refine kw_goto 7 dX1_weeksUntilAnew_72 (by decide) ?_
  have h := Option.some.inj h
  subst h
  exact hK
def X1_weeksUntilAnew_J67 (hp : kw_H) (x3 : Int32) : Option (Int32) :=
  some (x3)
set_option maxRecDepth 100000 in
set_option maxHeartbeats 4000000 in
theorem X1_weeksUntilAnew_J67_t (G : kw_G) (Q : Option Value → kw_H → Prop) (hp : kw_H) (x3 : Int32) (r : Int32) (h : X1_weeksUntilAnew_J67 hp x3 = some r) (hK : Q (some (.int r)) hp) : kw_V G mX1_weeksUntilAnew 67 [none, none, none, some (.int x3), none] [] hp Q := by
  unfold X1_weeksUntilAnew_J67 at h
  refine kw_iload_n dX1_weeksUntilAnew_67 rfl ?_
  have h := Option.some.inj h
  subst h
  exact kw_iret rfl dX1_weeksUntilAnew_68 hK
def X1_weeksUntilAnew_J52 (hp : kw_H) (x1 : Nat) (x2 : Int32) (x3 : Int32) (s0 : Int32) : Option (((Int32 × Int32) ⊕ (Int32))) :=
  (if s0 = 0 then
  X1_weeksUntilAnew_J69 hp x1 x2 x3
else
  (kp_gI hp x1 [2] 8).bind fun v7 =>
  (if x2 = v7 then
  (X1_weeksUntilAnew_J67 hp x3).map (fun r => .inr (r))
else
  X1_weeksUntilAnew_J69 hp x1 x2 x3))
set_option maxRecDepth 100000 in
set_option maxHeartbeats 4000000 in
theorem X1_weeksUntilAnew_J52_t (G : kw_G) (Q : Option Value → kw_H → Prop) (hp : kw_H) (x1 : Nat) (x2 : Int32) (x3 : Int32) (s0 : Int32) (r : ((Int32 × Int32) ⊕ (Int32))) (h : X1_weeksUntilAnew_J52 hp x1 x2 x3 s0 = some r) (hK : X1_weeksUntilAnew_K7 G Q hp x1 r) : kw_V G mX1_weeksUntilAnew 52 [none, some (.ref x1), some (.int x2), some (.int x3), none] [.int s0] hp Q := by
  unfold X1_weeksUntilAnew_J52 at h
  refine kw_istore (L' := [none, some (.ref x1), some (.int x2), some (.int x3), some (.int s0)]) dX1_weeksUntilAnew_52 (by decide) rfl ?_
  refine kw_iload dX1_weeksUntilAnew_54 rfl ?_
  refine kw_if_eq 69 dX1_weeksUntilAnew_56 (by decide) (fun c10 => ?_) (fun c10 => ?_)
  · have h := (if_pos c10).symm.trans h
    refine kw_mask [true, true, true, true, false] (L' := [none, some (.ref x1), some (.int x2), some (.int x3), none]) rfl ?_
    exact X1_weeksUntilAnew_J69_t G Q hp x1 x2 x3 _ h hK
  · have h := (if_neg c10).symm.trans h
    refine kw_iload_n dX1_weeksUntilAnew_59 rfl ?_
    refine kw_aload_n dX1_weeksUntilAnew_60 rfl ?_
    obtain ⟨v7, ev7, h⟩ := Option.bind_eq_some_iff.mp h
    refine kv_gI gfX1_29 dX1_weeksUntilAnew_61 ev7 ?_
    refine kw_icmp_ne 69 dX1_weeksUntilAnew_64 (by decide) (fun c9 => ?_) (fun c9 => ?_)
    · have h := (if_neg c9).symm.trans h
      refine kw_mask [true, true, true, true, false] (L' := [none, some (.ref x1), some (.int x2), some (.int x3), none]) rfl ?_
      exact X1_weeksUntilAnew_J69_t G Q hp x1 x2 x3 _ h hK
    · have h := (if_pos c9).symm.trans h
      refine kw_mask [true, false, false, true, false] (L' := [none, none, none, some (.int x3), none]) rfl ?_
      obtain ⟨r8, hr8, hrr8⟩ := Option.map_eq_some_iff.mp h
      subst hrr8
      exact X1_weeksUntilAnew_J67_t G Q hp x3 r8 hr8 hK
def X1_weeksUntilAnew_J51 (hp : kw_H) (x1 : Nat) (x2 : Int32) (x3 : Int32) : Option (((Int32 × Int32) ⊕ (Int32))) :=
  X1_weeksUntilAnew_J52 hp x1 x2 x3 (nI 0)
set_option maxRecDepth 100000 in
set_option maxHeartbeats 4000000 in
theorem X1_weeksUntilAnew_J51_t (G : kw_G) (Q : Option Value → kw_H → Prop) (hp : kw_H) (x1 : Nat) (x2 : Int32) (x3 : Int32) (r : ((Int32 × Int32) ⊕ (Int32))) (h : X1_weeksUntilAnew_J51 hp x1 x2 x3 = some r) (hK : X1_weeksUntilAnew_K7 G Q hp x1 r) : kw_V G mX1_weeksUntilAnew 51 [none, some (.ref x1), some (.int x2), some (.int x3), none] [] hp Q := by
  unfold X1_weeksUntilAnew_J51 at h
  refine kw_iconst (v := nI 0) dX1_weeksUntilAnew_51 (by decide) ?_
  exact X1_weeksUntilAnew_J52_t G Q hp x1 x2 x3 (nI 0) _ h hK
def X1_weeksUntilAnew_b7 (hp : kw_H) (x1 : Nat) (x2 : Int32) (x3 : Int32) : Option (((Int32 × Int32) ⊕ (Int32))) :=
  (if (nI 100) < x3 then
  (X1_weeksUntilAnew_J75 hp).map (fun r => .inr (r))
else
  (kp_gI hp x1 [2] 7).bind fun v3 =>
  ((kp_ob hp x1 2).bind fun _ => X2_turnedNext_F hp x1 x2 ((v3 + x3) - (nI 1))).bind fun r4 =>
  (kp_gI hp x1 [2] 6).bind fun v5 =>
  (X11_rest_F hp x3 v5).bind fun r6 =>
  (if r6 = 0 then
  (X11_rest_F hp x3 (nI 6)).bind fun r11 =>
  (if r11 = 0 then
  X1_weeksUntilAnew_J52 hp x1 r4 x3 (nI 1)
else
  X1_weeksUntilAnew_J51 hp x1 r4 x3)
else
  X1_weeksUntilAnew_J51 hp x1 r4 x3))
set_option maxRecDepth 100000 in
set_option maxHeartbeats 4000000 in
theorem X1_weeksUntilAnew_b7_t (G : kw_G) (Q : Option Value → kw_H → Prop) (hp : kw_H) (x1 : Nat) (x2 : Int32) (x3 : Int32) (r : ((Int32 × Int32) ⊕ (Int32))) (h : X1_weeksUntilAnew_b7 hp x1 x2 x3 = some r) (hK : X1_weeksUntilAnew_K7 G Q hp x1 r) : kw_V G mX1_weeksUntilAnew 7 [none, some (.ref x1), some (.int x2), some (.int x3), none] [] hp Q := by
  unfold X1_weeksUntilAnew_b7 at h
  refine kw_iload_n dX1_weeksUntilAnew_7 rfl ?_
  refine kw_bipush (v := nI 100) dX1_weeksUntilAnew_8 (by decide) ?_
  refine kw_icmp_gt 75 dX1_weeksUntilAnew_10 (by decide) (fun c14 => ?_) (fun c14 => ?_)
  · have h := (if_pos c14).symm.trans h
    refine kw_mask [true, false, false, false, true] (L' := [none, none, none, none, none]) rfl ?_
    obtain ⟨r2, hr2, hrr2⟩ := Option.map_eq_some_iff.mp h
    subst hrr2
    exact X1_weeksUntilAnew_J75_t G Q hp r2 hr2 hK
  · have h := (if_neg c14).symm.trans h
    refine kw_aload_n dX1_weeksUntilAnew_13 rfl ?_
    refine kw_iload_n dX1_weeksUntilAnew_14 rfl ?_
    refine kw_aload_n dX1_weeksUntilAnew_15 rfl ?_
    obtain ⟨v3, ev3, h⟩ := Option.bind_eq_some_iff.mp h
    refine kv_gI gfX1_48 dX1_weeksUntilAnew_16 ev3 ?_
    refine kw_iload_n dX1_weeksUntilAnew_19 rfl ?_
    refine kw_iadd dX1_weeksUntilAnew_20 ?_
    refine kw_iconst (v := nI 1) dX1_weeksUntilAnew_21 (by decide) ?_
    refine kw_isub dX1_weeksUntilAnew_22 ?_
    obtain ⟨r4, er4, h⟩ := Option.bind_eq_some_iff.mp h
    obtain ⟨ur4, eur4, er4⟩ := Option.bind_eq_some_iff.mp er4
    obtain ⟨fsr4, hor4⟩ := kp_ob_inv eur4
    refine kw_callV (As := [.int x2, .int ((v3 + x3) - (nI 1))]) (S := []) kcX2 cbX1_weeksUntilAnew_X2_turnedNext lkX1_51 imX2_turnedNext seX2_X2_turnedNext_X2_turnedNext rfl rfl (Nat.le_of_ble_eq_true rfl) dX1_weeksUntilAnew_23 hor4 (X2_turnedNext_c G hp x1 x2 ((v3 + x3) - (nI 1)) _ er4) (fun vv hh hq => ?_)
    rw [hq.1, hq.2]
    show kw_V G mX1_weeksUntilAnew 26 [none, some (.ref x1), some (.int x2), some (.int x3), none] [.int r4] hp Q
    refine kw_istore_n (L' := [none, some (.ref x1), some (.int r4), some (.int x3), none]) dX1_weeksUntilAnew_26 (by decide) rfl ?_
    refine kw_iload_n dX1_weeksUntilAnew_27 rfl ?_
    refine kw_aload_n dX1_weeksUntilAnew_28 rfl ?_
    obtain ⟨v5, ev5, h⟩ := Option.bind_eq_some_iff.mp h
    refine kv_gI gfX1_78 dX1_weeksUntilAnew_29 ev5 ?_
    obtain ⟨r6, er6, h⟩ := Option.bind_eq_some_iff.mp h
    refine kw_callSN (As := [.int x3, .int v5]) (S := []) cbX1_weeksUntilAnew_X11_rest lnX1_81 stX11_rest rfl rfl (Nat.le_of_ble_eq_true rfl) dX1_weeksUntilAnew_32 (X11_rest_c G hp x3 v5 _ er6) (fun vv hh hq => ?_)
    rw [hq.1, hq.2]
    show kw_V G mX1_weeksUntilAnew 35 [none, some (.ref x1), some (.int r4), some (.int x3), none] [.int r6] hp Q
    refine kw_if_ne 51 dX1_weeksUntilAnew_35 (by decide) (fun c13 => ?_) (fun c13 => ?_)
    · have h := (if_neg c13).symm.trans h
      exact X1_weeksUntilAnew_J51_t G Q hp x1 r4 x3 _ h hK
    · have h := (if_pos c13).symm.trans h
      refine kw_iload_n dX1_weeksUntilAnew_38 rfl ?_
      refine kw_bipush (v := nI 6) dX1_weeksUntilAnew_39 (by decide) ?_
      obtain ⟨r11, er11, h⟩ := Option.bind_eq_some_iff.mp h
      refine kw_callSN (As := [.int x3, .int (nI 6)]) (S := []) cbX1_weeksUntilAnew_X11_rest lnX1_81 stX11_rest rfl rfl (Nat.le_of_ble_eq_true rfl) dX1_weeksUntilAnew_41 (X11_rest_c G hp x3 (nI 6) _ er11) (fun vv hh hq => ?_)
      rw [hq.1, hq.2]
      show kw_V G mX1_weeksUntilAnew 44 [none, some (.ref x1), some (.int r4), some (.int x3), none] [.int r11] hp Q
      refine kw_if_ne 51 dX1_weeksUntilAnew_44 (by decide) (fun c12 => ?_) (fun c12 => ?_)
      · have h := (if_neg c12).symm.trans h
        exact X1_weeksUntilAnew_J51_t G Q hp x1 r4 x3 _ h hK
      · have h := (if_pos c12).symm.trans h
        refine kw_iconst (v := nI 1) dX1_weeksUntilAnew_47 (by decide) ?_
        refine kw_goto 52 dX1_weeksUntilAnew_48 (by decide) ?_
        exact X1_weeksUntilAnew_J52_t G Q hp x1 r4 x3 (nI 1) _ h hK
def X1_weeksUntilAnew_B7 (hp : kw_H) (x1 : Nat) (z : Int32 × Int32) : Option (((Int32 × Int32) ⊕ (Int32))) := X1_weeksUntilAnew_b7 hp x1 z.1 z.2
theorem X1_weeksUntilAnew_L7_t (G : kw_G) (Q : Option Value → kw_H → Prop) (hp : kw_H) (x1 : Nat) (n : Nat) (z : Int32 × Int32) (r : Int32) (h : kp_lp (X1_weeksUntilAnew_B7 hp x1) n z = some r) (hK : Q (some (.int r)) hp) : kw_V G mX1_weeksUntilAnew 7 [none, some (.ref x1), some (.int z.1), some (.int z.2), none] [] hp Q :=
  kv_lp _ (fun z => kw_V G mX1_weeksUntilAnew 7 [none, some (.ref x1), some (.int z.1), some (.int z.2), none] [] hp Q) (fun r => Q (some (.int r)) hp) (fun z x hb hx => X1_weeksUntilAnew_b7_t G Q hp x1 z.1 z.2 x hb (by cases x <;> exact hx)) n z r h hK
def X1_weeksUntilAnew_F (hp : kw_H) (x0 : Nat) (x1 : Nat) : Option (Int32) :=
  (kp_gI hp x1 [2] 8).bind fun v1 =>
  kp_lp (X1_weeksUntilAnew_B7 hp x1) 2000 (v1, nI 1)
set_option maxRecDepth 100000 in
set_option maxHeartbeats 4000000 in
theorem X1_weeksUntilAnew_c (G : kw_G) (hp : kw_H) (x0 : Nat) (x1 : Nat) (r : Int32) (h : X1_weeksUntilAnew_F hp x0 x1 = some r) : kw_Met G mX1_weeksUntilAnew [.ref x0, .ref x1] hp (fun v h2 => v = some (.int r) ∧ h2 = hp) := by
  refine kw_met (L := [some (.ref x0), some (.ref x1), none, none, none]) (r := 3) (by decide +kernel) (Nat.le_of_ble_eq_true rfl) rfl ?_
  unfold X1_weeksUntilAnew_F at h
  obtain ⟨Q, hQ⟩ : ∃ Q : Option Value → kw_H → Prop, Q = (fun v h2 => v = some (.int r) ∧ h2 = hp) := ⟨_, rfl⟩
  have hK : Q (some (.int r)) hp := by rw [hQ]; exact ⟨rfl, rfl⟩
  rw [← hQ]
  clear hQ
  refine kw_aload_n dX1_weeksUntilAnew_0 rfl ?_
  obtain ⟨v1, ev1, h⟩ := Option.bind_eq_some_iff.mp h
  refine kv_gI gfX1_29 dX1_weeksUntilAnew_1 ev1 ?_
  refine kw_istore_n (L' := [some (.ref x0), some (.ref x1), some (.int v1), none, none]) dX1_weeksUntilAnew_4 (by decide) rfl ?_
  refine kw_iconst (v := nI 1) dX1_weeksUntilAnew_5 (by decide) ?_
  refine kw_istore_n (L' := [some (.ref x0), some (.ref x1), some (.int v1), some (.int (nI 1)), none]) dX1_weeksUntilAnew_6 (by decide) rfl ?_
  refine kw_mask [false, true, true, true, true] (L' := [none, some (.ref x1), some (.int v1), some (.int (nI 1)), none]) rfl ?_
  exact X1_weeksUntilAnew_L7_t G Q hp x1 _ (v1, nI 1) _ h hK
/-! KitchenWheels.within(III)Z -/
def X11_within_F (hp : kw_H) (x0 : Int32) (x1 : Int32) (x2 : Int32) : Option (Int32) :=
  (if x0 < x1 then
  some (nI 0)
else
  (if x2 < x0 then
  some (nI 0)
else
  some (nI 1)))
set_option maxRecDepth 100000 in
set_option maxHeartbeats 4000000 in
theorem X11_within_c (G : kw_G) (hp : kw_H) (x0 : Int32) (x1 : Int32) (x2 : Int32) (r : Int32) (h : X11_within_F hp x0 x1 x2 = some r) : kw_Met G mX11_within [.int x0, .int x1, .int x2] hp (fun v h2 => v = some (.int r) ∧ h2 = hp) := by
  refine kw_met (L := [some (.int x0), some (.int x1), some (.int x2)]) (r := 0) (by decide +kernel) (Nat.le_of_ble_eq_true rfl) rfl ?_
  unfold X11_within_F at h
  obtain ⟨Q, hQ⟩ : ∃ Q : Option Value → kw_H → Prop, Q = (fun v h2 => v = some (.int r) ∧ h2 = hp) := ⟨_, rfl⟩
  have hK : Q (some (.int r)) hp := by rw [hQ]; exact ⟨rfl, rfl⟩
  rw [← hQ]
  clear hQ
  refine kw_iload_n dX11_within_0 rfl ?_
  refine kw_iload_n dX11_within_1 rfl ?_
  refine kw_icmp_lt 14 dX11_within_2 (by decide) (fun c2 => ?_) (fun c2 => ?_)
  · have h := (if_pos c2).symm.trans h
    refine kw_iconst (v := nI 0) dX11_within_14 (by decide) ?_
    have h := Option.some.inj h
    subst h
    exact kw_zret rfl (Or.inl rfl) dX11_within_15 hK
  · have h := (if_neg c2).symm.trans h
    refine kw_iload_n dX11_within_5 rfl ?_
    refine kw_iload_n dX11_within_6 rfl ?_
    refine kw_icmp_gt 14 dX11_within_7 (by decide) (fun c1 => ?_) (fun c1 => ?_)
    · have h := (if_pos c1).symm.trans h
      refine kw_iconst (v := nI 0) dX11_within_14 (by decide) ?_
      have h := Option.some.inj h
      subst h
      exact kw_zret rfl (Or.inl rfl) dX11_within_15 hK
    · have h := (if_neg c1).symm.trans h
      refine kw_iconst (v := nI 1) dX11_within_10 (by decide) ?_
      refine kw_goto 15 dX11_within_11 (by decide) ?_
      have h := Option.some.inj h
      subst h
      exact kw_zret rfl (Or.inr rfl) dX11_within_15 hK
/-! KitchenWheels.isPerson(I)Z -/
def X11_isPerson_F (hp : kw_H) (x0 : Int32) : Option (Int32) :=
  (X11_within_F hp x0 (nI 0) (nI 5)).bind fun r1 =>
  (kp_bool r1).bind fun v2 =>
  some (v2)
set_option maxRecDepth 100000 in
set_option maxHeartbeats 4000000 in
theorem X11_isPerson_c (G : kw_G) (hp : kw_H) (x0 : Int32) (r : Int32) (h : X11_isPerson_F hp x0 = some r) : kw_Met G mX11_isPerson [.int x0] hp (fun v h2 => v = some (.int r) ∧ h2 = hp) := by
  refine kw_met (L := [some (.int x0)]) (r := 0) (by decide +kernel) (Nat.le_of_ble_eq_true rfl) rfl ?_
  unfold X11_isPerson_F at h
  obtain ⟨Q, hQ⟩ : ∃ Q : Option Value → kw_H → Prop, Q = (fun v h2 => v = some (.int r) ∧ h2 = hp) := ⟨_, rfl⟩
  have hK : Q (some (.int r)) hp := by rw [hQ]; exact ⟨rfl, rfl⟩
  rw [← hQ]
  clear hQ
  refine kw_iload_n dX11_isPerson_0 rfl ?_
  refine kw_iconst (v := nI 0) dX11_isPerson_1 (by decide) ?_
  refine kw_iconst (v := nI 5) dX11_isPerson_2 (by decide) ?_
  obtain ⟨r1, er1, h⟩ := Option.bind_eq_some_iff.mp h
  refine kw_callS (As := [.int x0, .int (nI 0), .int (nI 5)]) (S := []) cbX11_isPerson_X11_within lkX11_55 stX11_within rfl rfl (Nat.le_of_ble_eq_true rfl) dX11_isPerson_3 (X11_within_c G hp x0 (nI 0) (nI 5) _ er1) (fun vv hh hq => ?_)
  rw [hq.1, hq.2]
  show kw_V G mX11_isPerson 6 [some (.int x0)] [.int r1] hp Q
  obtain ⟨v2, ev2, h⟩ := Option.bind_eq_some_iff.mp h
  obtain ⟨qv2, bv2⟩ := kv_bool ev2
  have h := Option.some.inj h
  subst h
  rw [qv2]
  exact kw_zret rfl bv2 dX11_isPerson_6 hK
/-! KitchenWheels$Foreteller.countWeek(LKitchenWheels$Kitchen;II)V -/
def X1_countWeek_K3 (G : kw_G) (Q : Option Value → kw_H → Prop) (x0 : Nat) (x1 : Nat) (x2 : Int32) (x3 : Int32) (r : (Int32 × kw_H) ⊕ (kw_H)) : Prop := match r with
  | .inl z => kw_V G mX1_countWeek 3 [some (.ref x0), some (.ref x1), some (.int x2), some (.int x3), some (.int z.1), none] [] z.2 Q
  | .inr r => Q none r
def X1_countWeek_J47 (hp : kw_H) : Option (kw_H) :=
  some (hp)
set_option maxRecDepth 100000 in
set_option maxHeartbeats 4000000 in
theorem X1_countWeek_J47_t (G : kw_G) (Q : Option Value → kw_H → Prop) (hp : kw_H) (r : kw_H) (h : X1_countWeek_J47 hp = some r) (hK : Q none r) : kw_V G mX1_countWeek 47 [none, none, none, none, none, none] [] hp Q := by
  unfold X1_countWeek_J47 at h
  have h := Option.some.inj h
  subst h
  exact kw_vret rfl dX1_countWeek_47 hK
def X1_countWeek_J41 (hp : kw_H) (x0 : Nat) (x1 : Nat) (x2 : Int32) (x3 : Int32) (x4 : Int32) : Option (((Int32 × kw_H) ⊕ (kw_H))) :=
  some (.inl (x4 + (nI 1), hp))
set_option maxRecDepth 100000 in
set_option maxHeartbeats 4000000 in
theorem X1_countWeek_J41_t (G : kw_G) (Q : Option Value → kw_H → Prop) (hp : kw_H) (x0 : Nat) (x1 : Nat) (x2 : Int32) (x3 : Int32) (x4 : Int32) (r : ((Int32 × kw_H) ⊕ (kw_H))) (h : X1_countWeek_J41 hp x0 x1 x2 x3 x4 = some r) (hK : X1_countWeek_K3 G Q x0 x1 x2 x3 r) : kw_V G mX1_countWeek 41 [some (.ref x0), some (.ref x1), some (.int x2), some (.int x3), some (.int x4), none] [] hp Q := by
  unfold X1_countWeek_J41 at h
  refine kv_iinc (w := nI 1) (L' := [some (.ref x0), some (.ref x1), some (.int x2), some (.int x3), some (.int (x4 + (nI 1))), none]) dX1_countWeek_41 (by decide) rfl (by decide) rfl ?_
  refine kw_goto 3 dX1_countWeek_44 (by decide) ?_
  have h := Option.some.inj h
  subst h
  exact hK
def X1_countWeek_b3 (x0 : Nat) (x1 : Nat) (x2 : Int32) (x3 : Int32) (x4 : Int32) (hp : kw_H) : Option (((Int32 × kw_H) ⊕ (kw_H))) :=
  (kp_gI hp x1 [2] 4).bind fun v1 =>
  (if v1 ≤ x4 then
  (X1_countWeek_J47 hp).map (fun r => .inr (r))
else
  ((kp_ob hp x1 2).bind fun _ => X2_doerIn_F hp x1 x4 x2 x3).bind fun r3 =>
  (X11_isPerson_F hp r3).bind fun r4 =>
  (if r4 = 0 then
  X1_countWeek_J41 hp x0 x1 x2 x3 x4
else
  (kp_gR hp x0 [1] 1).bind fun v5 =>
  (kp_ldI hp v5 r3).bind fun v6 =>
  (kp_stI hp v5 r3 (v6 + (nI 1))).bind fun hp7 =>
  X1_countWeek_J41 hp7 x0 x1 x2 x3 x4))
set_option maxRecDepth 100000 in
set_option maxHeartbeats 4000000 in
theorem X1_countWeek_b3_t (G : kw_G) (Q : Option Value → kw_H → Prop) (x0 : Nat) (x1 : Nat) (x2 : Int32) (x3 : Int32) (x4 : Int32) (hp : kw_H) (r : ((Int32 × kw_H) ⊕ (kw_H))) (h : X1_countWeek_b3 x0 x1 x2 x3 x4 hp = some r) (hK : X1_countWeek_K3 G Q x0 x1 x2 x3 r) : kw_V G mX1_countWeek 3 [some (.ref x0), some (.ref x1), some (.int x2), some (.int x3), some (.int x4), none] [] hp Q := by
  unfold X1_countWeek_b3 at h
  refine kw_iload dX1_countWeek_3 rfl ?_
  refine kw_aload_n dX1_countWeek_5 rfl ?_
  obtain ⟨v1, ev1, h⟩ := Option.bind_eq_some_iff.mp h
  refine kv_gI gfX1_33 dX1_countWeek_6 ev1 ?_
  refine kw_icmp_ge 47 dX1_countWeek_9 (by decide) (fun c9 => ?_) (fun c9 => ?_)
  · have h := (if_pos c9).symm.trans h
    refine kw_mask [false, false, false, false, false, true] (L' := [none, none, none, none, none, none]) rfl ?_
    obtain ⟨r2, hr2, hrr2⟩ := Option.map_eq_some_iff.mp h
    subst hrr2
    exact X1_countWeek_J47_t G Q hp r2 hr2 hK
  · have h := (if_neg c9).symm.trans h
    refine kw_aload_n dX1_countWeek_12 rfl ?_
    refine kw_iload dX1_countWeek_13 rfl ?_
    refine kw_iload_n dX1_countWeek_15 rfl ?_
    refine kw_iload_n dX1_countWeek_16 rfl ?_
    obtain ⟨r3, er3, h⟩ := Option.bind_eq_some_iff.mp h
    obtain ⟨ur3, eur3, er3⟩ := Option.bind_eq_some_iff.mp er3
    obtain ⟨fsr3, hor3⟩ := kp_ob_inv eur3
    refine kw_callV (As := [.int x4, .int x2, .int x3]) (S := []) kcX2 cbX1_countWeek_X2_doerIn lkX1_44 imX2_doerIn seX2_X2_doerIn_X2_doerIn rfl rfl (Nat.le_of_ble_eq_true rfl) dX1_countWeek_17 hor3 (X2_doerIn_c G hp x1 x4 x2 x3 _ er3) (fun vv hh hq => ?_)
    rw [hq.1, hq.2]
    show kw_V G mX1_countWeek 20 [some (.ref x0), some (.ref x1), some (.int x2), some (.int x3), some (.int x4), none] [.int r3] hp Q
    refine kw_istore (L' := [some (.ref x0), some (.ref x1), some (.int x2), some (.int x3), some (.int x4), some (.int r3)]) dX1_countWeek_20 (by decide) rfl ?_
    refine kw_iload dX1_countWeek_22 rfl ?_
    obtain ⟨r4, er4, h⟩ := Option.bind_eq_some_iff.mp h
    refine kw_callSN (As := [.int r3]) (S := []) cbX1_countWeek_X11_isPerson lnX1_95 stX11_isPerson rfl rfl (Nat.le_of_ble_eq_true rfl) dX1_countWeek_24 (X11_isPerson_c G hp r3 _ er4) (fun vv hh hq => ?_)
    rw [hq.1, hq.2]
    show kw_V G mX1_countWeek 27 [some (.ref x0), some (.ref x1), some (.int x2), some (.int x3), some (.int x4), some (.int r3)] [.int r4] hp Q
    refine kw_if_eq 41 dX1_countWeek_27 (by decide) (fun c8 => ?_) (fun c8 => ?_)
    · have h := (if_pos c8).symm.trans h
      refine kw_mask [true, true, true, true, true, false] (L' := [some (.ref x0), some (.ref x1), some (.int x2), some (.int x3), some (.int x4), none]) rfl ?_
      exact X1_countWeek_J41_t G Q hp x0 x1 x2 x3 x4 _ h hK
    · have h := (if_neg c8).symm.trans h
      refine kw_aload_n dX1_countWeek_30 rfl ?_
      obtain ⟨v5, ev5, h⟩ := Option.bind_eq_some_iff.mp h
      refine kv_gR gfX1_18 dX1_countWeek_31 ev5 ?_
      refine kw_iload dX1_countWeek_34 rfl ?_
      refine kw_dup2 dX1_countWeek_36 rfl rfl ?_
      obtain ⟨v6, ev6, h⟩ := Option.bind_eq_some_iff.mp h
      refine kv_ldI dX1_countWeek_37 ev6 ?_
      refine kw_iconst (v := nI 1) dX1_countWeek_38 (by decide) ?_
      refine kw_iadd dX1_countWeek_39 ?_
      obtain ⟨hp7, ehp7, h⟩ := Option.bind_eq_some_iff.mp h
      refine kv_stI dX1_countWeek_40 ehp7 ?_
      refine kw_mask [true, true, true, true, true, false] (L' := [some (.ref x0), some (.ref x1), some (.int x2), some (.int x3), some (.int x4), none]) rfl ?_
      exact X1_countWeek_J41_t G Q hp7 x0 x1 x2 x3 x4 _ h hK
def X1_countWeek_B3 (x0 : Nat) (x1 : Nat) (x2 : Int32) (x3 : Int32) (z : Int32 × kw_H) : Option (((Int32 × kw_H) ⊕ (kw_H))) := X1_countWeek_b3 x0 x1 x2 x3 z.1 z.2
theorem X1_countWeek_L3_t (G : kw_G) (Q : Option Value → kw_H → Prop) (x0 : Nat) (x1 : Nat) (x2 : Int32) (x3 : Int32) (n : Nat) (z : Int32 × kw_H) (r : kw_H) (h : kp_lp (X1_countWeek_B3 x0 x1 x2 x3) n z = some r) (hK : Q none r) : kw_V G mX1_countWeek 3 [some (.ref x0), some (.ref x1), some (.int x2), some (.int x3), some (.int z.1), none] [] z.2 Q :=
  kv_lp _ (fun z => kw_V G mX1_countWeek 3 [some (.ref x0), some (.ref x1), some (.int x2), some (.int x3), some (.int z.1), none] [] z.2 Q) (fun r => Q none r) (fun z x hb hx => X1_countWeek_b3_t G Q x0 x1 x2 x3 z.1 z.2 x hb (by cases x <;> exact hx)) n z r h hK
def X1_countWeek_F (hp : kw_H) (x0 : Nat) (x1 : Nat) (x2 : Int32) (x3 : Int32) : Option (kw_H) :=
  kp_lp (X1_countWeek_B3 x0 x1 x2 x3) 2000 (nI 0, hp)
set_option maxRecDepth 100000 in
set_option maxHeartbeats 4000000 in
theorem X1_countWeek_c (G : kw_G) (hp : kw_H) (x0 : Nat) (x1 : Nat) (x2 : Int32) (x3 : Int32) (r : kw_H) (h : X1_countWeek_F hp x0 x1 x2 x3 = some r) : kw_Met G mX1_countWeek [.ref x0, .ref x1, .int x2, .int x3] hp (fun v h2 => v = none ∧ h2 = r) := by
  refine kw_met (L := [some (.ref x0), some (.ref x1), some (.int x2), some (.int x3), none, none]) (r := 2) (by decide +kernel) (Nat.le_of_ble_eq_true rfl) rfl ?_
  unfold X1_countWeek_F at h
  obtain ⟨Q, hQ⟩ : ∃ Q : Option Value → kw_H → Prop, Q = (fun v h2 => v = none ∧ h2 = r) := ⟨_, rfl⟩
  have hK : Q none r := by rw [hQ]; exact ⟨rfl, rfl⟩
  rw [← hQ]
  clear hQ
  refine kw_iconst (v := nI 0) dX1_countWeek_0 (by decide) ?_
  refine kw_istore (L' := [some (.ref x0), some (.ref x1), some (.int x2), some (.int x3), some (.int (nI 0)), none]) dX1_countWeek_1 (by decide) rfl ?_
  exact X1_countWeek_L3_t G Q x0 x1 x2 x3 _ (nI 0, hp) _ h hK
/-! KitchenWheels$Foreteller.spreadOver(I)I -/
def X1_spreadOver_K8 (G : kw_G) (Q : Option Value → kw_H → Prop) (hp : kw_H) (x0 : Nat) (x1 : Int32) (r : (Int32 × Int32 × Int32) ⊕ (Int32)) : Prop := match r with
  | .inl z => kw_V G mX1_spreadOver 8 [some (.ref x0), some (.int x1), some (.int z.1), some (.int z.2.1), some (.int z.2.2)] [] hp Q
  | .inr r => Q (some (.int r)) hp
def X1_spreadOver_J54 (hp : kw_H) (x1 : Int32) (x2 : Int32) (x3 : Int32) : Option (Int32) :=
  (if x1 = 0 then
  some (nI 0)
else
  some (x2 - x3))
set_option maxRecDepth 100000 in
set_option maxHeartbeats 4000000 in
theorem X1_spreadOver_J54_t (G : kw_G) (Q : Option Value → kw_H → Prop) (hp : kw_H) (x1 : Int32) (x2 : Int32) (x3 : Int32) (r : Int32) (h : X1_spreadOver_J54 hp x1 x2 x3 = some r) (hK : Q (some (.int r)) hp) : kw_V G mX1_spreadOver 54 [none, some (.int x1), some (.int x2), some (.int x3), none] [] hp Q := by
  unfold X1_spreadOver_J54 at h
  refine kw_iload_n dX1_spreadOver_54 rfl ?_
  refine kw_if_ne 62 dX1_spreadOver_55 (by decide) (fun c1 => ?_) (fun c1 => ?_)
  · have h := (if_neg c1).symm.trans h
    refine kw_iload_n dX1_spreadOver_62 rfl ?_
    refine kw_iload_n dX1_spreadOver_63 rfl ?_
    refine kw_isub dX1_spreadOver_64 ?_
    have h := Option.some.inj h
    subst h
    exact kw_iret rfl dX1_spreadOver_65 hK
  · have h := (if_pos c1).symm.trans h
    refine kw_iconst (v := nI 0) dX1_spreadOver_58 (by decide) ?_
    refine kw_goto 65 dX1_spreadOver_59 (by decide) ?_
    have h := Option.some.inj h
    subst h
    exact kw_iret rfl dX1_spreadOver_65 hK
def X1_spreadOver_J48 (hp : kw_H) (x0 : Nat) (x1 : Int32) (x2 : Int32) (x3 : Int32) (x4 : Int32) : Option (((Int32 × Int32 × Int32) ⊕ (Int32))) :=
  some (.inl (x2, x3, x4 + (nI 1)))
set_option maxRecDepth 100000 in
set_option maxHeartbeats 4000000 in
theorem X1_spreadOver_J48_t (G : kw_G) (Q : Option Value → kw_H → Prop) (hp : kw_H) (x0 : Nat) (x1 : Int32) (x2 : Int32) (x3 : Int32) (x4 : Int32) (r : ((Int32 × Int32 × Int32) ⊕ (Int32))) (h : X1_spreadOver_J48 hp x0 x1 x2 x3 x4 = some r) (hK : X1_spreadOver_K8 G Q hp x0 x1 r) : kw_V G mX1_spreadOver 48 [some (.ref x0), some (.int x1), some (.int x2), some (.int x3), some (.int x4)] [] hp Q := by
  unfold X1_spreadOver_J48 at h
  refine kv_iinc (w := nI 1) (L' := [some (.ref x0), some (.int x1), some (.int x2), some (.int x3), some (.int (x4 + (nI 1)))]) dX1_spreadOver_48 (by decide) rfl (by decide) rfl ?_
  refine kw_goto 8 dX1_spreadOver_51 (by decide) ?_
  have h := Option.some.inj h
  subst h
  exact hK
def X1_spreadOver_b8 (hp : kw_H) (x0 : Nat) (x1 : Int32) (x2 : Int32) (x3 : Int32) (x4 : Int32) : Option (((Int32 × Int32 × Int32) ⊕ (Int32))) :=
  (if (nI 6) ≤ x4 then
  (X1_spreadOver_J54 hp x1 x2 x3).map (fun r => .inr (r))
else
  (X11_holds_F hp x1 x4).bind fun r3 =>
  (if r3 = 0 then
  X1_spreadOver_J48 hp x0 x1 x2 x3 x4
else
  (kp_gR hp x0 [1] 1).bind fun v4 =>
  (kp_ldI hp v4 x4).bind fun v5 =>
  (kp_gR hp x0 [1] 1).bind fun v6 =>
  (kp_ldI hp v6 x4).bind fun v7 =>
  X1_spreadOver_J48 hp x0 x1 (kp_max x2 v5) (kp_min x3 v7) x4))
set_option maxRecDepth 100000 in
set_option maxHeartbeats 4000000 in
theorem X1_spreadOver_b8_t (G : kw_G) (Q : Option Value → kw_H → Prop) (hp : kw_H) (x0 : Nat) (x1 : Int32) (x2 : Int32) (x3 : Int32) (x4 : Int32) (r : ((Int32 × Int32 × Int32) ⊕ (Int32))) (h : X1_spreadOver_b8 hp x0 x1 x2 x3 x4 = some r) (hK : X1_spreadOver_K8 G Q hp x0 x1 r) : kw_V G mX1_spreadOver 8 [some (.ref x0), some (.int x1), some (.int x2), some (.int x3), some (.int x4)] [] hp Q := by
  unfold X1_spreadOver_b8 at h
  refine kw_iload dX1_spreadOver_8 rfl ?_
  refine kw_bipush (v := nI 6) dX1_spreadOver_10 (by decide) ?_
  refine kw_icmp_ge 54 dX1_spreadOver_12 (by decide) (fun c9 => ?_) (fun c9 => ?_)
  · have h := (if_pos c9).symm.trans h
    refine kw_mask [false, true, true, true, false] (L' := [none, some (.int x1), some (.int x2), some (.int x3), none]) rfl ?_
    obtain ⟨r2, hr2, hrr2⟩ := Option.map_eq_some_iff.mp h
    subst hrr2
    exact X1_spreadOver_J54_t G Q hp x1 x2 x3 r2 hr2 hK
  · have h := (if_neg c9).symm.trans h
    refine kw_iload_n dX1_spreadOver_15 rfl ?_
    refine kw_iload dX1_spreadOver_16 rfl ?_
    obtain ⟨r3, er3, h⟩ := Option.bind_eq_some_iff.mp h
    refine kw_callSN (As := [.int x1, .int x4]) (S := []) cbX1_spreadOver_X11_holds lnX1_57 stX11_holds rfl rfl (Nat.le_of_ble_eq_true rfl) dX1_spreadOver_18 (X11_holds_c G hp x1 x4 _ er3) (fun vv hh hq => ?_)
    rw [hq.1, hq.2]
    show kw_V G mX1_spreadOver 21 [some (.ref x0), some (.int x1), some (.int x2), some (.int x3), some (.int x4)] [.int r3] hp Q
    refine kw_if_eq 48 dX1_spreadOver_21 (by decide) (fun c8 => ?_) (fun c8 => ?_)
    · have h := (if_pos c8).symm.trans h
      exact X1_spreadOver_J48_t G Q hp x0 x1 x2 x3 x4 _ h hK
    · have h := (if_neg c8).symm.trans h
      refine kw_iload_n dX1_spreadOver_24 rfl ?_
      refine kw_aload_n dX1_spreadOver_25 rfl ?_
      obtain ⟨v4, ev4, h⟩ := Option.bind_eq_some_iff.mp h
      refine kv_gR gfX1_18 dX1_spreadOver_26 ev4 ?_
      refine kw_iload dX1_spreadOver_29 rfl ?_
      obtain ⟨v5, ev5, h⟩ := Option.bind_eq_some_iff.mp h
      refine kv_ldI dX1_spreadOver_31 ev5 ?_
      refine kw_mmax lkX1_100 st_max in_J9 cd_max (by decide) (by decide) (Nat.le_of_ble_eq_true rfl) dX1_spreadOver_32 ?_
      refine kw_istore_n (L' := [some (.ref x0), some (.int x1), some (.int (kp_max x2 v5)), some (.int x3), some (.int x4)]) dX1_spreadOver_35 (by decide) rfl ?_
      refine kw_iload_n dX1_spreadOver_36 rfl ?_
      refine kw_aload_n dX1_spreadOver_37 rfl ?_
      obtain ⟨v6, ev6, h⟩ := Option.bind_eq_some_iff.mp h
      refine kv_gR gfX1_18 dX1_spreadOver_38 ev6 ?_
      refine kw_iload dX1_spreadOver_41 rfl ?_
      obtain ⟨v7, ev7, h⟩ := Option.bind_eq_some_iff.mp h
      refine kv_ldI dX1_spreadOver_43 ev7 ?_
      refine kw_mmin lkX1_105 st_min in_J9 cd_min (by decide) (by decide) (Nat.le_of_ble_eq_true rfl) dX1_spreadOver_44 ?_
      refine kw_istore_n (L' := [some (.ref x0), some (.int x1), some (.int (kp_max x2 v5)), some (.int (kp_min x3 v7)), some (.int x4)]) dX1_spreadOver_47 (by decide) rfl ?_
      exact X1_spreadOver_J48_t G Q hp x0 x1 (kp_max x2 v5) (kp_min x3 v7) x4 _ h hK
def X1_spreadOver_B8 (hp : kw_H) (x0 : Nat) (x1 : Int32) (z : Int32 × Int32 × Int32) : Option (((Int32 × Int32 × Int32) ⊕ (Int32))) := X1_spreadOver_b8 hp x0 x1 z.1 z.2.1 z.2.2
theorem X1_spreadOver_L8_t (G : kw_G) (Q : Option Value → kw_H → Prop) (hp : kw_H) (x0 : Nat) (x1 : Int32) (n : Nat) (z : Int32 × Int32 × Int32) (r : Int32) (h : kp_lp (X1_spreadOver_B8 hp x0 x1) n z = some r) (hK : Q (some (.int r)) hp) : kw_V G mX1_spreadOver 8 [some (.ref x0), some (.int x1), some (.int z.1), some (.int z.2.1), some (.int z.2.2)] [] hp Q :=
  kv_lp _ (fun z => kw_V G mX1_spreadOver 8 [some (.ref x0), some (.int x1), some (.int z.1), some (.int z.2.1), some (.int z.2.2)] [] hp Q) (fun r => Q (some (.int r)) hp) (fun z x hb hx => X1_spreadOver_b8_t G Q hp x0 x1 z.1 z.2.1 z.2.2 x hb (by cases x <;> exact hx)) n z r h hK
def X1_spreadOver_F (hp : kw_H) (x0 : Nat) (x1 : Int32) : Option (Int32) :=
  kp_lp (X1_spreadOver_B8 hp x0 x1) 2000 (nI 0, nI 1000000, nI 0)
set_option maxRecDepth 100000 in
set_option maxHeartbeats 4000000 in
theorem X1_spreadOver_c (G : kw_G) (hp : kw_H) (x0 : Nat) (x1 : Int32) (r : Int32) (h : X1_spreadOver_F hp x0 x1 = some r) : kw_Met G mX1_spreadOver [.ref x0, .int x1] hp (fun v h2 => v = some (.int r) ∧ h2 = hp) := by
  refine kw_met (L := [some (.ref x0), some (.int x1), none, none, none]) (r := 3) (by decide +kernel) (Nat.le_of_ble_eq_true rfl) rfl ?_
  unfold X1_spreadOver_F at h
  obtain ⟨Q, hQ⟩ : ∃ Q : Option Value → kw_H → Prop, Q = (fun v h2 => v = some (.int r) ∧ h2 = hp) := ⟨_, rfl⟩
  have hK : Q (some (.int r)) hp := by rw [hQ]; exact ⟨rfl, rfl⟩
  rw [← hQ]
  clear hQ
  refine kw_iconst (v := nI 0) dX1_spreadOver_0 (by decide) ?_
  refine kw_istore_n (L' := [some (.ref x0), some (.int x1), some (.int (nI 0)), none, none]) dX1_spreadOver_1 (by decide) rfl ?_
  refine kw_ldc (v := nI 1000000) dX1_spreadOver_2 ckX1_99 ?_
  refine kw_istore_n (L' := [some (.ref x0), some (.int x1), some (.int (nI 0)), some (.int (nI 1000000)), none]) dX1_spreadOver_4 (by decide) rfl ?_
  refine kw_iconst (v := nI 0) dX1_spreadOver_5 (by decide) ?_
  refine kw_istore (L' := [some (.ref x0), some (.int x1), some (.int (nI 0)), some (.int (nI 1000000)), some (.int (nI 0))]) dX1_spreadOver_6 (by decide) rfl ?_
  exact X1_spreadOver_L8_t G Q hp x0 x1 _ (nI 0, nI 1000000, nI 0) _ h hK
/-! KitchenWheels$Foreteller.spreadTurnedBy(LKitchenWheels$Kitchen;II)I -/
def X1_spreadTurnedBy_K11 (G : kw_G) (Q : Option Value → kw_H → Prop) (x0 : Nat) (x1 : Nat) (x2 : Int32) (x3 : Int32) (r : (Int32 × kw_H) ⊕ (Int32 × kw_H)) : Prop := match r with
  | .inl z => kw_V G mX1_spreadTurnedBy 11 [some (.ref x0), some (.ref x1), some (.int x2), some (.int x3), some (.int z.1)] [] z.2 Q
  | .inr r => Q (some (.int r.1)) r.2
def X1_spreadTurnedBy_J38 (hp : kw_H) (x0 : Nat) (x1 : Nat) : Option (Int32 × kw_H) :=
  ((kp_ob hp x1 2).bind fun _ => X2_peopleOnIt_F hp x1).bind fun r3 =>
  ((kp_ob hp x0 1).bind fun _ => X1_spreadOver_F hp x0 r3).bind fun r4 =>
  some ((r4, hp))
set_option maxRecDepth 100000 in
set_option maxHeartbeats 4000000 in
theorem X1_spreadTurnedBy_J38_t (G : kw_G) (Q : Option Value → kw_H → Prop) (hp : kw_H) (x0 : Nat) (x1 : Nat) (r : Int32 × kw_H) (h : X1_spreadTurnedBy_J38 hp x0 x1 = some r) (hK : Q (some (.int r.1)) r.2) : kw_V G mX1_spreadTurnedBy 38 [some (.ref x0), some (.ref x1), none, none, none] [] hp Q := by
  unfold X1_spreadTurnedBy_J38 at h
  refine kw_aload_n dX1_spreadTurnedBy_38 rfl ?_
  refine kw_aload_n dX1_spreadTurnedBy_39 rfl ?_
  obtain ⟨r3, er3, h⟩ := Option.bind_eq_some_iff.mp h
  obtain ⟨ur3, eur3, er3⟩ := Option.bind_eq_some_iff.mp er3
  obtain ⟨fsr3, hor3⟩ := kp_ob_inv eur3
  refine kw_callV (As := []) (S := [.ref x0]) kcX2 cbX1_spreadTurnedBy_X2_peopleOnIt lkX1_62 imX2_peopleOnIt seX2_X2_peopleOnIt_X2_peopleOnIt rfl rfl (Nat.le_of_ble_eq_true rfl) dX1_spreadTurnedBy_40 hor3 (X2_peopleOnIt_c G hp x1 _ er3) (fun vv hh hq => ?_)
  rw [hq.1, hq.2]
  show kw_V G mX1_spreadTurnedBy 43 [some (.ref x0), some (.ref x1), none, none, none] [.int r3, .ref x0] hp Q
  obtain ⟨r4, er4, h⟩ := Option.bind_eq_some_iff.mp h
  obtain ⟨ur4, eur4, er4⟩ := Option.bind_eq_some_iff.mp er4
  obtain ⟨fsr4, hor4⟩ := kp_ob_inv eur4
  refine kw_callV (As := [.int r3]) (S := []) kcX1 cbX1_spreadTurnedBy_X1_spreadOver lkX1_92 imX1_spreadOver seX1_X1_spreadOver_X1_spreadOver rfl rfl (Nat.le_of_ble_eq_true rfl) dX1_spreadTurnedBy_43 hor4 (X1_spreadOver_c G hp x0 r3 _ er4) (fun vv hh hq => ?_)
  rw [hq.1, hq.2]
  show kw_V G mX1_spreadTurnedBy 46 [some (.ref x0), some (.ref x1), none, none, none] [.int r4] hp Q
  have h := Option.some.inj h
  subst h
  exact kw_iret rfl dX1_spreadTurnedBy_46 hK
def X1_spreadTurnedBy_b11 (x0 : Nat) (x1 : Nat) (x2 : Int32) (x3 : Int32) (x4 : Int32) (hp : kw_H) : Option (((Int32 × kw_H) ⊕ (Int32 × kw_H))) :=
  (if x2 ≤ x4 then
  (X1_spreadTurnedBy_J38 hp x0 x1).map (fun r => .inr (r))
else
  (kp_gI hp x1 [2] 8).bind fun v6 =>
  ((kp_ob hp x0 1).bind fun _ => X1_countWeek_F hp x0 x1 (v6 + (x4 * x3)) (nI 0)).bind fun r7 =>
  some (.inl (x4 + (nI 1), r7)))
set_option maxRecDepth 100000 in
set_option maxHeartbeats 4000000 in
theorem X1_spreadTurnedBy_b11_t (G : kw_G) (Q : Option Value → kw_H → Prop) (x0 : Nat) (x1 : Nat) (x2 : Int32) (x3 : Int32) (x4 : Int32) (hp : kw_H) (r : ((Int32 × kw_H) ⊕ (Int32 × kw_H))) (h : X1_spreadTurnedBy_b11 x0 x1 x2 x3 x4 hp = some r) (hK : X1_spreadTurnedBy_K11 G Q x0 x1 x2 x3 r) : kw_V G mX1_spreadTurnedBy 11 [some (.ref x0), some (.ref x1), some (.int x2), some (.int x3), some (.int x4)] [] hp Q := by
  unfold X1_spreadTurnedBy_b11 at h
  refine kw_iload dX1_spreadTurnedBy_11 rfl ?_
  refine kw_iload_n dX1_spreadTurnedBy_13 rfl ?_
  refine kw_icmp_ge 38 dX1_spreadTurnedBy_14 (by decide) (fun c8 => ?_) (fun c8 => ?_)
  · have h := (if_pos c8).symm.trans h
    refine kw_mask [true, true, false, false, false] (L' := [some (.ref x0), some (.ref x1), none, none, none]) rfl ?_
    obtain ⟨r5, hr5, hrr5⟩ := Option.map_eq_some_iff.mp h
    subst hrr5
    exact X1_spreadTurnedBy_J38_t G Q hp x0 x1 r5 hr5 hK
  · have h := (if_neg c8).symm.trans h
    refine kw_aload_n dX1_spreadTurnedBy_17 rfl ?_
    refine kw_aload_n dX1_spreadTurnedBy_18 rfl ?_
    refine kw_aload_n dX1_spreadTurnedBy_19 rfl ?_
    obtain ⟨v6, ev6, h⟩ := Option.bind_eq_some_iff.mp h
    refine kv_gI gfX1_29 dX1_spreadTurnedBy_20 ev6 ?_
    refine kw_iload dX1_spreadTurnedBy_23 rfl ?_
    refine kw_iload_n dX1_spreadTurnedBy_25 rfl ?_
    refine kw_imul dX1_spreadTurnedBy_26 ?_
    refine kw_iadd dX1_spreadTurnedBy_27 ?_
    refine kw_iconst (v := nI 0) dX1_spreadTurnedBy_28 (by decide) ?_
    obtain ⟨r7, er7, h⟩ := Option.bind_eq_some_iff.mp h
    obtain ⟨ur7, eur7, er7⟩ := Option.bind_eq_some_iff.mp er7
    obtain ⟨fsr7, hor7⟩ := kp_ob_inv eur7
    refine kw_callV (As := [.ref x1, .int (v6 + (x4 * x3)), .int (nI 0)]) (S := []) kcX1 cbX1_spreadTurnedBy_X1_countWeek lkX1_88 imX1_countWeek seX1_X1_countWeek_X1_countWeek rfl rfl (Nat.le_of_ble_eq_true rfl) dX1_spreadTurnedBy_29 hor7 (X1_countWeek_c G hp x0 x1 (v6 + (x4 * x3)) (nI 0) _ er7) (fun vv hh hq => ?_)
    rw [hq.1, hq.2]
    show kw_V G mX1_spreadTurnedBy 32 [some (.ref x0), some (.ref x1), some (.int x2), some (.int x3), some (.int x4)] [] r7 Q
    refine kv_iinc (w := nI 1) (L' := [some (.ref x0), some (.ref x1), some (.int x2), some (.int x3), some (.int (x4 + (nI 1)))]) dX1_spreadTurnedBy_32 (by decide) rfl (by decide) rfl ?_
    refine kw_goto 11 dX1_spreadTurnedBy_35 (by decide) ?_
    have h := Option.some.inj h
    subst h
    exact hK
def X1_spreadTurnedBy_B11 (x0 : Nat) (x1 : Nat) (x2 : Int32) (x3 : Int32) (z : Int32 × kw_H) : Option (((Int32 × kw_H) ⊕ (Int32 × kw_H))) := X1_spreadTurnedBy_b11 x0 x1 x2 x3 z.1 z.2
theorem X1_spreadTurnedBy_L11_t (G : kw_G) (Q : Option Value → kw_H → Prop) (x0 : Nat) (x1 : Nat) (x2 : Int32) (x3 : Int32) (n : Nat) (z : Int32 × kw_H) (r : Int32 × kw_H) (h : kp_lp (X1_spreadTurnedBy_B11 x0 x1 x2 x3) n z = some r) (hK : Q (some (.int r.1)) r.2) : kw_V G mX1_spreadTurnedBy 11 [some (.ref x0), some (.ref x1), some (.int x2), some (.int x3), some (.int z.1)] [] z.2 Q :=
  kv_lp _ (fun z => kw_V G mX1_spreadTurnedBy 11 [some (.ref x0), some (.ref x1), some (.int x2), some (.int x3), some (.int z.1)] [] z.2 Q) (fun r => Q (some (.int r.1)) r.2) (fun z x hb hx => X1_spreadTurnedBy_b11_t G Q x0 x1 x2 x3 z.1 z.2 x hb (by cases x <;> exact hx)) n z r h hK
def X1_spreadTurnedBy_F (hp : kw_H) (x0 : Nat) (x1 : Nat) (x2 : Int32) (x3 : Int32) : Option (Int32 × kw_H) :=
  (kp_gR hp x0 [1] 1).bind fun v1 =>
  (J7_fill_53178_F hp v1 (nI 0)).bind fun r2 =>
  kp_lp (X1_spreadTurnedBy_B11 x0 x1 x2 x3) 2000 (nI 0, r2)
set_option maxRecDepth 100000 in
set_option maxHeartbeats 4000000 in
theorem X1_spreadTurnedBy_c (G : kw_G) (hp : kw_H) (x0 : Nat) (x1 : Nat) (x2 : Int32) (x3 : Int32) (r : Int32 × kw_H) (h : X1_spreadTurnedBy_F hp x0 x1 x2 x3 = some r) : kw_Met G mX1_spreadTurnedBy [.ref x0, .ref x1, .int x2, .int x3] hp (fun v h2 => v = some (.int r.1) ∧ h2 = r.2) := by
  refine kw_met (L := [some (.ref x0), some (.ref x1), some (.int x2), some (.int x3), none]) (r := 1) (by decide +kernel) (Nat.le_of_ble_eq_true rfl) rfl ?_
  unfold X1_spreadTurnedBy_F at h
  obtain ⟨Q, hQ⟩ : ∃ Q : Option Value → kw_H → Prop, Q = (fun v h2 => v = some (.int r.1) ∧ h2 = r.2) := ⟨_, rfl⟩
  have hK : Q (some (.int r.1)) r.2 := by rw [hQ]; exact ⟨rfl, rfl⟩
  rw [← hQ]
  clear hQ
  refine kw_aload_n dX1_spreadTurnedBy_0 rfl ?_
  obtain ⟨v1, ev1, h⟩ := Option.bind_eq_some_iff.mp h
  refine kv_gR gfX1_18 dX1_spreadTurnedBy_1 ev1 ?_
  refine kw_iconst (v := nI 0) dX1_spreadTurnedBy_4 (by decide) ?_
  obtain ⟨r2, er2, h⟩ := Option.bind_eq_some_iff.mp h
  refine kw_callS (As := [.ref v1, .int (nI 0)]) (S := []) cbX1_spreadTurnedBy_J7_fill_53178 lkX1_69 stJ7_fill_53178 rfl rfl (Nat.le_of_ble_eq_true rfl) dX1_spreadTurnedBy_5 (J7_fill_53178_c G hp v1 (nI 0) _ er2) (fun vv hh hq => ?_)
  rw [hq.1, hq.2]
  show kw_V G mX1_spreadTurnedBy 8 [some (.ref x0), some (.ref x1), some (.int x2), some (.int x3), none] [] r2 Q
  refine kw_iconst (v := nI 0) dX1_spreadTurnedBy_8 (by decide) ?_
  refine kw_istore (L' := [some (.ref x0), some (.ref x1), some (.int x2), some (.int x3), some (.int (nI 0))]) dX1_spreadTurnedBy_9 (by decide) rfl ?_
  exact X1_spreadTurnedBy_L11_t G Q x0 x1 x2 x3 _ (nI 0, r2) _ h hK
/-! KitchenWheels$Foreteller.fairestTurn(LKitchenWheels$Kitchen;I)I -/
def X1_fairestTurn_K14 (G : kw_G) (Q : Option Value → kw_H → Prop) (x0 : Nat) (x1 : Nat) (x2 : Int32) (r : (Int32 × Int32 × Int32 × kw_H) ⊕ (Int32 × kw_H)) : Prop := match r with
  | .inl z => kw_V G mX1_fairestTurn 14 [some (.ref x0), some (.ref x1), some (.int x2), some (.int z.1), some (.int z.2.1), some (.int z.2.2.1), none] [] z.2.2.2 Q
  | .inr r => Q (some (.int r.1)) r.2
def X1_fairestTurn_J51 (hp : kw_H) (x3 : Int32) : Option (Int32 × kw_H) :=
  some ((x3, hp))
set_option maxRecDepth 100000 in
set_option maxHeartbeats 4000000 in
theorem X1_fairestTurn_J51_t (G : kw_G) (Q : Option Value → kw_H → Prop) (hp : kw_H) (x3 : Int32) (r : Int32 × kw_H) (h : X1_fairestTurn_J51 hp x3 = some r) (hK : Q (some (.int r.1)) r.2) : kw_V G mX1_fairestTurn 51 [none, none, none, some (.int x3), none, none, none] [] hp Q := by
  unfold X1_fairestTurn_J51 at h
  refine kw_iload_n dX1_fairestTurn_51 rfl ?_
  have h := Option.some.inj h
  subst h
  exact kw_iret rfl dX1_fairestTurn_52 hK
def X1_fairestTurn_J45 (hp : kw_H) (x0 : Nat) (x1 : Nat) (x2 : Int32) (x3 : Int32) (x4 : Int32) (x5 : Int32) : Option (((Int32 × Int32 × Int32 × kw_H) ⊕ (Int32 × kw_H))) :=
  some (.inl (x3, x4, x5 + (nI 1), hp))
set_option maxRecDepth 100000 in
set_option maxHeartbeats 4000000 in
theorem X1_fairestTurn_J45_t (G : kw_G) (Q : Option Value → kw_H → Prop) (hp : kw_H) (x0 : Nat) (x1 : Nat) (x2 : Int32) (x3 : Int32) (x4 : Int32) (x5 : Int32) (r : ((Int32 × Int32 × Int32 × kw_H) ⊕ (Int32 × kw_H))) (h : X1_fairestTurn_J45 hp x0 x1 x2 x3 x4 x5 = some r) (hK : X1_fairestTurn_K14 G Q x0 x1 x2 r) : kw_V G mX1_fairestTurn 45 [some (.ref x0), some (.ref x1), some (.int x2), some (.int x3), some (.int x4), some (.int x5), none] [] hp Q := by
  unfold X1_fairestTurn_J45 at h
  refine kv_iinc (w := nI 1) (L' := [some (.ref x0), some (.ref x1), some (.int x2), some (.int x3), some (.int x4), some (.int (x5 + (nI 1))), none]) dX1_fairestTurn_45 (by decide) rfl (by decide) rfl ?_
  refine kw_goto 14 dX1_fairestTurn_48 (by decide) ?_
  have h := Option.some.inj h
  subst h
  exact hK
def X1_fairestTurn_b14 (x0 : Nat) (x1 : Nat) (x2 : Int32) (x3 : Int32) (x4 : Int32) (x5 : Int32) (hp : kw_H) : Option (((Int32 × Int32 × Int32 × kw_H) ⊕ (Int32 × kw_H))) :=
  (if (nI 8) < x5 then
  (X1_fairestTurn_J51 hp x3).map (fun r => .inr (r))
else
  ((kp_ob hp x0 1).bind fun _ => X1_spreadTurnedBy_F hp x0 x1 x2 x5).bind fun r3 =>
  (if x4 ≤ r3.1 then
  X1_fairestTurn_J45 r3.2 x0 x1 x2 x3 x4 x5
else
  X1_fairestTurn_J45 r3.2 x0 x1 x2 x5 r3.1 x5))
set_option maxRecDepth 100000 in
set_option maxHeartbeats 4000000 in
theorem X1_fairestTurn_b14_t (G : kw_G) (Q : Option Value → kw_H → Prop) (x0 : Nat) (x1 : Nat) (x2 : Int32) (x3 : Int32) (x4 : Int32) (x5 : Int32) (hp : kw_H) (r : ((Int32 × Int32 × Int32 × kw_H) ⊕ (Int32 × kw_H))) (h : X1_fairestTurn_b14 x0 x1 x2 x3 x4 x5 hp = some r) (hK : X1_fairestTurn_K14 G Q x0 x1 x2 r) : kw_V G mX1_fairestTurn 14 [some (.ref x0), some (.ref x1), some (.int x2), some (.int x3), some (.int x4), some (.int x5), none] [] hp Q := by
  unfold X1_fairestTurn_b14 at h
  refine kw_iload dX1_fairestTurn_14 rfl ?_
  refine kw_bipush (v := nI 8) dX1_fairestTurn_16 (by decide) ?_
  refine kw_icmp_gt 51 dX1_fairestTurn_18 (by decide) (fun c5 => ?_) (fun c5 => ?_)
  · have h := (if_pos c5).symm.trans h
    refine kw_mask [false, false, false, true, false, false, true] (L' := [none, none, none, some (.int x3), none, none, none]) rfl ?_
    obtain ⟨r2, hr2, hrr2⟩ := Option.map_eq_some_iff.mp h
    subst hrr2
    exact X1_fairestTurn_J51_t G Q hp x3 r2 hr2 hK
  · have h := (if_neg c5).symm.trans h
    refine kw_aload_n dX1_fairestTurn_21 rfl ?_
    refine kw_aload_n dX1_fairestTurn_22 rfl ?_
    refine kw_iload_n dX1_fairestTurn_23 rfl ?_
    refine kw_iload dX1_fairestTurn_24 rfl ?_
    obtain ⟨r3, er3, h⟩ := Option.bind_eq_some_iff.mp h
    obtain ⟨ur3, eur3, er3⟩ := Option.bind_eq_some_iff.mp er3
    obtain ⟨fsr3, hor3⟩ := kp_ob_inv eur3
    refine kw_callV (As := [.ref x1, .int x2, .int x5]) (S := []) kcX1 cbX1_fairestTurn_X1_spreadTurnedBy lkX1_84 imX1_spreadTurnedBy seX1_X1_spreadTurnedBy_X1_spreadTurnedBy rfl rfl (Nat.le_of_ble_eq_true rfl) dX1_fairestTurn_26 hor3 (X1_spreadTurnedBy_c G hp x0 x1 x2 x5 _ er3) (fun vv hh hq => ?_)
    rw [hq.1, hq.2]
    show kw_V G mX1_fairestTurn 29 [some (.ref x0), some (.ref x1), some (.int x2), some (.int x3), some (.int x4), some (.int x5), none] [.int r3.1] r3.2 Q
    refine kw_istore (L' := [some (.ref x0), some (.ref x1), some (.int x2), some (.int x3), some (.int x4), some (.int x5), some (.int r3.1)]) dX1_fairestTurn_29 (by decide) rfl ?_
    refine kw_iload dX1_fairestTurn_31 rfl ?_
    refine kw_iload dX1_fairestTurn_33 rfl ?_
    refine kw_icmp_ge 45 dX1_fairestTurn_35 (by decide) (fun c4 => ?_) (fun c4 => ?_)
    · have h := (if_pos c4).symm.trans h
      refine kw_mask [true, true, true, true, true, true, false] (L' := [some (.ref x0), some (.ref x1), some (.int x2), some (.int x3), some (.int x4), some (.int x5), none]) rfl ?_
      exact X1_fairestTurn_J45_t G Q r3.2 x0 x1 x2 x3 x4 x5 _ h hK
    · have h := (if_neg c4).symm.trans h
      refine kw_iload dX1_fairestTurn_38 rfl ?_
      refine kw_istore (L' := [some (.ref x0), some (.ref x1), some (.int x2), some (.int x3), some (.int r3.1), some (.int x5), some (.int r3.1)]) dX1_fairestTurn_40 (by decide) rfl ?_
      refine kw_iload dX1_fairestTurn_42 rfl ?_
      refine kw_istore_n (L' := [some (.ref x0), some (.ref x1), some (.int x2), some (.int x5), some (.int r3.1), some (.int x5), some (.int r3.1)]) dX1_fairestTurn_44 (by decide) rfl ?_
      refine kw_mask [true, true, true, true, true, true, false] (L' := [some (.ref x0), some (.ref x1), some (.int x2), some (.int x5), some (.int r3.1), some (.int x5), none]) rfl ?_
      exact X1_fairestTurn_J45_t G Q r3.2 x0 x1 x2 x5 r3.1 x5 _ h hK
def X1_fairestTurn_B14 (x0 : Nat) (x1 : Nat) (x2 : Int32) (z : Int32 × Int32 × Int32 × kw_H) : Option (((Int32 × Int32 × Int32 × kw_H) ⊕ (Int32 × kw_H))) := X1_fairestTurn_b14 x0 x1 x2 z.1 z.2.1 z.2.2.1 z.2.2.2
theorem X1_fairestTurn_L14_t (G : kw_G) (Q : Option Value → kw_H → Prop) (x0 : Nat) (x1 : Nat) (x2 : Int32) (n : Nat) (z : Int32 × Int32 × Int32 × kw_H) (r : Int32 × kw_H) (h : kp_lp (X1_fairestTurn_B14 x0 x1 x2) n z = some r) (hK : Q (some (.int r.1)) r.2) : kw_V G mX1_fairestTurn 14 [some (.ref x0), some (.ref x1), some (.int x2), some (.int z.1), some (.int z.2.1), some (.int z.2.2.1), none] [] z.2.2.2 Q :=
  kv_lp _ (fun z => kw_V G mX1_fairestTurn 14 [some (.ref x0), some (.ref x1), some (.int x2), some (.int z.1), some (.int z.2.1), some (.int z.2.2.1), none] [] z.2.2.2 Q) (fun r => Q (some (.int r.1)) r.2) (fun z x hb hx => X1_fairestTurn_b14_t G Q x0 x1 x2 z.1 z.2.1 z.2.2.1 z.2.2.2 x hb (by cases x <;> exact hx)) n z r h hK
def X1_fairestTurn_F (hp : kw_H) (x0 : Nat) (x1 : Nat) (x2 : Int32) : Option (Int32 × kw_H) :=
  ((kp_ob hp x0 1).bind fun _ => X1_spreadTurnedBy_F hp x0 x1 x2 (nI 1)).bind fun r1 =>
  kp_lp (X1_fairestTurn_B14 x0 x1 x2) 2000 (nI 1, r1.1, nI 2, r1.2)
set_option maxRecDepth 100000 in
set_option maxHeartbeats 4000000 in
theorem X1_fairestTurn_c (G : kw_G) (hp : kw_H) (x0 : Nat) (x1 : Nat) (x2 : Int32) (r : Int32 × kw_H) (h : X1_fairestTurn_F hp x0 x1 x2 = some r) : kw_Met G mX1_fairestTurn [.ref x0, .ref x1, .int x2] hp (fun v h2 => v = some (.int r.1) ∧ h2 = r.2) := by
  refine kw_met (L := [some (.ref x0), some (.ref x1), some (.int x2), none, none, none, none]) (r := 4) (by decide +kernel) (Nat.le_of_ble_eq_true rfl) rfl ?_
  unfold X1_fairestTurn_F at h
  obtain ⟨Q, hQ⟩ : ∃ Q : Option Value → kw_H → Prop, Q = (fun v h2 => v = some (.int r.1) ∧ h2 = r.2) := ⟨_, rfl⟩
  have hK : Q (some (.int r.1)) r.2 := by rw [hQ]; exact ⟨rfl, rfl⟩
  rw [← hQ]
  clear hQ
  refine kw_iconst (v := nI 1) dX1_fairestTurn_0 (by decide) ?_
  refine kw_istore_n (L' := [some (.ref x0), some (.ref x1), some (.int x2), some (.int (nI 1)), none, none, none]) dX1_fairestTurn_1 (by decide) rfl ?_
  refine kw_aload_n dX1_fairestTurn_2 rfl ?_
  refine kw_aload_n dX1_fairestTurn_3 rfl ?_
  refine kw_iload_n dX1_fairestTurn_4 rfl ?_
  refine kw_iload_n dX1_fairestTurn_5 rfl ?_
  obtain ⟨r1, er1, h⟩ := Option.bind_eq_some_iff.mp h
  obtain ⟨ur1, eur1, er1⟩ := Option.bind_eq_some_iff.mp er1
  obtain ⟨fsr1, hor1⟩ := kp_ob_inv eur1
  refine kw_callV (As := [.ref x1, .int x2, .int (nI 1)]) (S := []) kcX1 cbX1_fairestTurn_X1_spreadTurnedBy lkX1_84 imX1_spreadTurnedBy seX1_X1_spreadTurnedBy_X1_spreadTurnedBy rfl rfl (Nat.le_of_ble_eq_true rfl) dX1_fairestTurn_6 hor1 (X1_spreadTurnedBy_c G hp x0 x1 x2 (nI 1) _ er1) (fun vv hh hq => ?_)
  rw [hq.1, hq.2]
  show kw_V G mX1_fairestTurn 9 [some (.ref x0), some (.ref x1), some (.int x2), some (.int (nI 1)), none, none, none] [.int r1.1] r1.2 Q
  refine kw_istore (L' := [some (.ref x0), some (.ref x1), some (.int x2), some (.int (nI 1)), some (.int r1.1), none, none]) dX1_fairestTurn_9 (by decide) rfl ?_
  refine kw_iconst (v := nI 2) dX1_fairestTurn_11 (by decide) ?_
  refine kw_istore (L' := [some (.ref x0), some (.ref x1), some (.int x2), some (.int (nI 1)), some (.int r1.1), some (.int (nI 2)), none]) dX1_fairestTurn_12 (by decide) rfl ?_
  exact X1_fairestTurn_L14_t G Q x0 x1 x2 _ (nI 1, r1.1, nI 2, r1.2) _ h hK
/-! KitchenWheels$Foreteller.spreadAsTurned(LKitchenWheels$Kitchen;I)I -/
def X1_spreadAsTurned_K16 (G : kw_G) (Q : Option Value → kw_H → Prop) (x0 : Nat) (x1 : Nat) (x2 : Int32) (r : (Int32 × Int32 × kw_H) ⊕ (Int32 × kw_H)) : Prop := match r with
  | .inl z => kw_V G mX1_spreadAsTurned 16 [some (.ref x0), some (.ref x1), some (.int x2), some (.int z.1), some (.int z.2.1)] [] z.2.2 Q
  | .inr r => Q (some (.int r.1)) r.2
def X1_spreadAsTurned_J53 (hp : kw_H) (x0 : Nat) (x1 : Nat) : Option (Int32 × kw_H) :=
  ((kp_ob hp x1 2).bind fun _ => X2_peopleOnIt_F hp x1).bind fun r4 =>
  ((kp_ob hp x0 1).bind fun _ => X1_spreadOver_F hp x0 r4).bind fun r5 =>
  some ((r5, hp))
set_option maxRecDepth 100000 in
set_option maxHeartbeats 4000000 in
theorem X1_spreadAsTurned_J53_t (G : kw_G) (Q : Option Value → kw_H → Prop) (hp : kw_H) (x0 : Nat) (x1 : Nat) (r : Int32 × kw_H) (h : X1_spreadAsTurned_J53 hp x0 x1 = some r) (hK : Q (some (.int r.1)) r.2) : kw_V G mX1_spreadAsTurned 53 [some (.ref x0), some (.ref x1), none, none, none] [] hp Q := by
  unfold X1_spreadAsTurned_J53 at h
  refine kw_aload_n dX1_spreadAsTurned_53 rfl ?_
  refine kw_aload_n dX1_spreadAsTurned_54 rfl ?_
  obtain ⟨r4, er4, h⟩ := Option.bind_eq_some_iff.mp h
  obtain ⟨ur4, eur4, er4⟩ := Option.bind_eq_some_iff.mp er4
  obtain ⟨fsr4, hor4⟩ := kp_ob_inv eur4
  refine kw_callV (As := []) (S := [.ref x0]) kcX2 cbX1_spreadAsTurned_X2_peopleOnIt lkX1_62 imX2_peopleOnIt seX2_X2_peopleOnIt_X2_peopleOnIt rfl rfl (Nat.le_of_ble_eq_true rfl) dX1_spreadAsTurned_55 hor4 (X2_peopleOnIt_c G hp x1 _ er4) (fun vv hh hq => ?_)
  rw [hq.1, hq.2]
  show kw_V G mX1_spreadAsTurned 58 [some (.ref x0), some (.ref x1), none, none, none] [.int r4, .ref x0] hp Q
  obtain ⟨r5, er5, h⟩ := Option.bind_eq_some_iff.mp h
  obtain ⟨ur5, eur5, er5⟩ := Option.bind_eq_some_iff.mp er5
  obtain ⟨fsr5, hor5⟩ := kp_ob_inv eur5
  refine kw_callV (As := [.int r4]) (S := []) kcX1 cbX1_spreadAsTurned_X1_spreadOver lkX1_92 imX1_spreadOver seX1_X1_spreadOver_X1_spreadOver rfl rfl (Nat.le_of_ble_eq_true rfl) dX1_spreadAsTurned_58 hor5 (X1_spreadOver_c G hp x0 r4 _ er5) (fun vv hh hq => ?_)
  rw [hq.1, hq.2]
  show kw_V G mX1_spreadAsTurned 61 [some (.ref x0), some (.ref x1), none, none, none] [.int r5] hp Q
  have h := Option.some.inj h
  subst h
  exact kw_iret rfl dX1_spreadAsTurned_61 hK
def X1_spreadAsTurned_b16 (x0 : Nat) (x1 : Nat) (x2 : Int32) (x3 : Int32) (x4 : Int32) (hp : kw_H) : Option (((Int32 × Int32 × kw_H) ⊕ (Int32 × kw_H))) :=
  (if x2 ≤ x4 then
  (X1_spreadAsTurned_J53 hp x0 x1).map (fun r => .inr (r))
else
  ((kp_ob hp x1 2).bind fun _ => X2_awayBehind_F hp x1 x4).bind fun r7 =>
  ((kp_ob hp x0 1).bind fun _ => X1_countWeek_F hp x0 x1 x3 r7).bind fun r8 =>
  (kp_gI r8 x1 [2] 7).bind fun v9 =>
  ((kp_ob r8 x1 2).bind fun _ => X2_turnedNext_F r8 x1 x3 (v9 + x4)).bind fun r10 =>
  some (.inl (r10, x4 + (nI 1), r8)))
set_option maxRecDepth 100000 in
set_option maxHeartbeats 4000000 in
theorem X1_spreadAsTurned_b16_t (G : kw_G) (Q : Option Value → kw_H → Prop) (x0 : Nat) (x1 : Nat) (x2 : Int32) (x3 : Int32) (x4 : Int32) (hp : kw_H) (r : ((Int32 × Int32 × kw_H) ⊕ (Int32 × kw_H))) (h : X1_spreadAsTurned_b16 x0 x1 x2 x3 x4 hp = some r) (hK : X1_spreadAsTurned_K16 G Q x0 x1 x2 r) : kw_V G mX1_spreadAsTurned 16 [some (.ref x0), some (.ref x1), some (.int x2), some (.int x3), some (.int x4)] [] hp Q := by
  unfold X1_spreadAsTurned_b16 at h
  refine kw_iload dX1_spreadAsTurned_16 rfl ?_
  refine kw_iload_n dX1_spreadAsTurned_18 rfl ?_
  refine kw_icmp_ge 53 dX1_spreadAsTurned_19 (by decide) (fun c11 => ?_) (fun c11 => ?_)
  · have h := (if_pos c11).symm.trans h
    refine kw_mask [true, true, false, false, false] (L' := [some (.ref x0), some (.ref x1), none, none, none]) rfl ?_
    obtain ⟨r6, hr6, hrr6⟩ := Option.map_eq_some_iff.mp h
    subst hrr6
    exact X1_spreadAsTurned_J53_t G Q hp x0 x1 r6 hr6 hK
  · have h := (if_neg c11).symm.trans h
    refine kw_aload_n dX1_spreadAsTurned_22 rfl ?_
    refine kw_aload_n dX1_spreadAsTurned_23 rfl ?_
    refine kw_iload_n dX1_spreadAsTurned_24 rfl ?_
    refine kw_aload_n dX1_spreadAsTurned_25 rfl ?_
    refine kw_iload dX1_spreadAsTurned_26 rfl ?_
    obtain ⟨r7, er7, h⟩ := Option.bind_eq_some_iff.mp h
    obtain ⟨ur7, eur7, er7⟩ := Option.bind_eq_some_iff.mp er7
    obtain ⟨fsr7, hor7⟩ := kp_ob_inv eur7
    refine kw_callV (As := [.int x4]) (S := [.int x3, .ref x1, .ref x0]) kcX2 cbX1_spreadAsTurned_X2_awayBehind lkX1_40 imX2_awayBehind seX2_X2_awayBehind_X2_awayBehind rfl rfl (Nat.le_of_ble_eq_true rfl) dX1_spreadAsTurned_28 hor7 (X2_awayBehind_c G hp x1 x4 _ er7) (fun vv hh hq => ?_)
    rw [hq.1, hq.2]
    show kw_V G mX1_spreadAsTurned 31 [some (.ref x0), some (.ref x1), some (.int x2), some (.int x3), some (.int x4)] [.int r7, .int x3, .ref x1, .ref x0] hp Q
    obtain ⟨r8, er8, h⟩ := Option.bind_eq_some_iff.mp h
    obtain ⟨ur8, eur8, er8⟩ := Option.bind_eq_some_iff.mp er8
    obtain ⟨fsr8, hor8⟩ := kp_ob_inv eur8
    refine kw_callV (As := [.ref x1, .int x3, .int r7]) (S := []) kcX1 cbX1_spreadAsTurned_X1_countWeek lkX1_88 imX1_countWeek seX1_X1_countWeek_X1_countWeek rfl rfl (Nat.le_of_ble_eq_true rfl) dX1_spreadAsTurned_31 hor8 (X1_countWeek_c G hp x0 x1 x3 r7 _ er8) (fun vv hh hq => ?_)
    rw [hq.1, hq.2]
    show kw_V G mX1_spreadAsTurned 34 [some (.ref x0), some (.ref x1), some (.int x2), some (.int x3), some (.int x4)] [] r8 Q
    refine kw_aload_n dX1_spreadAsTurned_34 rfl ?_
    refine kw_iload_n dX1_spreadAsTurned_35 rfl ?_
    refine kw_aload_n dX1_spreadAsTurned_36 rfl ?_
    obtain ⟨v9, ev9, h⟩ := Option.bind_eq_some_iff.mp h
    refine kv_gI gfX1_48 dX1_spreadAsTurned_37 ev9 ?_
    refine kw_iload dX1_spreadAsTurned_40 rfl ?_
    refine kw_iadd dX1_spreadAsTurned_42 ?_
    obtain ⟨r10, er10, h⟩ := Option.bind_eq_some_iff.mp h
    obtain ⟨ur10, eur10, er10⟩ := Option.bind_eq_some_iff.mp er10
    obtain ⟨fsr10, hor10⟩ := kp_ob_inv eur10
    refine kw_callV (As := [.int x3, .int (v9 + x4)]) (S := []) kcX2 cbX1_spreadAsTurned_X2_turnedNext lkX1_51 imX2_turnedNext seX2_X2_turnedNext_X2_turnedNext rfl rfl (Nat.le_of_ble_eq_true rfl) dX1_spreadAsTurned_43 hor10 (X2_turnedNext_c G r8 x1 x3 (v9 + x4) _ er10) (fun vv hh hq => ?_)
    rw [hq.1, hq.2]
    show kw_V G mX1_spreadAsTurned 46 [some (.ref x0), some (.ref x1), some (.int x2), some (.int x3), some (.int x4)] [.int r10] r8 Q
    refine kw_istore_n (L' := [some (.ref x0), some (.ref x1), some (.int x2), some (.int r10), some (.int x4)]) dX1_spreadAsTurned_46 (by decide) rfl ?_
    refine kv_iinc (w := nI 1) (L' := [some (.ref x0), some (.ref x1), some (.int x2), some (.int r10), some (.int (x4 + (nI 1)))]) dX1_spreadAsTurned_47 (by decide) rfl (by decide) rfl ?_
    refine kw_goto 16 dX1_spreadAsTurned_50 (by decide) ?_
    have h := Option.some.inj h
    subst h
    exact hK
def X1_spreadAsTurned_B16 (x0 : Nat) (x1 : Nat) (x2 : Int32) (z : Int32 × Int32 × kw_H) : Option (((Int32 × Int32 × kw_H) ⊕ (Int32 × kw_H))) := X1_spreadAsTurned_b16 x0 x1 x2 z.1 z.2.1 z.2.2
theorem X1_spreadAsTurned_L16_t (G : kw_G) (Q : Option Value → kw_H → Prop) (x0 : Nat) (x1 : Nat) (x2 : Int32) (n : Nat) (z : Int32 × Int32 × kw_H) (r : Int32 × kw_H) (h : kp_lp (X1_spreadAsTurned_B16 x0 x1 x2) n z = some r) (hK : Q (some (.int r.1)) r.2) : kw_V G mX1_spreadAsTurned 16 [some (.ref x0), some (.ref x1), some (.int x2), some (.int z.1), some (.int z.2.1)] [] z.2.2 Q :=
  kv_lp _ (fun z => kw_V G mX1_spreadAsTurned 16 [some (.ref x0), some (.ref x1), some (.int x2), some (.int z.1), some (.int z.2.1)] [] z.2.2 Q) (fun r => Q (some (.int r.1)) r.2) (fun z x hb hx => X1_spreadAsTurned_b16_t G Q x0 x1 x2 z.1 z.2.1 z.2.2 x hb (by cases x <;> exact hx)) n z r h hK
def X1_spreadAsTurned_F (hp : kw_H) (x0 : Nat) (x1 : Nat) (x2 : Int32) : Option (Int32 × kw_H) :=
  (kp_gR hp x0 [1] 1).bind fun v1 =>
  (J7_fill_53178_F hp v1 (nI 0)).bind fun r2 =>
  (kp_gI r2 x1 [2] 8).bind fun v3 =>
  kp_lp (X1_spreadAsTurned_B16 x0 x1 x2) 2000 (v3, nI 0, r2)
set_option maxRecDepth 100000 in
set_option maxHeartbeats 4000000 in
theorem X1_spreadAsTurned_c (G : kw_G) (hp : kw_H) (x0 : Nat) (x1 : Nat) (x2 : Int32) (r : Int32 × kw_H) (h : X1_spreadAsTurned_F hp x0 x1 x2 = some r) : kw_Met G mX1_spreadAsTurned [.ref x0, .ref x1, .int x2] hp (fun v h2 => v = some (.int r.1) ∧ h2 = r.2) := by
  refine kw_met (L := [some (.ref x0), some (.ref x1), some (.int x2), none, none]) (r := 2) (by decide +kernel) (Nat.le_of_ble_eq_true rfl) rfl ?_
  unfold X1_spreadAsTurned_F at h
  obtain ⟨Q, hQ⟩ : ∃ Q : Option Value → kw_H → Prop, Q = (fun v h2 => v = some (.int r.1) ∧ h2 = r.2) := ⟨_, rfl⟩
  have hK : Q (some (.int r.1)) r.2 := by rw [hQ]; exact ⟨rfl, rfl⟩
  rw [← hQ]
  clear hQ
  refine kw_aload_n dX1_spreadAsTurned_0 rfl ?_
  obtain ⟨v1, ev1, h⟩ := Option.bind_eq_some_iff.mp h
  refine kv_gR gfX1_18 dX1_spreadAsTurned_1 ev1 ?_
  refine kw_iconst (v := nI 0) dX1_spreadAsTurned_4 (by decide) ?_
  obtain ⟨r2, er2, h⟩ := Option.bind_eq_some_iff.mp h
  refine kw_callS (As := [.ref v1, .int (nI 0)]) (S := []) cbX1_spreadAsTurned_J7_fill_53178 lkX1_69 stJ7_fill_53178 rfl rfl (Nat.le_of_ble_eq_true rfl) dX1_spreadAsTurned_5 (J7_fill_53178_c G hp v1 (nI 0) _ er2) (fun vv hh hq => ?_)
  rw [hq.1, hq.2]
  show kw_V G mX1_spreadAsTurned 8 [some (.ref x0), some (.ref x1), some (.int x2), none, none] [] r2 Q
  refine kw_aload_n dX1_spreadAsTurned_8 rfl ?_
  obtain ⟨v3, ev3, h⟩ := Option.bind_eq_some_iff.mp h
  refine kv_gI gfX1_29 dX1_spreadAsTurned_9 ev3 ?_
  refine kw_istore_n (L' := [some (.ref x0), some (.ref x1), some (.int x2), some (.int v3), none]) dX1_spreadAsTurned_12 (by decide) rfl ?_
  refine kw_iconst (v := nI 0) dX1_spreadAsTurned_13 (by decide) ?_
  refine kw_istore (L' := [some (.ref x0), some (.ref x1), some (.int x2), some (.int v3), some (.int (nI 0))]) dX1_spreadAsTurned_14 (by decide) rfl ?_
  exact X1_spreadAsTurned_L16_t G Q x0 x1 x2 _ (v3, nI 0, r2) _ h hK
/-! KitchenWheels$Foreteller.swapNames(II)V -/
def X1_swapNames_F (hp : kw_H) (x0 : Nat) (x1 : Int32) (x2 : Int32) : Option (kw_H) :=
  (X11_within_F hp x1 (nI 0) (nI 7)).bind fun r1 =>
  (if r1 = 0 then
  some (hp)
else
  (X11_within_F hp x2 (nI 0) (nI 7)).bind fun r2 =>
  (if r2 = 0 then
  some (hp)
else
  (kp_gR hp x0 [1] 0).bind fun v3 =>
  (kp_gR hp v3 [2] 0).bind fun v4 =>
  (kp_ldI hp v4 x1).bind fun v5 =>
  (kp_gR hp x0 [1] 0).bind fun v6 =>
  (kp_gR hp v6 [2] 0).bind fun v7 =>
  (kp_gR hp x0 [1] 0).bind fun v8 =>
  (kp_gR hp v8 [2] 0).bind fun v9 =>
  (kp_ldI hp v9 x2).bind fun v10 =>
  (kp_stI hp v7 x1 v10).bind fun hp11 =>
  (kp_gR hp11 x0 [1] 0).bind fun v12 =>
  (kp_gR hp11 v12 [2] 0).bind fun v13 =>
  (kp_stI hp11 v13 x2 v5).bind fun hp14 =>
  some (hp14)))
set_option maxRecDepth 100000 in
set_option maxHeartbeats 4000000 in
theorem X1_swapNames_c (G : kw_G) (hp : kw_H) (x0 : Nat) (x1 : Int32) (x2 : Int32) (r : kw_H) (h : X1_swapNames_F hp x0 x1 x2 = some r) : kw_Met G mX1_swapNames [.ref x0, .int x1, .int x2] hp (fun v h2 => v = none ∧ h2 = r) := by
  refine kw_met (L := [some (.ref x0), some (.int x1), some (.int x2), none]) (r := 1) (by decide +kernel) (Nat.le_of_ble_eq_true rfl) rfl ?_
  unfold X1_swapNames_F at h
  obtain ⟨Q, hQ⟩ : ∃ Q : Option Value → kw_H → Prop, Q = (fun v h2 => v = none ∧ h2 = r) := ⟨_, rfl⟩
  have hK : Q none r := by rw [hQ]; exact ⟨rfl, rfl⟩
  rw [← hQ]
  clear hQ
  refine kw_iload_n dX1_swapNames_0 rfl ?_
  refine kw_iconst (v := nI 0) dX1_swapNames_1 (by decide) ?_
  refine kw_bipush (v := nI 7) dX1_swapNames_2 (by decide) ?_
  obtain ⟨r1, er1, h⟩ := Option.bind_eq_some_iff.mp h
  refine kw_callSN (As := [.int x1, .int (nI 0), .int (nI 7)]) (S := []) cbX1_swapNames_X11_within lnX1_119 stX11_within rfl rfl (Nat.le_of_ble_eq_true rfl) dX1_swapNames_4 (X11_within_c G hp x1 (nI 0) (nI 7) _ er1) (fun vv hh hq => ?_)
  rw [hq.1, hq.2]
  show kw_V G mX1_swapNames 7 [some (.ref x0), some (.int x1), some (.int x2), none] [.int r1] hp Q
  refine kw_if_eq 58 dX1_swapNames_7 (by decide) (fun c16 => ?_) (fun c16 => ?_)
  · have h := (if_pos c16).symm.trans h
    have h := Option.some.inj h
    subst h
    exact kw_vret rfl dX1_swapNames_58 hK
  · have h := (if_neg c16).symm.trans h
    refine kw_iload_n dX1_swapNames_10 rfl ?_
    refine kw_iconst (v := nI 0) dX1_swapNames_11 (by decide) ?_
    refine kw_bipush (v := nI 7) dX1_swapNames_12 (by decide) ?_
    obtain ⟨r2, er2, h⟩ := Option.bind_eq_some_iff.mp h
    refine kw_callSN (As := [.int x2, .int (nI 0), .int (nI 7)]) (S := []) cbX1_swapNames_X11_within lnX1_119 stX11_within rfl rfl (Nat.le_of_ble_eq_true rfl) dX1_swapNames_14 (X11_within_c G hp x2 (nI 0) (nI 7) _ er2) (fun vv hh hq => ?_)
    rw [hq.1, hq.2]
    show kw_V G mX1_swapNames 17 [some (.ref x0), some (.int x1), some (.int x2), none] [.int r2] hp Q
    refine kw_if_eq 58 dX1_swapNames_17 (by decide) (fun c15 => ?_) (fun c15 => ?_)
    · have h := (if_pos c15).symm.trans h
      have h := Option.some.inj h
      subst h
      exact kw_vret rfl dX1_swapNames_58 hK
    · have h := (if_neg c15).symm.trans h
      refine kw_aload_n dX1_swapNames_20 rfl ?_
      obtain ⟨v3, ev3, h⟩ := Option.bind_eq_some_iff.mp h
      refine kv_gR gfX1_12 dX1_swapNames_21 ev3 ?_
      obtain ⟨v4, ev4, h⟩ := Option.bind_eq_some_iff.mp h
      refine kv_gR gfX1_123 dX1_swapNames_24 ev4 ?_
      refine kw_iload_n dX1_swapNames_27 rfl ?_
      obtain ⟨v5, ev5, h⟩ := Option.bind_eq_some_iff.mp h
      refine kv_ldI dX1_swapNames_28 ev5 ?_
      refine kw_istore_n (L' := [some (.ref x0), some (.int x1), some (.int x2), some (.int v5)]) dX1_swapNames_29 (by decide) rfl ?_
      refine kw_aload_n dX1_swapNames_30 rfl ?_
      obtain ⟨v6, ev6, h⟩ := Option.bind_eq_some_iff.mp h
      refine kv_gR gfX1_12 dX1_swapNames_31 ev6 ?_
      obtain ⟨v7, ev7, h⟩ := Option.bind_eq_some_iff.mp h
      refine kv_gR gfX1_123 dX1_swapNames_34 ev7 ?_
      refine kw_iload_n dX1_swapNames_37 rfl ?_
      refine kw_aload_n dX1_swapNames_38 rfl ?_
      obtain ⟨v8, ev8, h⟩ := Option.bind_eq_some_iff.mp h
      refine kv_gR gfX1_12 dX1_swapNames_39 ev8 ?_
      obtain ⟨v9, ev9, h⟩ := Option.bind_eq_some_iff.mp h
      refine kv_gR gfX1_123 dX1_swapNames_42 ev9 ?_
      refine kw_iload_n dX1_swapNames_45 rfl ?_
      obtain ⟨v10, ev10, h⟩ := Option.bind_eq_some_iff.mp h
      refine kv_ldI dX1_swapNames_46 ev10 ?_
      obtain ⟨hp11, ehp11, h⟩ := Option.bind_eq_some_iff.mp h
      refine kv_stI dX1_swapNames_47 ehp11 ?_
      refine kw_aload_n dX1_swapNames_48 rfl ?_
      obtain ⟨v12, ev12, h⟩ := Option.bind_eq_some_iff.mp h
      refine kv_gR gfX1_12 dX1_swapNames_49 ev12 ?_
      obtain ⟨v13, ev13, h⟩ := Option.bind_eq_some_iff.mp h
      refine kv_gR gfX1_123 dX1_swapNames_52 ev13 ?_
      refine kw_iload_n dX1_swapNames_55 rfl ?_
      refine kw_iload_n dX1_swapNames_56 rfl ?_
      obtain ⟨hp14, ehp14, h⟩ := Option.bind_eq_some_iff.mp h
      refine kv_stI dX1_swapNames_57 ehp14 ?_
      have h := Option.some.inj h
      subst h
      exact kw_vret rfl dX1_swapNames_58 hK
/-! KitchenWheels$Kitchen.become(LKitchenWheels$Kitchen;)V -/
def X2_become_K47 (G : kw_G) (Q : Option Value → kw_H → Prop) (x0 : Nat) (x1 : Nat) (r : (Int32 × kw_H) ⊕ (kw_H)) : Prop := match r with
  | .inl z => kw_V G mX2_become 47 [some (.ref x0), some (.ref x1), some (.int z.1)] [] z.2 Q
  | .inr r => Q none r
def X2_become_J70 (hp : kw_H) (x0 : Nat) (x1 : Nat) : Option (kw_H) :=
  (kp_gI hp x1 [2] 4).bind fun v10 =>
  (kp_put hp x0 [2] 4 (.int v10)).bind fun hp11 =>
  (kp_gI hp11 x1 [2] 5).bind fun v12 =>
  (kp_put hp11 x0 [2] 5 (.int v12)).bind fun hp13 =>
  (kp_gI hp13 x1 [2] 6).bind fun v14 =>
  (kp_put hp13 x0 [2] 6 (.int v14)).bind fun hp15 =>
  (kp_gI hp15 x1 [2] 7).bind fun v16 =>
  (kp_put hp15 x0 [2] 7 (.int v16)).bind fun hp17 =>
  (kp_gI hp17 x1 [2] 8).bind fun v18 =>
  (kp_put hp17 x0 [2] 8 (.int v18)).bind fun hp19 =>
  (kp_gI hp19 x1 [2] 9).bind fun v20 =>
  (kp_put hp19 x0 [2] 9 (.int v20)).bind fun hp21 =>
  some (hp21)
set_option maxRecDepth 100000 in
set_option maxHeartbeats 4000000 in
theorem X2_become_J70_t (G : kw_G) (Q : Option Value → kw_H → Prop) (hp : kw_H) (x0 : Nat) (x1 : Nat) (r : kw_H) (h : X2_become_J70 hp x0 x1 = some r) (hK : Q none r) : kw_V G mX2_become 70 [some (.ref x0), some (.ref x1), none] [] hp Q := by
  unfold X2_become_J70 at h
  refine kw_aload_n dX2_become_70 rfl ?_
  refine kw_aload_n dX2_become_71 rfl ?_
  obtain ⟨v10, ev10, h⟩ := Option.bind_eq_some_iff.mp h
  refine kv_gI gfX2_27 dX2_become_72 ev10 ?_
  obtain ⟨hp11, ehp11, h⟩ := Option.bind_eq_some_iff.mp h
  refine kv_put pfX2_become_27 (fun _ => ⟨rfl, rfl⟩) dX2_become_75 ehp11 ?_
  refine kw_aload_n dX2_become_78 rfl ?_
  refine kw_aload_n dX2_become_79 rfl ?_
  obtain ⟨v12, ev12, h⟩ := Option.bind_eq_some_iff.mp h
  refine kv_gI gfX2_37 dX2_become_80 ev12 ?_
  obtain ⟨hp13, ehp13, h⟩ := Option.bind_eq_some_iff.mp h
  refine kv_put pfX2_become_37 (fun _ => ⟨rfl, rfl⟩) dX2_become_83 ehp13 ?_
  refine kw_aload_n dX2_become_86 rfl ?_
  refine kw_aload_n dX2_become_87 rfl ?_
  obtain ⟨v14, ev14, h⟩ := Option.bind_eq_some_iff.mp h
  refine kv_gI gfX2_40 dX2_become_88 ev14 ?_
  obtain ⟨hp15, ehp15, h⟩ := Option.bind_eq_some_iff.mp h
  refine kv_put pfX2_become_40 (fun _ => ⟨rfl, rfl⟩) dX2_become_91 ehp15 ?_
  refine kw_aload_n dX2_become_94 rfl ?_
  refine kw_aload_n dX2_become_95 rfl ?_
  obtain ⟨v16, ev16, h⟩ := Option.bind_eq_some_iff.mp h
  refine kv_gI gfX2_43 dX2_become_96 ev16 ?_
  obtain ⟨hp17, ehp17, h⟩ := Option.bind_eq_some_iff.mp h
  refine kv_put pfX2_become_43 (fun _ => ⟨rfl, rfl⟩) dX2_become_99 ehp17 ?_
  refine kw_aload_n dX2_become_102 rfl ?_
  refine kw_aload_n dX2_become_103 rfl ?_
  obtain ⟨v18, ev18, h⟩ := Option.bind_eq_some_iff.mp h
  refine kv_gI gfX2_46 dX2_become_104 ev18 ?_
  obtain ⟨hp19, ehp19, h⟩ := Option.bind_eq_some_iff.mp h
  refine kv_put pfX2_become_46 (fun _ => ⟨rfl, rfl⟩) dX2_become_107 ehp19 ?_
  refine kw_aload_n dX2_become_110 rfl ?_
  refine kw_aload_n dX2_become_111 rfl ?_
  obtain ⟨v20, ev20, h⟩ := Option.bind_eq_some_iff.mp h
  refine kv_gI gfX2_49 dX2_become_112 ev20 ?_
  obtain ⟨hp21, ehp21, h⟩ := Option.bind_eq_some_iff.mp h
  refine kv_put pfX2_become_49 (fun _ => ⟨rfl, rfl⟩) dX2_become_115 ehp21 ?_
  have h := Option.some.inj h
  subst h
  exact kw_vret rfl dX2_become_118 hK
def X2_become_b47 (x0 : Nat) (x1 : Nat) (x2 : Int32) (hp : kw_H) : Option (((Int32 × kw_H) ⊕ (kw_H))) :=
  (if (nI 4) ≤ x2 then
  (X2_become_J70 hp x0 x1).map (fun r => .inr (r))
else
  (kp_gR hp x0 [2] 2).bind fun v23 =>
  (kp_gR hp x1 [2] 2).bind fun v24 =>
  (kp_ldR hp 3 v24 x2).bind fun o25 =>
  kp_nu o25 ((kp_stR hp 3 v23 x2 none [0, 3, 4, 5, 7]).bind fun hp27 =>
  some (.inl (x2 + (nI 1), hp27))) (fun b26 =>
  (kp_stR hp 3 v23 x2 (some b26) [0, 3, 4, 5, 7]).bind fun hp28 =>
  some (.inl (x2 + (nI 1), hp28))))
set_option maxRecDepth 100000 in
set_option maxHeartbeats 4000000 in
theorem X2_become_b47_t (G : kw_G) (Q : Option Value → kw_H → Prop) (x0 : Nat) (x1 : Nat) (x2 : Int32) (hp : kw_H) (r : ((Int32 × kw_H) ⊕ (kw_H))) (h : X2_become_b47 x0 x1 x2 hp = some r) (hK : X2_become_K47 G Q x0 x1 r) : kw_V G mX2_become 47 [some (.ref x0), some (.ref x1), some (.int x2)] [] hp Q := by
  unfold X2_become_b47 at h
  refine kw_iload_n dX2_become_47 rfl ?_
  refine kw_iconst (v := nI 4) dX2_become_48 (by decide) ?_
  refine kw_icmp_ge 70 dX2_become_49 (by decide) (fun c29 => ?_) (fun c29 => ?_)
  · have h := (if_pos c29).symm.trans h
    refine kw_mask [true, true, false] (L' := [some (.ref x0), some (.ref x1), none]) rfl ?_
    obtain ⟨r22, hr22, hrr22⟩ := Option.map_eq_some_iff.mp h
    subst hrr22
    exact X2_become_J70_t G Q hp x0 x1 r22 hr22 hK
  · have h := (if_neg c29).symm.trans h
    refine kw_aload_n dX2_become_52 rfl ?_
    obtain ⟨v23, ev23, h⟩ := Option.bind_eq_some_iff.mp h
    refine kv_gR gfX2_20 dX2_become_53 ev23 ?_
    refine kw_iload_n dX2_become_56 rfl ?_
    refine kw_aload_n dX2_become_57 rfl ?_
    obtain ⟨v24, ev24, h⟩ := Option.bind_eq_some_iff.mp h
    refine kv_gR gfX2_20 dX2_become_58 ev24 ?_
    refine kw_iload_n dX2_become_61 rfl ?_
    obtain ⟨o25, eo25, h⟩ := Option.bind_eq_some_iff.mp h
    refine kv_ldR (by decide) dX2_become_62 eo25 ?_
    cases o25 with
    | none =>
      dsimp only [kp_nu, va_rf] at h ⊢
      obtain ⟨hp27, ehp27, h⟩ := Option.bind_eq_some_iff.mp h
      refine kv_stRN (by decide) dX2_become_63 ehp27 ?_
      refine kv_iinc (w := nI 1) (L' := [some (.ref x0), some (.ref x1), some (.int (x2 + (nI 1)))]) dX2_become_64 (by decide) rfl (by decide) rfl ?_
      refine kw_goto 47 dX2_become_67 (by decide) ?_
      have h := Option.some.inj h
      subst h
      exact hK
    | some b26 =>
      dsimp only [kp_nu, va_rf] at h ⊢
      obtain ⟨hp28, ehp28, h⟩ := Option.bind_eq_some_iff.mp h
      refine kv_stR ao3 dX2_become_63 ehp28 ?_
      refine kv_iinc (w := nI 1) (L' := [some (.ref x0), some (.ref x1), some (.int (x2 + (nI 1)))]) dX2_become_64 (by decide) rfl (by decide) rfl ?_
      refine kw_goto 47 dX2_become_67 (by decide) ?_
      have h := Option.some.inj h
      subst h
      exact hK
def X2_become_B47 (x0 : Nat) (x1 : Nat) (z : Int32 × kw_H) : Option (((Int32 × kw_H) ⊕ (kw_H))) := X2_become_b47 x0 x1 z.1 z.2
theorem X2_become_L47_t (G : kw_G) (Q : Option Value → kw_H → Prop) (x0 : Nat) (x1 : Nat) (n : Nat) (z : Int32 × kw_H) (r : kw_H) (h : kp_lp (X2_become_B47 x0 x1) n z = some r) (hK : Q none r) : kw_V G mX2_become 47 [some (.ref x0), some (.ref x1), some (.int z.1)] [] z.2 Q :=
  kv_lp _ (fun z => kw_V G mX2_become 47 [some (.ref x0), some (.ref x1), some (.int z.1)] [] z.2 Q) (fun r => Q none r) (fun z x hb hx => X2_become_b47_t G Q x0 x1 z.1 z.2 x hb (by cases x <;> exact hx)) n z r h hK
def X2_become_F (hp : kw_H) (x0 : Nat) (x1 : Nat) : Option (kw_H) :=
  (kp_gR hp x1 [2] 0).bind fun v1 =>
  (kp_gR hp x0 [2] 0).bind fun v2 =>
  (kp_cpI hp v1 (nI 0) v2 (nI 0) (nI 8)).bind fun hp3 =>
  (kp_gR hp3 x1 [2] 1).bind fun v4 =>
  (kp_gR hp3 x0 [2] 1).bind fun v5 =>
  (kp_cpI hp3 v4 (nI 0) v5 (nI 0) (nI 8)).bind fun hp6 =>
  (kp_gR hp6 x1 [2] 3).bind fun v7 =>
  (kp_gR hp6 x0 [2] 3).bind fun v8 =>
  (kp_cpI hp6 v7 (nI 0) v8 (nI 0) (nI 36)).bind fun hp9 =>
  kp_lp (X2_become_B47 x0 x1) 2000 (nI 0, hp9)
set_option maxRecDepth 100000 in
set_option maxHeartbeats 4000000 in
theorem X2_become_c (G : kw_G) (hp : kw_H) (x0 : Nat) (x1 : Nat) (r : kw_H) (h : X2_become_F hp x0 x1 = some r) : kw_Met G mX2_become [.ref x0, .ref x1] hp (fun v h2 => v = none ∧ h2 = r) := by
  refine kw_met (L := [some (.ref x0), some (.ref x1), none]) (r := 1) (by decide +kernel) (Nat.le_of_ble_eq_true rfl) rfl ?_
  unfold X2_become_F at h
  obtain ⟨Q, hQ⟩ : ∃ Q : Option Value → kw_H → Prop, Q = (fun v h2 => v = none ∧ h2 = r) := ⟨_, rfl⟩
  have hK : Q none r := by rw [hQ]; exact ⟨rfl, rfl⟩
  rw [← hQ]
  clear hQ
  refine kw_aload_n dX2_become_0 rfl ?_
  obtain ⟨v1, ev1, h⟩ := Option.bind_eq_some_iff.mp h
  refine kv_gR gfX2_9 dX2_become_1 ev1 ?_
  refine kw_iconst (v := nI 0) dX2_become_4 (by decide) ?_
  refine kw_aload_n dX2_become_5 rfl ?_
  obtain ⟨v2, ev2, h⟩ := Option.bind_eq_some_iff.mp h
  refine kv_gR gfX2_9 dX2_become_6 ev2 ?_
  refine kw_iconst (v := nI 0) dX2_become_9 (by decide) ?_
  refine kw_bipush (v := nI 8) dX2_become_10 (by decide) ?_
  obtain ⟨hp3, ehp3, h⟩ := Option.bind_eq_some_iff.mp h
  refine kv_cpI coX2_become_31 (Nat.le_of_ble_eq_true rfl) dX2_become_12 ehp3 ?_
  refine kw_aload_n dX2_become_15 rfl ?_
  obtain ⟨v4, ev4, h⟩ := Option.bind_eq_some_iff.mp h
  refine kv_gR gfX2_15 dX2_become_16 ev4 ?_
  refine kw_iconst (v := nI 0) dX2_become_19 (by decide) ?_
  refine kw_aload_n dX2_become_20 rfl ?_
  obtain ⟨v5, ev5, h⟩ := Option.bind_eq_some_iff.mp h
  refine kv_gR gfX2_15 dX2_become_21 ev5 ?_
  refine kw_iconst (v := nI 0) dX2_become_24 (by decide) ?_
  refine kw_bipush (v := nI 8) dX2_become_25 (by decide) ?_
  obtain ⟨hp6, ehp6, h⟩ := Option.bind_eq_some_iff.mp h
  refine kv_cpI coX2_become_31 (Nat.le_of_ble_eq_true rfl) dX2_become_27 ehp6 ?_
  refine kw_aload_n dX2_become_30 rfl ?_
  obtain ⟨v7, ev7, h⟩ := Option.bind_eq_some_iff.mp h
  refine kv_gR gfX2_24 dX2_become_31 ev7 ?_
  refine kw_iconst (v := nI 0) dX2_become_34 (by decide) ?_
  refine kw_aload_n dX2_become_35 rfl ?_
  obtain ⟨v8, ev8, h⟩ := Option.bind_eq_some_iff.mp h
  refine kv_gR gfX2_24 dX2_become_36 ev8 ?_
  refine kw_iconst (v := nI 0) dX2_become_39 (by decide) ?_
  refine kw_bipush (v := nI 36) dX2_become_40 (by decide) ?_
  obtain ⟨hp9, ehp9, h⟩ := Option.bind_eq_some_iff.mp h
  refine kv_cpI coX2_become_31 (Nat.le_of_ble_eq_true rfl) dX2_become_42 ehp9 ?_
  refine kw_iconst (v := nI 0) dX2_become_45 (by decide) ?_
  refine kw_istore_n (L' := [some (.ref x0), some (.ref x1), some (.int (nI 0))]) dX2_become_46 (by decide) rfl ?_
  exact X2_become_L47_t G Q x0 x1 _ (nI 0, hp9) _ h hK
/-! KitchenWheels$Kitchen.turnedBehind(I)I -/
def X2_turnedBehind_K7 (G : kw_G) (Q : Option Value → kw_H → Prop) (hp : kw_H) (x0 : Nat) (x1 : Int32) (r : (Int32 × Int32) ⊕ (Int32)) : Prop := match r with
  | .inl z => kw_V G mX2_turnedBehind 7 [some (.ref x0), some (.int x1), some (.int z.1), some (.int z.2)] [] hp Q
  | .inr r => Q (some (.int r)) hp
def X2_turnedBehind_J30 (hp : kw_H) (x2 : Int32) : Option (Int32) :=
  some (x2)
set_option maxRecDepth 100000 in
set_option maxHeartbeats 4000000 in
theorem X2_turnedBehind_J30_t (G : kw_G) (Q : Option Value → kw_H → Prop) (hp : kw_H) (x2 : Int32) (r : Int32) (h : X2_turnedBehind_J30 hp x2 = some r) (hK : Q (some (.int r)) hp) : kw_V G mX2_turnedBehind 30 [none, none, some (.int x2), none] [] hp Q := by
  unfold X2_turnedBehind_J30 at h
  refine kw_iload_n dX2_turnedBehind_30 rfl ?_
  have h := Option.some.inj h
  subst h
  exact kw_iret rfl dX2_turnedBehind_31 hK
def X2_turnedBehind_b7 (hp : kw_H) (x0 : Nat) (x1 : Int32) (x2 : Int32) (x3 : Int32) : Option (((Int32 × Int32) ⊕ (Int32))) :=
  (if x1 ≤ x3 then
  (X2_turnedBehind_J30 hp x2).map (fun r => .inr (r))
else
  (kp_gI hp x0 [2] 7).bind fun v3 =>
  ((kp_ob hp x0 2).bind fun _ => X2_turnedNext_F hp x0 x2 (v3 + x3)).bind fun r4 =>
  some (.inl (r4, x3 + (nI 1))))
set_option maxRecDepth 100000 in
set_option maxHeartbeats 4000000 in
theorem X2_turnedBehind_b7_t (G : kw_G) (Q : Option Value → kw_H → Prop) (hp : kw_H) (x0 : Nat) (x1 : Int32) (x2 : Int32) (x3 : Int32) (r : ((Int32 × Int32) ⊕ (Int32))) (h : X2_turnedBehind_b7 hp x0 x1 x2 x3 = some r) (hK : X2_turnedBehind_K7 G Q hp x0 x1 r) : kw_V G mX2_turnedBehind 7 [some (.ref x0), some (.int x1), some (.int x2), some (.int x3)] [] hp Q := by
  unfold X2_turnedBehind_b7 at h
  refine kw_iload_n dX2_turnedBehind_7 rfl ?_
  refine kw_iload_n dX2_turnedBehind_8 rfl ?_
  refine kw_icmp_ge 30 dX2_turnedBehind_9 (by decide) (fun c5 => ?_) (fun c5 => ?_)
  · have h := (if_pos c5).symm.trans h
    refine kw_mask [false, false, true, false] (L' := [none, none, some (.int x2), none]) rfl ?_
    obtain ⟨r2, hr2, hrr2⟩ := Option.map_eq_some_iff.mp h
    subst hrr2
    exact X2_turnedBehind_J30_t G Q hp x2 r2 hr2 hK
  · have h := (if_neg c5).symm.trans h
    refine kw_aload_n dX2_turnedBehind_12 rfl ?_
    refine kw_iload_n dX2_turnedBehind_13 rfl ?_
    refine kw_aload_n dX2_turnedBehind_14 rfl ?_
    obtain ⟨v3, ev3, h⟩ := Option.bind_eq_some_iff.mp h
    refine kv_gI gfX2_43 dX2_turnedBehind_15 ev3 ?_
    refine kw_iload_n dX2_turnedBehind_18 rfl ?_
    refine kw_iadd dX2_turnedBehind_19 ?_
    obtain ⟨r4, er4, h⟩ := Option.bind_eq_some_iff.mp h
    obtain ⟨ur4, eur4, er4⟩ := Option.bind_eq_some_iff.mp er4
    obtain ⟨fsr4, hor4⟩ := kp_ob_inv eur4
    refine kw_callV (As := [.int x2, .int (v3 + x3)]) (S := []) kcX2 cbX2_turnedBehind_X2_turnedNext lkX2_82 imX2_turnedNext seX2_X2_turnedNext_X2_turnedNext rfl rfl (Nat.le_of_ble_eq_true rfl) dX2_turnedBehind_20 hor4 (X2_turnedNext_c G hp x0 x2 (v3 + x3) _ er4) (fun vv hh hq => ?_)
    rw [hq.1, hq.2]
    show kw_V G mX2_turnedBehind 23 [some (.ref x0), some (.int x1), some (.int x2), some (.int x3)] [.int r4] hp Q
    refine kw_istore_n (L' := [some (.ref x0), some (.int x1), some (.int r4), some (.int x3)]) dX2_turnedBehind_23 (by decide) rfl ?_
    refine kv_iinc (w := nI 1) (L' := [some (.ref x0), some (.int x1), some (.int r4), some (.int (x3 + (nI 1)))]) dX2_turnedBehind_24 (by decide) rfl (by decide) rfl ?_
    refine kw_goto 7 dX2_turnedBehind_27 (by decide) ?_
    have h := Option.some.inj h
    subst h
    exact hK
def X2_turnedBehind_B7 (hp : kw_H) (x0 : Nat) (x1 : Int32) (z : Int32 × Int32) : Option (((Int32 × Int32) ⊕ (Int32))) := X2_turnedBehind_b7 hp x0 x1 z.1 z.2
theorem X2_turnedBehind_L7_t (G : kw_G) (Q : Option Value → kw_H → Prop) (hp : kw_H) (x0 : Nat) (x1 : Int32) (n : Nat) (z : Int32 × Int32) (r : Int32) (h : kp_lp (X2_turnedBehind_B7 hp x0 x1) n z = some r) (hK : Q (some (.int r)) hp) : kw_V G mX2_turnedBehind 7 [some (.ref x0), some (.int x1), some (.int z.1), some (.int z.2)] [] hp Q :=
  kv_lp _ (fun z => kw_V G mX2_turnedBehind 7 [some (.ref x0), some (.int x1), some (.int z.1), some (.int z.2)] [] hp Q) (fun r => Q (some (.int r)) hp) (fun z x hb hx => X2_turnedBehind_b7_t G Q hp x0 x1 z.1 z.2 x hb (by cases x <;> exact hx)) n z r h hK
def X2_turnedBehind_F (hp : kw_H) (x0 : Nat) (x1 : Int32) : Option (Int32) :=
  (kp_gI hp x0 [2] 8).bind fun v1 =>
  kp_lp (X2_turnedBehind_B7 hp x0 x1) 2000 (v1, nI 0)
set_option maxRecDepth 100000 in
set_option maxHeartbeats 4000000 in
theorem X2_turnedBehind_c (G : kw_G) (hp : kw_H) (x0 : Nat) (x1 : Int32) (r : Int32) (h : X2_turnedBehind_F hp x0 x1 = some r) : kw_Met G mX2_turnedBehind [.ref x0, .int x1] hp (fun v h2 => v = some (.int r) ∧ h2 = hp) := by
  refine kw_met (L := [some (.ref x0), some (.int x1), none, none]) (r := 2) (by decide +kernel) (Nat.le_of_ble_eq_true rfl) rfl ?_
  unfold X2_turnedBehind_F at h
  obtain ⟨Q, hQ⟩ : ∃ Q : Option Value → kw_H → Prop, Q = (fun v h2 => v = some (.int r) ∧ h2 = hp) := ⟨_, rfl⟩
  have hK : Q (some (.int r)) hp := by rw [hQ]; exact ⟨rfl, rfl⟩
  rw [← hQ]
  clear hQ
  refine kw_aload_n dX2_turnedBehind_0 rfl ?_
  obtain ⟨v1, ev1, h⟩ := Option.bind_eq_some_iff.mp h
  refine kv_gI gfX2_46 dX2_turnedBehind_1 ev1 ?_
  refine kw_istore_n (L' := [some (.ref x0), some (.int x1), some (.int v1), none]) dX2_turnedBehind_4 (by decide) rfl ?_
  refine kw_iconst (v := nI 0) dX2_turnedBehind_5 (by decide) ?_
  refine kw_istore_n (L' := [some (.ref x0), some (.int x1), some (.int v1), some (.int (nI 0))]) dX2_turnedBehind_6 (by decide) rfl ?_
  exact X2_turnedBehind_L7_t G Q hp x0 x1 _ (v1, nI 0) _ h hK
/-! KitchenWheels$Foreteller.swapFor(LKitchenWheels$Kitchen;III)I -/
def X1_swapFor_K45 (G : kw_G) (Q : Option Value → kw_H → Prop) (x0 : Nat) (x2 : Int32) (x3 : Int32) (x5 : Int32) (x6 : Int32) (r : (Int32 × kw_H) ⊕ (Int32 × kw_H)) : Prop := match r with
  | .inl z => kw_V G mX1_swapFor 45 [some (.ref x0), none, some (.int x2), some (.int x3), none, some (.int x5), some (.int x6), some (.int z.1), none, none] [] z.2 Q
  | .inr r => Q (some (.int r.1)) r.2
def X1_swapFor_J135 (hp : kw_H) : Option (Int32 × kw_H) :=
  some (((-1000000), hp))
set_option maxRecDepth 100000 in
set_option maxHeartbeats 4000000 in
theorem X1_swapFor_J135_t (G : kw_G) (Q : Option Value → kw_H → Prop) (hp : kw_H) (r : Int32 × kw_H) (h : X1_swapFor_J135 hp = some r) (hK : Q (some (.int r.1)) r.2) : kw_V G mX1_swapFor 135 [none, none, none, none, none, none, none, none, none, none] [] hp Q := by
  unfold X1_swapFor_J135 at h
  refine kw_ldc (v := (-1000000)) dX1_swapFor_135 ckX1_61 ?_
  have h := Option.some.inj h
  subst h
  exact kw_iret rfl dX1_swapFor_137 hK
def X1_swapFor_K63 (G : kw_G) (Q : Option Value → kw_H → Prop) (x0 : Nat) (x2 : Int32) (x3 : Int32) (x5 : Int32) (x6 : Int32) (x7 : Int32) (r : (Int32 × kw_H) ⊕ (((Int32 × kw_H) ⊕ (Int32 × kw_H)))) : Prop := match r with
  | .inl z => kw_V G mX1_swapFor 63 [some (.ref x0), none, some (.int x2), some (.int x3), none, some (.int x5), some (.int x6), some (.int x7), some (.int z.1), none] [] z.2 Q
  | .inr r => X1_swapFor_K45 G Q x0 x2 x3 x5 x6 r
def X1_swapFor_J129 (hp : kw_H) (x0 : Nat) (x2 : Int32) (x3 : Int32) (x5 : Int32) (x6 : Int32) (x7 : Int32) : Option (((Int32 × kw_H) ⊕ (Int32 × kw_H))) :=
  some (.inl (x7 + (nI 1), hp))
set_option maxRecDepth 100000 in
set_option maxHeartbeats 4000000 in
theorem X1_swapFor_J129_t (G : kw_G) (Q : Option Value → kw_H → Prop) (hp : kw_H) (x0 : Nat) (x2 : Int32) (x3 : Int32) (x5 : Int32) (x6 : Int32) (x7 : Int32) (r : ((Int32 × kw_H) ⊕ (Int32 × kw_H))) (h : X1_swapFor_J129 hp x0 x2 x3 x5 x6 x7 = some r) (hK : X1_swapFor_K45 G Q x0 x2 x3 x5 x6 r) : kw_V G mX1_swapFor 129 [some (.ref x0), none, some (.int x2), some (.int x3), none, some (.int x5), some (.int x6), some (.int x7), none, none] [] hp Q := by
  unfold X1_swapFor_J129 at h
  refine kv_iinc (w := nI 1) (L' := [some (.ref x0), none, some (.int x2), some (.int x3), none, some (.int x5), some (.int x6), some (.int (x7 + (nI 1))), none, none]) dX1_swapFor_129 (by decide) rfl (by decide) rfl ?_
  refine kw_goto 45 dX1_swapFor_132 (by decide) ?_
  have h := Option.some.inj h
  subst h
  exact hK
def X1_swapFor_J114 (hp : kw_H) (x7 : Int32) (x8 : Int32) : Option (Int32 × kw_H) :=
  some ((((nI 10) * x7) + x8, hp))
set_option maxRecDepth 100000 in
set_option maxHeartbeats 4000000 in
theorem X1_swapFor_J114_t (G : kw_G) (Q : Option Value → kw_H → Prop) (hp : kw_H) (x7 : Int32) (x8 : Int32) (r : Int32 × kw_H) (h : X1_swapFor_J114 hp x7 x8 = some r) (hK : Q (some (.int r.1)) r.2) : kw_V G mX1_swapFor 114 [none, none, none, none, none, none, none, some (.int x7), some (.int x8), none] [] hp Q := by
  unfold X1_swapFor_J114 at h
  refine kw_bipush (v := nI 10) dX1_swapFor_114 (by decide) ?_
  refine kw_iload dX1_swapFor_116 rfl ?_
  refine kw_imul dX1_swapFor_118 ?_
  refine kw_iload dX1_swapFor_119 rfl ?_
  refine kw_iadd dX1_swapFor_121 ?_
  have h := Option.some.inj h
  subst h
  exact kw_iret rfl dX1_swapFor_122 hK
def X1_swapFor_b63 (x0 : Nat) (x2 : Int32) (x3 : Int32) (x5 : Int32) (x6 : Int32) (x7 : Int32) (x8 : Int32) (hp : kw_H) : Option (((Int32 × kw_H) ⊕ (((Int32 × kw_H) ⊕ (Int32 × kw_H))))) :=
  (kp_gR hp x0 [1] 0).bind fun v10 =>
  (kp_gI hp v10 [2] 4).bind fun v11 =>
  (if v11 ≤ x8 then
  (X1_swapFor_J129 hp x0 x2 x3 x5 x6 x7).map (fun r => .inr (r))
else
  ((kp_ob hp x0 1).bind fun _ => X1_swapNames_F hp x0 x7 x8).bind fun r13 =>
  (kp_gR r13 x0 [1] 0).bind fun v14 =>
  ((kp_ob r13 v14 2).bind fun _ => X2_doersOf_F r13 v14 x3 x5 x6).bind fun r15 =>
  (X11_holds_F r13 r15 x2).bind fun r16 =>
  ((kp_ob r13 x0 1).bind fun _ => X1_swapNames_F r13 x0 x7 x8).bind fun r17 =>
  (if r16 = 0 then
  some (.inl (x8 + (nI 1), r17))
else
  (X1_swapFor_J114 r17 x7 x8).map (fun r => .inr (.inr (r)))))
set_option maxRecDepth 100000 in
set_option maxHeartbeats 4000000 in
theorem X1_swapFor_b63_t (G : kw_G) (Q : Option Value → kw_H → Prop) (x0 : Nat) (x2 : Int32) (x3 : Int32) (x5 : Int32) (x6 : Int32) (x7 : Int32) (x8 : Int32) (hp : kw_H) (r : ((Int32 × kw_H) ⊕ (((Int32 × kw_H) ⊕ (Int32 × kw_H))))) (h : X1_swapFor_b63 x0 x2 x3 x5 x6 x7 x8 hp = some r) (hK : X1_swapFor_K63 G Q x0 x2 x3 x5 x6 x7 r) : kw_V G mX1_swapFor 63 [some (.ref x0), none, some (.int x2), some (.int x3), none, some (.int x5), some (.int x6), some (.int x7), some (.int x8), none] [] hp Q := by
  unfold X1_swapFor_b63 at h
  refine kw_iload dX1_swapFor_63 rfl ?_
  refine kw_aload_n dX1_swapFor_65 rfl ?_
  obtain ⟨v10, ev10, h⟩ := Option.bind_eq_some_iff.mp h
  refine kv_gR gfX1_12 dX1_swapFor_66 ev10 ?_
  obtain ⟨v11, ev11, h⟩ := Option.bind_eq_some_iff.mp h
  refine kv_gI gfX1_33 dX1_swapFor_69 ev11 ?_
  refine kw_icmp_ge 129 dX1_swapFor_72 (by decide) (fun c20 => ?_) (fun c20 => ?_)
  · have h := (if_pos c20).symm.trans h
    refine kw_mask [true, true, true, true, true, true, true, true, false, true] (L' := [some (.ref x0), none, some (.int x2), some (.int x3), none, some (.int x5), some (.int x6), some (.int x7), none, none]) rfl ?_
    obtain ⟨r12, hr12, hrr12⟩ := Option.map_eq_some_iff.mp h
    subst hrr12
    exact X1_swapFor_J129_t G Q hp x0 x2 x3 x5 x6 x7 r12 hr12 hK
  · have h := (if_neg c20).symm.trans h
    refine kw_aload_n dX1_swapFor_75 rfl ?_
    refine kw_iload dX1_swapFor_76 rfl ?_
    refine kw_iload dX1_swapFor_78 rfl ?_
    obtain ⟨r13, er13, h⟩ := Option.bind_eq_some_iff.mp h
    obtain ⟨ur13, eur13, er13⟩ := Option.bind_eq_some_iff.mp er13
    obtain ⟨fsr13, hor13⟩ := kp_ob_inv eur13
    refine kw_callV (As := [.int x7, .int x8]) (S := []) kcX1 cbX1_swapFor_X1_swapNames lkX1_115 imX1_swapNames seX1_X1_swapNames_X1_swapNames rfl rfl (Nat.le_of_ble_eq_true rfl) dX1_swapFor_80 hor13 (X1_swapNames_c G hp x0 x7 x8 _ er13) (fun vv hh hq => ?_)
    rw [hq.1, hq.2]
    show kw_V G mX1_swapFor 83 [some (.ref x0), none, some (.int x2), some (.int x3), none, some (.int x5), some (.int x6), some (.int x7), some (.int x8), none] [] r13 Q
    refine kw_aload_n dX1_swapFor_83 rfl ?_
    obtain ⟨v14, ev14, h⟩ := Option.bind_eq_some_iff.mp h
    refine kv_gR gfX1_12 dX1_swapFor_84 ev14 ?_
    refine kw_iload_n dX1_swapFor_87 rfl ?_
    refine kw_iload dX1_swapFor_88 rfl ?_
    refine kw_iload dX1_swapFor_90 rfl ?_
    obtain ⟨r15, er15, h⟩ := Option.bind_eq_some_iff.mp h
    obtain ⟨ur15, eur15, er15⟩ := Option.bind_eq_some_iff.mp er15
    obtain ⟨fsr15, hor15⟩ := kp_ob_inv eur15
    refine kw_callV (As := [.int x3, .int x5, .int x6]) (S := []) kcX2 cbX1_swapFor_X2_doersOf lkX1_54 imX2_doersOf seX2_X2_doersOf_X2_doersOf rfl rfl (Nat.le_of_ble_eq_true rfl) dX1_swapFor_92 hor15 (X2_doersOf_c G r13 v14 x3 x5 x6 _ er15) (fun vv hh hq => ?_)
    rw [hq.1, hq.2]
    show kw_V G mX1_swapFor 95 [some (.ref x0), none, some (.int x2), some (.int x3), none, some (.int x5), some (.int x6), some (.int x7), some (.int x8), none] [.int r15] r13 Q
    refine kw_iload_n dX1_swapFor_95 rfl ?_
    obtain ⟨r16, er16, h⟩ := Option.bind_eq_some_iff.mp h
    refine kw_callSN (As := [.int r15, .int x2]) (S := []) cbX1_swapFor_X11_holds lnX1_57 stX11_holds rfl rfl (Nat.le_of_ble_eq_true rfl) dX1_swapFor_96 (X11_holds_c G r13 r15 x2 _ er16) (fun vv hh hq => ?_)
    rw [hq.1, hq.2]
    show kw_V G mX1_swapFor 99 [some (.ref x0), none, some (.int x2), some (.int x3), none, some (.int x5), some (.int x6), some (.int x7), some (.int x8), none] [.int r16] r13 Q
    refine kw_istore (L' := [some (.ref x0), none, some (.int x2), some (.int x3), none, some (.int x5), some (.int x6), some (.int x7), some (.int x8), some (.int r16)]) dX1_swapFor_99 (by decide) rfl ?_
    refine kw_aload_n dX1_swapFor_101 rfl ?_
    refine kw_iload dX1_swapFor_102 rfl ?_
    refine kw_iload dX1_swapFor_104 rfl ?_
    obtain ⟨r17, er17, h⟩ := Option.bind_eq_some_iff.mp h
    obtain ⟨ur17, eur17, er17⟩ := Option.bind_eq_some_iff.mp er17
    obtain ⟨fsr17, hor17⟩ := kp_ob_inv eur17
    refine kw_callV (As := [.int x7, .int x8]) (S := []) kcX1 cbX1_swapFor_X1_swapNames lkX1_115 imX1_swapNames seX1_X1_swapNames_X1_swapNames rfl rfl (Nat.le_of_ble_eq_true rfl) dX1_swapFor_106 hor17 (X1_swapNames_c G r13 x0 x7 x8 _ er17) (fun vv hh hq => ?_)
    rw [hq.1, hq.2]
    show kw_V G mX1_swapFor 109 [some (.ref x0), none, some (.int x2), some (.int x3), none, some (.int x5), some (.int x6), some (.int x7), some (.int x8), some (.int r16)] [] r17 Q
    refine kw_iload dX1_swapFor_109 rfl ?_
    refine kw_if_eq 123 dX1_swapFor_111 (by decide) (fun c19 => ?_) (fun c19 => ?_)
    · have h := (if_pos c19).symm.trans h
      refine kv_iinc (w := nI 1) (L' := [some (.ref x0), none, some (.int x2), some (.int x3), none, some (.int x5), some (.int x6), some (.int x7), some (.int (x8 + (nI 1))), some (.int r16)]) dX1_swapFor_123 (by decide) rfl (by decide) rfl ?_
      refine kw_goto 63 dX1_swapFor_126 (by decide) ?_
      refine kw_mask [true, true, true, true, true, true, true, true, true, false] (L' := [some (.ref x0), none, some (.int x2), some (.int x3), none, some (.int x5), some (.int x6), some (.int x7), some (.int (x8 + (nI 1))), none]) rfl ?_
      have h := Option.some.inj h
      subst h
      exact hK
    · have h := (if_neg c19).symm.trans h
      refine kw_mask [false, true, false, false, true, false, false, true, true, false] (L' := [none, none, none, none, none, none, none, some (.int x7), some (.int x8), none]) rfl ?_
      obtain ⟨r18, hr18, hrr18⟩ := Option.map_eq_some_iff.mp h
      subst hrr18
      exact X1_swapFor_J114_t G Q r17 x7 x8 r18 hr18 hK
def X1_swapFor_B63 (x0 : Nat) (x2 : Int32) (x3 : Int32) (x5 : Int32) (x6 : Int32) (x7 : Int32) (z : Int32 × kw_H) : Option (((Int32 × kw_H) ⊕ (((Int32 × kw_H) ⊕ (Int32 × kw_H))))) := X1_swapFor_b63 x0 x2 x3 x5 x6 x7 z.1 z.2
theorem X1_swapFor_L63_t (G : kw_G) (Q : Option Value → kw_H → Prop) (x0 : Nat) (x2 : Int32) (x3 : Int32) (x5 : Int32) (x6 : Int32) (x7 : Int32) (n : Nat) (z : Int32 × kw_H) (r : ((Int32 × kw_H) ⊕ (Int32 × kw_H))) (h : kp_lp (X1_swapFor_B63 x0 x2 x3 x5 x6 x7) n z = some r) (hK : X1_swapFor_K45 G Q x0 x2 x3 x5 x6 r) : kw_V G mX1_swapFor 63 [some (.ref x0), none, some (.int x2), some (.int x3), none, some (.int x5), some (.int x6), some (.int x7), some (.int z.1), none] [] z.2 Q :=
  kv_lp _ (fun z => kw_V G mX1_swapFor 63 [some (.ref x0), none, some (.int x2), some (.int x3), none, some (.int x5), some (.int x6), some (.int x7), some (.int z.1), none] [] z.2 Q) (fun r => X1_swapFor_K45 G Q x0 x2 x3 x5 x6 r) (fun z x hb hx => X1_swapFor_b63_t G Q x0 x2 x3 x5 x6 x7 z.1 z.2 x hb (by cases x <;> exact hx)) n z r h hK
def X1_swapFor_b45 (x0 : Nat) (x2 : Int32) (x3 : Int32) (x5 : Int32) (x6 : Int32) (x7 : Int32) (hp : kw_H) : Option (((Int32 × kw_H) ⊕ (Int32 × kw_H))) :=
  (kp_gR hp x0 [1] 0).bind fun v7 =>
  (kp_gI hp v7 [2] 4).bind fun v8 =>
  (if v8 ≤ x7 then
  (X1_swapFor_J135 hp).map (fun r => .inr (r))
else
  kp_lp (X1_swapFor_B63 x0 x2 x3 x5 x6 x7) 2000 (x7 + (nI 1), hp))
set_option maxRecDepth 100000 in
set_option maxHeartbeats 4000000 in
theorem X1_swapFor_b45_t (G : kw_G) (Q : Option Value → kw_H → Prop) (x0 : Nat) (x2 : Int32) (x3 : Int32) (x5 : Int32) (x6 : Int32) (x7 : Int32) (hp : kw_H) (r : ((Int32 × kw_H) ⊕ (Int32 × kw_H))) (h : X1_swapFor_b45 x0 x2 x3 x5 x6 x7 hp = some r) (hK : X1_swapFor_K45 G Q x0 x2 x3 x5 x6 r) : kw_V G mX1_swapFor 45 [some (.ref x0), none, some (.int x2), some (.int x3), none, some (.int x5), some (.int x6), some (.int x7), none, none] [] hp Q := by
  unfold X1_swapFor_b45 at h
  refine kw_iload dX1_swapFor_45 rfl ?_
  refine kw_aload_n dX1_swapFor_47 rfl ?_
  obtain ⟨v7, ev7, h⟩ := Option.bind_eq_some_iff.mp h
  refine kv_gR gfX1_12 dX1_swapFor_48 ev7 ?_
  obtain ⟨v8, ev8, h⟩ := Option.bind_eq_some_iff.mp h
  refine kv_gI gfX1_33 dX1_swapFor_51 ev8 ?_
  refine kw_icmp_ge 135 dX1_swapFor_54 (by decide) (fun c21 => ?_) (fun c21 => ?_)
  · have h := (if_pos c21).symm.trans h
    refine kw_mask [false, true, false, false, true, false, false, false, true, true] (L' := [none, none, none, none, none, none, none, none, none, none]) rfl ?_
    obtain ⟨r9, hr9, hrr9⟩ := Option.map_eq_some_iff.mp h
    subst hrr9
    exact X1_swapFor_J135_t G Q hp r9 hr9 hK
  · have h := (if_neg c21).symm.trans h
    refine kw_iload dX1_swapFor_57 rfl ?_
    refine kw_iconst (v := nI 1) dX1_swapFor_59 (by decide) ?_
    refine kw_iadd dX1_swapFor_60 ?_
    refine kw_istore (L' := [some (.ref x0), none, some (.int x2), some (.int x3), none, some (.int x5), some (.int x6), some (.int x7), some (.int (x7 + (nI 1))), none]) dX1_swapFor_61 (by decide) rfl ?_
    exact X1_swapFor_L63_t G Q x0 x2 x3 x5 x6 x7 _ (x7 + (nI 1), hp) _ h hK
def X1_swapFor_B45 (x0 : Nat) (x2 : Int32) (x3 : Int32) (x5 : Int32) (x6 : Int32) (z : Int32 × kw_H) : Option (((Int32 × kw_H) ⊕ (Int32 × kw_H))) := X1_swapFor_b45 x0 x2 x3 x5 x6 z.1 z.2
theorem X1_swapFor_L45_t (G : kw_G) (Q : Option Value → kw_H → Prop) (x0 : Nat) (x2 : Int32) (x3 : Int32) (x5 : Int32) (x6 : Int32) (n : Nat) (z : Int32 × kw_H) (r : Int32 × kw_H) (h : kp_lp (X1_swapFor_B45 x0 x2 x3 x5 x6) n z = some r) (hK : Q (some (.int r.1)) r.2) : kw_V G mX1_swapFor 45 [some (.ref x0), none, some (.int x2), some (.int x3), none, some (.int x5), some (.int x6), some (.int z.1), none, none] [] z.2 Q :=
  kv_lp _ (fun z => kw_V G mX1_swapFor 45 [some (.ref x0), none, some (.int x2), some (.int x3), none, some (.int x5), some (.int x6), some (.int z.1), none, none] [] z.2 Q) (fun r => Q (some (.int r.1)) r.2) (fun z x hb hx => X1_swapFor_b45_t G Q x0 x2 x3 x5 x6 z.1 z.2 x hb (by cases x <;> exact hx)) n z r h hK
def X1_swapFor_F (hp : kw_H) (x0 : Nat) (x1 : Nat) (x2 : Int32) (x3 : Int32) (x4 : Int32) : Option (Int32 × kw_H) :=
  ((kp_ob hp x1 2).bind fun _ => X2_turnedBehind_F hp x1 x4).bind fun r1 =>
  ((kp_ob hp x1 2).bind fun _ => X2_awayBehind_F hp x1 x4).bind fun r2 =>
  ((kp_ob hp x1 2).bind fun _ => X2_doersOf_F hp x1 x3 r1 r2).bind fun r3 =>
  (X11_holds_F hp r3 x2).bind fun r4 =>
  (if r4 = 0 then
  (kp_gR hp x0 [1] 0).bind fun v5 =>
  ((kp_ob hp v5 2).bind fun _ => X2_become_F hp v5 x1).bind fun r6 =>
  kp_lp (X1_swapFor_B45 x0 x2 x3 r1 r2) 2000 (nI 0, r6)
else
  some ((nI 0, hp)))
set_option maxRecDepth 100000 in
set_option maxHeartbeats 4000000 in
theorem X1_swapFor_c (G : kw_G) (hp : kw_H) (x0 : Nat) (x1 : Nat) (x2 : Int32) (x3 : Int32) (x4 : Int32) (r : Int32 × kw_H) (h : X1_swapFor_F hp x0 x1 x2 x3 x4 = some r) : kw_Met G mX1_swapFor [.ref x0, .ref x1, .int x2, .int x3, .int x4] hp (fun v h2 => v = some (.int r.1) ∧ h2 = r.2) := by
  refine kw_met (L := [some (.ref x0), some (.ref x1), some (.int x2), some (.int x3), some (.int x4), none, none, none, none, none]) (r := 5) (by decide +kernel) (Nat.le_of_ble_eq_true rfl) rfl ?_
  unfold X1_swapFor_F at h
  obtain ⟨Q, hQ⟩ : ∃ Q : Option Value → kw_H → Prop, Q = (fun v h2 => v = some (.int r.1) ∧ h2 = r.2) := ⟨_, rfl⟩
  have hK : Q (some (.int r.1)) r.2 := by rw [hQ]; exact ⟨rfl, rfl⟩
  rw [← hQ]
  clear hQ
  refine kw_aload_n dX1_swapFor_0 rfl ?_
  refine kw_iload dX1_swapFor_1 rfl ?_
  obtain ⟨r1, er1, h⟩ := Option.bind_eq_some_iff.mp h
  obtain ⟨ur1, eur1, er1⟩ := Option.bind_eq_some_iff.mp er1
  obtain ⟨fsr1, hor1⟩ := kp_ob_inv eur1
  refine kw_callV (As := [.int x4]) (S := []) kcX2 cbX1_swapFor_X2_turnedBehind lkX1_108 imX2_turnedBehind seX2_X2_turnedBehind_X2_turnedBehind rfl rfl (Nat.le_of_ble_eq_true rfl) dX1_swapFor_3 hor1 (X2_turnedBehind_c G hp x1 x4 _ er1) (fun vv hh hq => ?_)
  rw [hq.1, hq.2]
  show kw_V G mX1_swapFor 6 [some (.ref x0), some (.ref x1), some (.int x2), some (.int x3), some (.int x4), none, none, none, none, none] [.int r1] hp Q
  refine kw_istore (L' := [some (.ref x0), some (.ref x1), some (.int x2), some (.int x3), some (.int x4), some (.int r1), none, none, none, none]) dX1_swapFor_6 (by decide) rfl ?_
  refine kw_aload_n dX1_swapFor_8 rfl ?_
  refine kw_iload dX1_swapFor_9 rfl ?_
  obtain ⟨r2, er2, h⟩ := Option.bind_eq_some_iff.mp h
  obtain ⟨ur2, eur2, er2⟩ := Option.bind_eq_some_iff.mp er2
  obtain ⟨fsr2, hor2⟩ := kp_ob_inv eur2
  refine kw_callV (As := [.int x4]) (S := []) kcX2 cbX1_swapFor_X2_awayBehind lkX1_40 imX2_awayBehind seX2_X2_awayBehind_X2_awayBehind rfl rfl (Nat.le_of_ble_eq_true rfl) dX1_swapFor_11 hor2 (X2_awayBehind_c G hp x1 x4 _ er2) (fun vv hh hq => ?_)
  rw [hq.1, hq.2]
  show kw_V G mX1_swapFor 14 [some (.ref x0), some (.ref x1), some (.int x2), some (.int x3), some (.int x4), some (.int r1), none, none, none, none] [.int r2] hp Q
  refine kw_istore (L' := [some (.ref x0), some (.ref x1), some (.int x2), some (.int x3), some (.int x4), some (.int r1), some (.int r2), none, none, none]) dX1_swapFor_14 (by decide) rfl ?_
  refine kw_aload_n dX1_swapFor_16 rfl ?_
  refine kw_iload_n dX1_swapFor_17 rfl ?_
  refine kw_iload dX1_swapFor_18 rfl ?_
  refine kw_iload dX1_swapFor_20 rfl ?_
  obtain ⟨r3, er3, h⟩ := Option.bind_eq_some_iff.mp h
  obtain ⟨ur3, eur3, er3⟩ := Option.bind_eq_some_iff.mp er3
  obtain ⟨fsr3, hor3⟩ := kp_ob_inv eur3
  refine kw_callV (As := [.int x3, .int r1, .int r2]) (S := []) kcX2 cbX1_swapFor_X2_doersOf lkX1_54 imX2_doersOf seX2_X2_doersOf_X2_doersOf rfl rfl (Nat.le_of_ble_eq_true rfl) dX1_swapFor_22 hor3 (X2_doersOf_c G hp x1 x3 r1 r2 _ er3) (fun vv hh hq => ?_)
  rw [hq.1, hq.2]
  show kw_V G mX1_swapFor 25 [some (.ref x0), some (.ref x1), some (.int x2), some (.int x3), some (.int x4), some (.int r1), some (.int r2), none, none, none] [.int r3] hp Q
  refine kw_iload_n dX1_swapFor_25 rfl ?_
  obtain ⟨r4, er4, h⟩ := Option.bind_eq_some_iff.mp h
  refine kw_callSN (As := [.int r3, .int x2]) (S := []) cbX1_swapFor_X11_holds lnX1_57 stX11_holds rfl rfl (Nat.le_of_ble_eq_true rfl) dX1_swapFor_26 (X11_holds_c G hp r3 x2 _ er4) (fun vv hh hq => ?_)
  rw [hq.1, hq.2]
  show kw_V G mX1_swapFor 29 [some (.ref x0), some (.ref x1), some (.int x2), some (.int x3), some (.int x4), some (.int r1), some (.int r2), none, none, none] [.int r4] hp Q
  refine kw_if_eq 34 dX1_swapFor_29 (by decide) (fun c22 => ?_) (fun c22 => ?_)
  · have h := (if_pos c22).symm.trans h
    refine kw_aload_n dX1_swapFor_34 rfl ?_
    obtain ⟨v5, ev5, h⟩ := Option.bind_eq_some_iff.mp h
    refine kv_gR gfX1_12 dX1_swapFor_35 ev5 ?_
    refine kw_aload_n dX1_swapFor_38 rfl ?_
    obtain ⟨r6, er6, h⟩ := Option.bind_eq_some_iff.mp h
    obtain ⟨ur6, eur6, er6⟩ := Option.bind_eq_some_iff.mp er6
    obtain ⟨fsr6, hor6⟩ := kp_ob_inv eur6
    refine kw_callV (As := [.ref x1]) (S := []) kcX2 cbX1_swapFor_X2_become lkX1_111 imX2_become seX2_X2_become_X2_become rfl rfl (Nat.le_of_ble_eq_true rfl) dX1_swapFor_39 hor6 (X2_become_c G hp v5 x1 _ er6) (fun vv hh hq => ?_)
    rw [hq.1, hq.2]
    show kw_V G mX1_swapFor 42 [some (.ref x0), some (.ref x1), some (.int x2), some (.int x3), some (.int x4), some (.int r1), some (.int r2), none, none, none] [] r6 Q
    refine kw_iconst (v := nI 0) dX1_swapFor_42 (by decide) ?_
    refine kw_istore (L' := [some (.ref x0), some (.ref x1), some (.int x2), some (.int x3), some (.int x4), some (.int r1), some (.int r2), some (.int (nI 0)), none, none]) dX1_swapFor_43 (by decide) rfl ?_
    refine kw_mask [true, false, true, true, false, true, true, true, true, true] (L' := [some (.ref x0), none, some (.int x2), some (.int x3), none, some (.int r1), some (.int r2), some (.int (nI 0)), none, none]) rfl ?_
    exact X1_swapFor_L45_t G Q x0 x2 x3 r1 r2 _ (nI 0, r6) _ h hK
  · have h := (if_neg c22).symm.trans h
    refine kw_iconst (v := nI 0) dX1_swapFor_32 (by decide) ?_
    have h := Option.some.inj h
    subst h
    exact kw_iret rfl dX1_swapFor_33 hK
/-! KitchenWheels$Kitchen.firstEmptySlot()I -/
def X2_firstEmptySlot_K2 (G : kw_G) (Q : Option Value → kw_H → Prop) (hp : kw_H) (x0 : Nat) (r : (Int32) ⊕ (Int32)) : Prop := match r with
  | .inl z => kw_V G mX2_firstEmptySlot 2 [some (.ref x0), some (.int z)] [] hp Q
  | .inr r => Q (some (.int r)) hp
def X2_firstEmptySlot_J35 (hp : kw_H) : Option (Int32) :=
  some ((-1000000))
set_option maxRecDepth 100000 in
set_option maxHeartbeats 4000000 in
theorem X2_firstEmptySlot_J35_t (G : kw_G) (Q : Option Value → kw_H → Prop) (hp : kw_H) (r : Int32) (h : X2_firstEmptySlot_J35 hp = some r) (hK : Q (some (.int r)) hp) : kw_V G mX2_firstEmptySlot 35 [none, none] [] hp Q := by
  unfold X2_firstEmptySlot_J35 at h
  refine kw_ldc (v := (-1000000)) dX2_firstEmptySlot_35 ckX2_52 ?_
  have h := Option.some.inj h
  subst h
  exact kw_iret rfl dX2_firstEmptySlot_37 hK
def X2_firstEmptySlot_J27 (hp : kw_H) (x1 : Int32) : Option (Int32) :=
  some (x1)
set_option maxRecDepth 100000 in
set_option maxHeartbeats 4000000 in
theorem X2_firstEmptySlot_J27_t (G : kw_G) (Q : Option Value → kw_H → Prop) (hp : kw_H) (x1 : Int32) (r : Int32) (h : X2_firstEmptySlot_J27 hp x1 = some r) (hK : Q (some (.int r)) hp) : kw_V G mX2_firstEmptySlot 27 [none, some (.int x1)] [] hp Q := by
  unfold X2_firstEmptySlot_J27 at h
  refine kw_iload_n dX2_firstEmptySlot_27 rfl ?_
  have h := Option.some.inj h
  subst h
  exact kw_iret rfl dX2_firstEmptySlot_28 hK
def X2_firstEmptySlot_b2 (hp : kw_H) (x0 : Nat) (x1 : Int32) : Option (((Int32) ⊕ (Int32))) :=
  (kp_gI hp x0 [2] 4).bind fun v1 =>
  (if v1 ≤ x1 then
  (X2_firstEmptySlot_J35 hp).map (fun r => .inr (r))
else
  (if (nI 8) ≤ x1 then
  (X2_firstEmptySlot_J35 hp).map (fun r => .inr (r))
else
  (kp_gR hp x0 [2] 0).bind fun v4 =>
  (kp_ldI hp v4 x1).bind fun v5 =>
  (if v5 = (nI 6) then
  (X2_firstEmptySlot_J27 hp x1).map (fun r => .inr (r))
else
  some (.inl (x1 + (nI 1))))))
set_option maxRecDepth 100000 in
set_option maxHeartbeats 4000000 in
theorem X2_firstEmptySlot_b2_t (G : kw_G) (Q : Option Value → kw_H → Prop) (hp : kw_H) (x0 : Nat) (x1 : Int32) (r : ((Int32) ⊕ (Int32))) (h : X2_firstEmptySlot_b2 hp x0 x1 = some r) (hK : X2_firstEmptySlot_K2 G Q hp x0 r) : kw_V G mX2_firstEmptySlot 2 [some (.ref x0), some (.int x1)] [] hp Q := by
  unfold X2_firstEmptySlot_b2 at h
  refine kw_iload_n dX2_firstEmptySlot_2 rfl ?_
  refine kw_aload_n dX2_firstEmptySlot_3 rfl ?_
  obtain ⟨v1, ev1, h⟩ := Option.bind_eq_some_iff.mp h
  refine kv_gI gfX2_27 dX2_firstEmptySlot_4 ev1 ?_
  refine kw_icmp_ge 35 dX2_firstEmptySlot_7 (by decide) (fun c9 => ?_) (fun c9 => ?_)
  · have h := (if_pos c9).symm.trans h
    refine kw_mask [false, false] (L' := [none, none]) rfl ?_
    obtain ⟨r2, hr2, hrr2⟩ := Option.map_eq_some_iff.mp h
    subst hrr2
    exact X2_firstEmptySlot_J35_t G Q hp r2 hr2 hK
  · have h := (if_neg c9).symm.trans h
    refine kw_iload_n dX2_firstEmptySlot_10 rfl ?_
    refine kw_bipush (v := nI 8) dX2_firstEmptySlot_11 (by decide) ?_
    refine kw_icmp_ge 35 dX2_firstEmptySlot_13 (by decide) (fun c8 => ?_) (fun c8 => ?_)
    · have h := (if_pos c8).symm.trans h
      refine kw_mask [false, false] (L' := [none, none]) rfl ?_
      obtain ⟨r3, hr3, hrr3⟩ := Option.map_eq_some_iff.mp h
      subst hrr3
      exact X2_firstEmptySlot_J35_t G Q hp r3 hr3 hK
    · have h := (if_neg c8).symm.trans h
      refine kw_aload_n dX2_firstEmptySlot_16 rfl ?_
      obtain ⟨v4, ev4, h⟩ := Option.bind_eq_some_iff.mp h
      refine kv_gR gfX2_9 dX2_firstEmptySlot_17 ev4 ?_
      refine kw_iload_n dX2_firstEmptySlot_20 rfl ?_
      obtain ⟨v5, ev5, h⟩ := Option.bind_eq_some_iff.mp h
      refine kv_ldI dX2_firstEmptySlot_21 ev5 ?_
      refine kw_bipush (v := nI 6) dX2_firstEmptySlot_22 (by decide) ?_
      refine kw_icmp_ne 29 dX2_firstEmptySlot_24 (by decide) (fun c7 => ?_) (fun c7 => ?_)
      · have h := (if_neg c7).symm.trans h
        refine kv_iinc (w := nI 1) (L' := [some (.ref x0), some (.int (x1 + (nI 1)))]) dX2_firstEmptySlot_29 (by decide) rfl (by decide) rfl ?_
        refine kw_goto 2 dX2_firstEmptySlot_32 (by decide) ?_
        have h := Option.some.inj h
        subst h
        exact hK
      · have h := (if_pos c7).symm.trans h
        refine kw_mask [false, true] (L' := [none, some (.int x1)]) rfl ?_
        obtain ⟨r6, hr6, hrr6⟩ := Option.map_eq_some_iff.mp h
        subst hrr6
        exact X2_firstEmptySlot_J27_t G Q hp x1 r6 hr6 hK
def X2_firstEmptySlot_B2 (hp : kw_H) (x0 : Nat) (z : Int32) : Option (((Int32) ⊕ (Int32))) := X2_firstEmptySlot_b2 hp x0 z
theorem X2_firstEmptySlot_L2_t (G : kw_G) (Q : Option Value → kw_H → Prop) (hp : kw_H) (x0 : Nat) (n : Nat) (z : Int32) (r : Int32) (h : kp_lp (X2_firstEmptySlot_B2 hp x0) n z = some r) (hK : Q (some (.int r)) hp) : kw_V G mX2_firstEmptySlot 2 [some (.ref x0), some (.int z)] [] hp Q :=
  kv_lp _ (fun z => kw_V G mX2_firstEmptySlot 2 [some (.ref x0), some (.int z)] [] hp Q) (fun r => Q (some (.int r)) hp) (fun z x hb hx => X2_firstEmptySlot_b2_t G Q hp x0 z x hb (by cases x <;> exact hx)) n z r h hK
def X2_firstEmptySlot_F (hp : kw_H) (x0 : Nat) : Option (Int32) :=
  kp_lp (X2_firstEmptySlot_B2 hp x0) 2000 (nI 0)
set_option maxRecDepth 100000 in
set_option maxHeartbeats 4000000 in
theorem X2_firstEmptySlot_c (G : kw_G) (hp : kw_H) (x0 : Nat) (r : Int32) (h : X2_firstEmptySlot_F hp x0 = some r) : kw_Met G mX2_firstEmptySlot [.ref x0] hp (fun v h2 => v = some (.int r) ∧ h2 = hp) := by
  refine kw_met (L := [some (.ref x0), none]) (r := 1) (by decide +kernel) (Nat.le_of_ble_eq_true rfl) rfl ?_
  unfold X2_firstEmptySlot_F at h
  obtain ⟨Q, hQ⟩ : ∃ Q : Option Value → kw_H → Prop, Q = (fun v h2 => v = some (.int r) ∧ h2 = hp) := ⟨_, rfl⟩
  have hK : Q (some (.int r)) hp := by rw [hQ]; exact ⟨rfl, rfl⟩
  rw [← hQ]
  clear hQ
  refine kw_iconst (v := nI 0) dX2_firstEmptySlot_0 (by decide) ?_
  refine kw_istore_n (L' := [some (.ref x0), some (.int (nI 0))]) dX2_firstEmptySlot_1 (by decide) rfl ?_
  exact X2_firstEmptySlot_L2_t G Q hp x0 _ (nI 0) _ h hK
/-! KitchenWheels$Foreteller.nameToWrite(LKitchenWheels$Kitchen;)I -/
def X1_nameToWrite_K36 (G : kw_G) (Q : Option Value → kw_H → Prop) (x0 : Nat) (x2 : Int32) (r : (Int32 × Int32 × Int32 × kw_H) ⊕ (Int32 × kw_H)) : Prop := match r with
  | .inl z => kw_V G mX1_nameToWrite 36 [some (.ref x0), none, some (.int x2), some (.int z.1), some (.int z.2.1), some (.int z.2.2.1), none] [] z.2.2.2 Q
  | .inr r => Q (some (.int r.1)) r.2
def X1_nameToWrite_J86 (hp : kw_H) (x3 : Int32) : Option (Int32 × kw_H) :=
  some ((x3, hp))
set_option maxRecDepth 100000 in
set_option maxHeartbeats 4000000 in
theorem X1_nameToWrite_J86_t (G : kw_G) (Q : Option Value → kw_H → Prop) (hp : kw_H) (x3 : Int32) (r : Int32 × kw_H) (h : X1_nameToWrite_J86 hp x3 = some r) (hK : Q (some (.int r.1)) r.2) : kw_V G mX1_nameToWrite 86 [none, none, none, some (.int x3), none, none, none] [] hp Q := by
  unfold X1_nameToWrite_J86 at h
  refine kw_iload_n dX1_nameToWrite_86 rfl ?_
  have h := Option.some.inj h
  subst h
  exact kw_iret rfl dX1_nameToWrite_87 hK
def X1_nameToWrite_J80 (hp : kw_H) (x0 : Nat) (x2 : Int32) (x3 : Int32) (x4 : Int32) (x5 : Int32) : Option (((Int32 × Int32 × Int32 × kw_H) ⊕ (Int32 × kw_H))) :=
  some (.inl (x3, x4, x5 + (nI 1), hp))
set_option maxRecDepth 100000 in
set_option maxHeartbeats 4000000 in
theorem X1_nameToWrite_J80_t (G : kw_G) (Q : Option Value → kw_H → Prop) (hp : kw_H) (x0 : Nat) (x2 : Int32) (x3 : Int32) (x4 : Int32) (x5 : Int32) (r : ((Int32 × Int32 × Int32 × kw_H) ⊕ (Int32 × kw_H))) (h : X1_nameToWrite_J80 hp x0 x2 x3 x4 x5 = some r) (hK : X1_nameToWrite_K36 G Q x0 x2 r) : kw_V G mX1_nameToWrite 80 [some (.ref x0), none, some (.int x2), some (.int x3), some (.int x4), some (.int x5), none] [] hp Q := by
  unfold X1_nameToWrite_J80 at h
  refine kv_iinc (w := nI 1) (L' := [some (.ref x0), none, some (.int x2), some (.int x3), some (.int x4), some (.int (x5 + (nI 1))), none]) dX1_nameToWrite_80 (by decide) rfl (by decide) rfl ?_
  refine kw_goto 36 dX1_nameToWrite_83 (by decide) ?_
  have h := Option.some.inj h
  subst h
  exact hK
def X1_nameToWrite_b36 (x0 : Nat) (x2 : Int32) (x3 : Int32) (x4 : Int32) (x5 : Int32) (hp : kw_H) : Option (((Int32 × Int32 × Int32 × kw_H) ⊕ (Int32 × kw_H))) :=
  (if (nI 6) ≤ x5 then
  (X1_nameToWrite_J86 hp x3).map (fun r => .inr (r))
else
  (kp_gR hp x0 [1] 0).bind fun v6 =>
  (kp_gR hp v6 [2] 0).bind fun v7 =>
  (kp_stI hp v7 x2 x5).bind fun hp8 =>
  (kp_gR hp8 x0 [1] 0).bind fun v9 =>
  ((kp_ob hp8 x0 1).bind fun _ => X1_spreadAsTurned_F hp8 x0 v9 (nI 12)).bind fun r10 =>
  (if x4 ≤ r10.1 then
  X1_nameToWrite_J80 r10.2 x0 x2 x3 x4 x5
else
  X1_nameToWrite_J80 r10.2 x0 x2 x5 r10.1 x5))
set_option maxRecDepth 100000 in
set_option maxHeartbeats 4000000 in
theorem X1_nameToWrite_b36_t (G : kw_G) (Q : Option Value → kw_H → Prop) (x0 : Nat) (x2 : Int32) (x3 : Int32) (x4 : Int32) (x5 : Int32) (hp : kw_H) (r : ((Int32 × Int32 × Int32 × kw_H) ⊕ (Int32 × kw_H))) (h : X1_nameToWrite_b36 x0 x2 x3 x4 x5 hp = some r) (hK : X1_nameToWrite_K36 G Q x0 x2 r) : kw_V G mX1_nameToWrite 36 [some (.ref x0), none, some (.int x2), some (.int x3), some (.int x4), some (.int x5), none] [] hp Q := by
  unfold X1_nameToWrite_b36 at h
  refine kw_iload dX1_nameToWrite_36 rfl ?_
  refine kw_bipush (v := nI 6) dX1_nameToWrite_38 (by decide) ?_
  refine kw_icmp_ge 86 dX1_nameToWrite_40 (by decide) (fun c12 => ?_) (fun c12 => ?_)
  · have h := (if_pos c12).symm.trans h
    refine kw_mask [false, true, false, true, false, false, true] (L' := [none, none, none, some (.int x3), none, none, none]) rfl ?_
    obtain ⟨r5, hr5, hrr5⟩ := Option.map_eq_some_iff.mp h
    subst hrr5
    exact X1_nameToWrite_J86_t G Q hp x3 r5 hr5 hK
  · have h := (if_neg c12).symm.trans h
    refine kw_aload_n dX1_nameToWrite_43 rfl ?_
    obtain ⟨v6, ev6, h⟩ := Option.bind_eq_some_iff.mp h
    refine kv_gR gfX1_12 dX1_nameToWrite_44 ev6 ?_
    obtain ⟨v7, ev7, h⟩ := Option.bind_eq_some_iff.mp h
    refine kv_gR gfX1_123 dX1_nameToWrite_47 ev7 ?_
    refine kw_iload_n dX1_nameToWrite_50 rfl ?_
    refine kw_iload dX1_nameToWrite_51 rfl ?_
    obtain ⟨hp8, ehp8, h⟩ := Option.bind_eq_some_iff.mp h
    refine kv_stI dX1_nameToWrite_53 ehp8 ?_
    refine kw_aload_n dX1_nameToWrite_54 rfl ?_
    refine kw_aload_n dX1_nameToWrite_55 rfl ?_
    obtain ⟨v9, ev9, h⟩ := Option.bind_eq_some_iff.mp h
    refine kv_gR gfX1_12 dX1_nameToWrite_56 ev9 ?_
    refine kw_bipush (v := nI 12) dX1_nameToWrite_59 (by decide) ?_
    obtain ⟨r10, er10, h⟩ := Option.bind_eq_some_iff.mp h
    obtain ⟨ur10, eur10, er10⟩ := Option.bind_eq_some_iff.mp er10
    obtain ⟨fsr10, hor10⟩ := kp_ob_inv eur10
    refine kw_callV (As := [.ref v9, .int (nI 12)]) (S := []) kcX1 cbX1_nameToWrite_X1_spreadAsTurned lkX1_129 imX1_spreadAsTurned seX1_X1_spreadAsTurned_X1_spreadAsTurned rfl rfl (Nat.le_of_ble_eq_true rfl) dX1_nameToWrite_61 hor10 (X1_spreadAsTurned_c G hp8 x0 v9 (nI 12) _ er10) (fun vv hh hq => ?_)
    rw [hq.1, hq.2]
    show kw_V G mX1_nameToWrite 64 [some (.ref x0), none, some (.int x2), some (.int x3), some (.int x4), some (.int x5), none] [.int r10.1] r10.2 Q
    refine kw_istore (L' := [some (.ref x0), none, some (.int x2), some (.int x3), some (.int x4), some (.int x5), some (.int r10.1)]) dX1_nameToWrite_64 (by decide) rfl ?_
    refine kw_iload dX1_nameToWrite_66 rfl ?_
    refine kw_iload dX1_nameToWrite_68 rfl ?_
    refine kw_icmp_ge 80 dX1_nameToWrite_70 (by decide) (fun c11 => ?_) (fun c11 => ?_)
    · have h := (if_pos c11).symm.trans h
      refine kw_mask [true, true, true, true, true, true, false] (L' := [some (.ref x0), none, some (.int x2), some (.int x3), some (.int x4), some (.int x5), none]) rfl ?_
      exact X1_nameToWrite_J80_t G Q r10.2 x0 x2 x3 x4 x5 _ h hK
    · have h := (if_neg c11).symm.trans h
      refine kw_iload dX1_nameToWrite_73 rfl ?_
      refine kw_istore (L' := [some (.ref x0), none, some (.int x2), some (.int x3), some (.int r10.1), some (.int x5), some (.int r10.1)]) dX1_nameToWrite_75 (by decide) rfl ?_
      refine kw_iload dX1_nameToWrite_77 rfl ?_
      refine kw_istore_n (L' := [some (.ref x0), none, some (.int x2), some (.int x5), some (.int r10.1), some (.int x5), some (.int r10.1)]) dX1_nameToWrite_79 (by decide) rfl ?_
      refine kw_mask [true, true, true, true, true, true, false] (L' := [some (.ref x0), none, some (.int x2), some (.int x5), some (.int r10.1), some (.int x5), none]) rfl ?_
      exact X1_nameToWrite_J80_t G Q r10.2 x0 x2 x5 r10.1 x5 _ h hK
def X1_nameToWrite_B36 (x0 : Nat) (x2 : Int32) (z : Int32 × Int32 × Int32 × kw_H) : Option (((Int32 × Int32 × Int32 × kw_H) ⊕ (Int32 × kw_H))) := X1_nameToWrite_b36 x0 x2 z.1 z.2.1 z.2.2.1 z.2.2.2
theorem X1_nameToWrite_L36_t (G : kw_G) (Q : Option Value → kw_H → Prop) (x0 : Nat) (x2 : Int32) (n : Nat) (z : Int32 × Int32 × Int32 × kw_H) (r : Int32 × kw_H) (h : kp_lp (X1_nameToWrite_B36 x0 x2) n z = some r) (hK : Q (some (.int r.1)) r.2) : kw_V G mX1_nameToWrite 36 [some (.ref x0), none, some (.int x2), some (.int z.1), some (.int z.2.1), some (.int z.2.2.1), none] [] z.2.2.2 Q :=
  kv_lp _ (fun z => kw_V G mX1_nameToWrite 36 [some (.ref x0), none, some (.int x2), some (.int z.1), some (.int z.2.1), some (.int z.2.2.1), none] [] z.2.2.2 Q) (fun r => Q (some (.int r.1)) r.2) (fun z x hb hx => X1_nameToWrite_b36_t G Q x0 x2 z.1 z.2.1 z.2.2.1 z.2.2.2 x hb (by cases x <;> exact hx)) n z r h hK
def X1_nameToWrite_F (hp : kw_H) (x0 : Nat) (x1 : Nat) : Option (Int32 × kw_H) :=
  ((kp_ob hp x1 2).bind fun _ => X2_firstEmptySlot_F hp x1).bind fun r1 =>
  (X11_within_F hp r1 (nI 0) (nI 7)).bind fun r2 =>
  (if r2 = 0 then
  some (((-1000000), hp))
else
  (kp_gR hp x0 [1] 0).bind fun v3 =>
  ((kp_ob hp v3 2).bind fun _ => X2_become_F hp v3 x1).bind fun r4 =>
  kp_lp (X1_nameToWrite_B36 x0 r1) 2000 ((-1000000), nI 1000000, nI 0, r4))
set_option maxRecDepth 100000 in
set_option maxHeartbeats 4000000 in
theorem X1_nameToWrite_c (G : kw_G) (hp : kw_H) (x0 : Nat) (x1 : Nat) (r : Int32 × kw_H) (h : X1_nameToWrite_F hp x0 x1 = some r) : kw_Met G mX1_nameToWrite [.ref x0, .ref x1] hp (fun v h2 => v = some (.int r.1) ∧ h2 = r.2) := by
  refine kw_met (L := [some (.ref x0), some (.ref x1), none, none, none, none, none]) (r := 5) (by decide +kernel) (Nat.le_of_ble_eq_true rfl) rfl ?_
  unfold X1_nameToWrite_F at h
  obtain ⟨Q, hQ⟩ : ∃ Q : Option Value → kw_H → Prop, Q = (fun v h2 => v = some (.int r.1) ∧ h2 = r.2) := ⟨_, rfl⟩
  have hK : Q (some (.int r.1)) r.2 := by rw [hQ]; exact ⟨rfl, rfl⟩
  rw [← hQ]
  clear hQ
  refine kw_aload_n dX1_nameToWrite_0 rfl ?_
  obtain ⟨r1, er1, h⟩ := Option.bind_eq_some_iff.mp h
  obtain ⟨ur1, eur1, er1⟩ := Option.bind_eq_some_iff.mp er1
  obtain ⟨fsr1, hor1⟩ := kp_ob_inv eur1
  refine kw_callV (As := []) (S := []) kcX2 cbX1_nameToWrite_X2_firstEmptySlot lkX1_126 imX2_firstEmptySlot seX2_X2_firstEmptySlot_X2_firstEmptySlot rfl rfl (Nat.le_of_ble_eq_true rfl) dX1_nameToWrite_1 hor1 (X2_firstEmptySlot_c G hp x1 _ er1) (fun vv hh hq => ?_)
  rw [hq.1, hq.2]
  show kw_V G mX1_nameToWrite 4 [some (.ref x0), some (.ref x1), none, none, none, none, none] [.int r1] hp Q
  refine kw_istore_n (L' := [some (.ref x0), some (.ref x1), some (.int r1), none, none, none, none]) dX1_nameToWrite_4 (by decide) rfl ?_
  refine kw_iload_n dX1_nameToWrite_5 rfl ?_
  refine kw_iconst (v := nI 0) dX1_nameToWrite_6 (by decide) ?_
  refine kw_bipush (v := nI 7) dX1_nameToWrite_7 (by decide) ?_
  obtain ⟨r2, er2, h⟩ := Option.bind_eq_some_iff.mp h
  refine kw_callSN (As := [.int r1, .int (nI 0), .int (nI 7)]) (S := []) cbX1_nameToWrite_X11_within lnX1_119 stX11_within rfl rfl (Nat.le_of_ble_eq_true rfl) dX1_nameToWrite_9 (X11_within_c G hp r1 (nI 0) (nI 7) _ er2) (fun vv hh hq => ?_)
  rw [hq.1, hq.2]
  show kw_V G mX1_nameToWrite 12 [some (.ref x0), some (.ref x1), some (.int r1), none, none, none, none] [.int r2] hp Q
  refine kw_if_ne 18 dX1_nameToWrite_12 (by decide) (fun c13 => ?_) (fun c13 => ?_)
  · have h := (if_neg c13).symm.trans h
    refine kw_aload_n dX1_nameToWrite_18 rfl ?_
    obtain ⟨v3, ev3, h⟩ := Option.bind_eq_some_iff.mp h
    refine kv_gR gfX1_12 dX1_nameToWrite_19 ev3 ?_
    refine kw_aload_n dX1_nameToWrite_22 rfl ?_
    obtain ⟨r4, er4, h⟩ := Option.bind_eq_some_iff.mp h
    obtain ⟨ur4, eur4, er4⟩ := Option.bind_eq_some_iff.mp er4
    obtain ⟨fsr4, hor4⟩ := kp_ob_inv eur4
    refine kw_callV (As := [.ref x1]) (S := []) kcX2 cbX1_nameToWrite_X2_become lkX1_111 imX2_become seX2_X2_become_X2_become rfl rfl (Nat.le_of_ble_eq_true rfl) dX1_nameToWrite_23 hor4 (X2_become_c G hp v3 x1 _ er4) (fun vv hh hq => ?_)
    rw [hq.1, hq.2]
    show kw_V G mX1_nameToWrite 26 [some (.ref x0), some (.ref x1), some (.int r1), none, none, none, none] [] r4 Q
    refine kw_ldc (v := (-1000000)) dX1_nameToWrite_26 ckX1_61 ?_
    refine kw_istore_n (L' := [some (.ref x0), some (.ref x1), some (.int r1), some (.int ((-1000000))), none, none, none]) dX1_nameToWrite_28 (by decide) rfl ?_
    refine kw_ldc (v := nI 1000000) dX1_nameToWrite_29 ckX1_99 ?_
    refine kw_istore (L' := [some (.ref x0), some (.ref x1), some (.int r1), some (.int ((-1000000))), some (.int (nI 1000000)), none, none]) dX1_nameToWrite_31 (by decide) rfl ?_
    refine kw_iconst (v := nI 0) dX1_nameToWrite_33 (by decide) ?_
    refine kw_istore (L' := [some (.ref x0), some (.ref x1), some (.int r1), some (.int ((-1000000))), some (.int (nI 1000000)), some (.int (nI 0)), none]) dX1_nameToWrite_34 (by decide) rfl ?_
    refine kw_mask [true, false, true, true, true, true, true] (L' := [some (.ref x0), none, some (.int r1), some (.int ((-1000000))), some (.int (nI 1000000)), some (.int (nI 0)), none]) rfl ?_
    exact X1_nameToWrite_L36_t G Q x0 r1 _ ((-1000000), nI 1000000, nI 0, r4) _ h hK
  · have h := (if_pos c13).symm.trans h
    refine kw_ldc (v := (-1000000)) dX1_nameToWrite_15 ckX1_61 ?_
    have h := Option.some.inj h
    subst h
    exact kw_iret rfl dX1_nameToWrite_17 hK
/-! KitchenWheels$Foreteller.leastOf(I)I -/
def X1_leastOf_K2 (G : kw_G) (Q : Option Value → kw_H → Prop) (hp : kw_H) (x0 : Int32) (r : (Int32) ⊕ (Int32)) : Prop := match r with
  | .inl z => kw_V G mX1_leastOf 2 [some (.int x0), some (.int z)] [] hp Q
  | .inr r => Q (some (.int r)) hp
def X1_leastOf_J24 (hp : kw_H) : Option (Int32) :=
  some ((-1))
set_option maxRecDepth 100000 in
set_option maxHeartbeats 4000000 in
theorem X1_leastOf_J24_t (G : kw_G) (Q : Option Value → kw_H → Prop) (hp : kw_H) (r : Int32) (h : X1_leastOf_J24 hp = some r) (hK : Q (some (.int r)) hp) : kw_V G mX1_leastOf 24 [none, none] [] hp Q := by
  unfold X1_leastOf_J24 at h
  refine kw_iconst (v := (-1)) dX1_leastOf_24 (by decide) ?_
  have h := Option.some.inj h
  subst h
  exact kw_iret rfl dX1_leastOf_25 hK
def X1_leastOf_J16 (hp : kw_H) (x1 : Int32) : Option (Int32) :=
  some (x1)
set_option maxRecDepth 100000 in
set_option maxHeartbeats 4000000 in
theorem X1_leastOf_J16_t (G : kw_G) (Q : Option Value → kw_H → Prop) (hp : kw_H) (x1 : Int32) (r : Int32) (h : X1_leastOf_J16 hp x1 = some r) (hK : Q (some (.int r)) hp) : kw_V G mX1_leastOf 16 [none, some (.int x1)] [] hp Q := by
  unfold X1_leastOf_J16 at h
  refine kw_iload_n dX1_leastOf_16 rfl ?_
  have h := Option.some.inj h
  subst h
  exact kw_iret rfl dX1_leastOf_17 hK
def X1_leastOf_b2 (hp : kw_H) (x0 : Int32) (x1 : Int32) : Option (((Int32) ⊕ (Int32))) :=
  (if (nI 6) ≤ x1 then
  (X1_leastOf_J24 hp).map (fun r => .inr (r))
else
  (X11_holds_F hp x0 x1).bind fun r2 =>
  (if r2 = 0 then
  some (.inl (x1 + (nI 1)))
else
  (X1_leastOf_J16 hp x1).map (fun r => .inr (r))))
set_option maxRecDepth 100000 in
set_option maxHeartbeats 4000000 in
theorem X1_leastOf_b2_t (G : kw_G) (Q : Option Value → kw_H → Prop) (hp : kw_H) (x0 : Int32) (x1 : Int32) (r : ((Int32) ⊕ (Int32))) (h : X1_leastOf_b2 hp x0 x1 = some r) (hK : X1_leastOf_K2 G Q hp x0 r) : kw_V G mX1_leastOf 2 [some (.int x0), some (.int x1)] [] hp Q := by
  unfold X1_leastOf_b2 at h
  refine kw_iload_n dX1_leastOf_2 rfl ?_
  refine kw_bipush (v := nI 6) dX1_leastOf_3 (by decide) ?_
  refine kw_icmp_ge 24 dX1_leastOf_5 (by decide) (fun c5 => ?_) (fun c5 => ?_)
  · have h := (if_pos c5).symm.trans h
    refine kw_mask [false, false] (L' := [none, none]) rfl ?_
    obtain ⟨r1, hr1, hrr1⟩ := Option.map_eq_some_iff.mp h
    subst hrr1
    exact X1_leastOf_J24_t G Q hp r1 hr1 hK
  · have h := (if_neg c5).symm.trans h
    refine kw_iload_n dX1_leastOf_8 rfl ?_
    refine kw_iload_n dX1_leastOf_9 rfl ?_
    obtain ⟨r2, er2, h⟩ := Option.bind_eq_some_iff.mp h
    refine kw_callSN (As := [.int x0, .int x1]) (S := []) cbX1_leastOf_X11_holds lnX1_57 stX11_holds rfl rfl (Nat.le_of_ble_eq_true rfl) dX1_leastOf_10 (X11_holds_c G hp x0 x1 _ er2) (fun vv hh hq => ?_)
    rw [hq.1, hq.2]
    show kw_V G mX1_leastOf 13 [some (.int x0), some (.int x1)] [.int r2] hp Q
    refine kw_if_eq 18 dX1_leastOf_13 (by decide) (fun c4 => ?_) (fun c4 => ?_)
    · have h := (if_pos c4).symm.trans h
      refine kv_iinc (w := nI 1) (L' := [some (.int x0), some (.int (x1 + (nI 1)))]) dX1_leastOf_18 (by decide) rfl (by decide) rfl ?_
      refine kw_goto 2 dX1_leastOf_21 (by decide) ?_
      have h := Option.some.inj h
      subst h
      exact hK
    · have h := (if_neg c4).symm.trans h
      refine kw_mask [false, true] (L' := [none, some (.int x1)]) rfl ?_
      obtain ⟨r3, hr3, hrr3⟩ := Option.map_eq_some_iff.mp h
      subst hrr3
      exact X1_leastOf_J16_t G Q hp x1 r3 hr3 hK
def X1_leastOf_B2 (hp : kw_H) (x0 : Int32) (z : Int32) : Option (((Int32) ⊕ (Int32))) := X1_leastOf_b2 hp x0 z
theorem X1_leastOf_L2_t (G : kw_G) (Q : Option Value → kw_H → Prop) (hp : kw_H) (x0 : Int32) (n : Nat) (z : Int32) (r : Int32) (h : kp_lp (X1_leastOf_B2 hp x0) n z = some r) (hK : Q (some (.int r)) hp) : kw_V G mX1_leastOf 2 [some (.int x0), some (.int z)] [] hp Q :=
  kv_lp _ (fun z => kw_V G mX1_leastOf 2 [some (.int x0), some (.int z)] [] hp Q) (fun r => Q (some (.int r)) hp) (fun z x hb hx => X1_leastOf_b2_t G Q hp x0 z x hb (by cases x <;> exact hx)) n z r h hK
def X1_leastOf_F (hp : kw_H) (x0 : Int32) : Option (Int32) :=
  kp_lp (X1_leastOf_B2 hp x0) 2000 (nI 0)
set_option maxRecDepth 100000 in
set_option maxHeartbeats 4000000 in
theorem X1_leastOf_c (G : kw_G) (hp : kw_H) (x0 : Int32) (r : Int32) (h : X1_leastOf_F hp x0 = some r) : kw_Met G mX1_leastOf [.int x0] hp (fun v h2 => v = some (.int r) ∧ h2 = hp) := by
  refine kw_met (L := [some (.int x0), none]) (r := 1) (by decide +kernel) (Nat.le_of_ble_eq_true rfl) rfl ?_
  unfold X1_leastOf_F at h
  obtain ⟨Q, hQ⟩ : ∃ Q : Option Value → kw_H → Prop, Q = (fun v h2 => v = some (.int r) ∧ h2 = hp) := ⟨_, rfl⟩
  have hK : Q (some (.int r)) hp := by rw [hQ]; exact ⟨rfl, rfl⟩
  rw [← hQ]
  clear hQ
  refine kw_iconst (v := nI 0) dX1_leastOf_0 (by decide) ?_
  refine kw_istore_n (L' := [some (.int x0), some (.int (nI 0))]) dX1_leastOf_1 (by decide) rfl ?_
  exact X1_leastOf_L2_t G Q hp x0 _ (nI 0) _ h hK
/-! KitchenWheels$Rows.isRow(I)Z -/
def X6_isRow_F (hp : kw_H) (x0 : Int32) : Option (Int32) :=
  (X11_within_F hp x0 (nI 0) (nI 7)).bind fun r1 =>
  (kp_bool r1).bind fun v2 =>
  some (v2)
set_option maxRecDepth 100000 in
set_option maxHeartbeats 4000000 in
theorem X6_isRow_c (G : kw_G) (hp : kw_H) (x0 : Int32) (r : Int32) (h : X6_isRow_F hp x0 = some r) : kw_Met G mX6_isRow [.int x0] hp (fun v h2 => v = some (.int r) ∧ h2 = hp) := by
  refine kw_met (L := [some (.int x0)]) (r := 0) (by decide +kernel) (Nat.le_of_ble_eq_true rfl) rfl ?_
  unfold X6_isRow_F at h
  obtain ⟨Q, hQ⟩ : ∃ Q : Option Value → kw_H → Prop, Q = (fun v h2 => v = some (.int r) ∧ h2 = hp) := ⟨_, rfl⟩
  have hK : Q (some (.int r)) hp := by rw [hQ]; exact ⟨rfl, rfl⟩
  rw [← hQ]
  clear hQ
  refine kw_iload_n dX6_isRow_0 rfl ?_
  refine kw_iconst (v := nI 0) dX6_isRow_1 (by decide) ?_
  refine kw_bipush (v := nI 7) dX6_isRow_2 (by decide) ?_
  obtain ⟨r1, er1, h⟩ := Option.bind_eq_some_iff.mp h
  refine kw_callSN (As := [.int x0, .int (nI 0), .int (nI 7)]) (S := []) cbX6_isRow_X11_within lnX6_29 stX11_within rfl rfl (Nat.le_of_ble_eq_true rfl) dX6_isRow_4 (X11_within_c G hp x0 (nI 0) (nI 7) _ er1) (fun vv hh hq => ?_)
  rw [hq.1, hq.2]
  show kw_V G mX6_isRow 7 [some (.int x0)] [.int r1] hp Q
  obtain ⟨v2, ev2, h⟩ := Option.bind_eq_some_iff.mp h
  obtain ⟨qv2, bv2⟩ := kv_bool ev2
  have h := Option.some.inj h
  subst h
  rw [qv2]
  exact kw_zret rfl bv2 dX6_isRow_7 hK
/-! KitchenWheels$Rows.isMissing(I)Z -/
def X6_isMissing_F (hp : kw_H) (x0 : Nat) (x1 : Int32) : Option (Int32) :=
  (X6_isRow_F hp x1).bind fun r1 =>
  (if r1 = 0 then
  some (nI 1)
else
  (kp_gR hp x0 [6] 2).bind fun v2 =>
  (kp_ldI hp v2 x1).bind fun v3 =>
  (if v3 = ((-1)) then
  some (nI 1)
else
  some (nI 0)))
set_option maxRecDepth 100000 in
set_option maxHeartbeats 4000000 in
theorem X6_isMissing_c (G : kw_G) (hp : kw_H) (x0 : Nat) (x1 : Int32) (r : Int32) (h : X6_isMissing_F hp x0 x1 = some r) : kw_Met G mX6_isMissing [.ref x0, .int x1] hp (fun v h2 => v = some (.int r) ∧ h2 = hp) := by
  refine kw_met (L := [some (.ref x0), some (.int x1)]) (r := 0) (by decide +kernel) (Nat.le_of_ble_eq_true rfl) rfl ?_
  unfold X6_isMissing_F at h
  obtain ⟨Q, hQ⟩ : ∃ Q : Option Value → kw_H → Prop, Q = (fun v h2 => v = some (.int r) ∧ h2 = hp) := ⟨_, rfl⟩
  have hK : Q (some (.int r)) hp := by rw [hQ]; exact ⟨rfl, rfl⟩
  rw [← hQ]
  clear hQ
  refine kw_iload_n dX6_isMissing_0 rfl ?_
  obtain ⟨r1, er1, h⟩ := Option.bind_eq_some_iff.mp h
  refine kw_callS (As := [.int x1]) (S := []) cbX6_isMissing_X6_isRow lkX6_33 stX6_isRow rfl rfl (Nat.le_of_ble_eq_true rfl) dX6_isMissing_1 (X6_isRow_c G hp x1 _ er1) (fun vv hh hq => ?_)
  rw [hq.1, hq.2]
  show kw_V G mX6_isMissing 4 [some (.ref x0), some (.int x1)] [.int r1] hp Q
  refine kw_if_eq 17 dX6_isMissing_4 (by decide) (fun c5 => ?_) (fun c5 => ?_)
  · have h := (if_pos c5).symm.trans h
    refine kw_iconst (v := nI 1) dX6_isMissing_17 (by decide) ?_
    refine kw_goto 22 dX6_isMissing_18 (by decide) ?_
    have h := Option.some.inj h
    subst h
    exact kw_zret rfl (Or.inr rfl) dX6_isMissing_22 hK
  · have h := (if_neg c5).symm.trans h
    refine kw_aload_n dX6_isMissing_7 rfl ?_
    obtain ⟨v2, ev2, h⟩ := Option.bind_eq_some_iff.mp h
    refine kv_gR gfX6_20 dX6_isMissing_8 ev2 ?_
    refine kw_iload_n dX6_isMissing_11 rfl ?_
    obtain ⟨v3, ev3, h⟩ := Option.bind_eq_some_iff.mp h
    refine kv_ldI dX6_isMissing_12 ev3 ?_
    refine kw_iconst (v := (-1)) dX6_isMissing_13 (by decide) ?_
    refine kw_icmp_ne 21 dX6_isMissing_14 (by decide) (fun c4 => ?_) (fun c4 => ?_)
    · have h := (if_neg c4).symm.trans h
      refine kw_iconst (v := nI 0) dX6_isMissing_21 (by decide) ?_
      have h := Option.some.inj h
      subst h
      exact kw_zret rfl (Or.inl rfl) dX6_isMissing_22 hK
    · have h := (if_pos c4).symm.trans h
      refine kw_iconst (v := nI 1) dX6_isMissing_17 (by decide) ?_
      refine kw_goto 22 dX6_isMissing_18 (by decide) ?_
      have h := Option.some.inj h
      subst h
      exact kw_zret rfl (Or.inr rfl) dX6_isMissing_22 hK
/-! KitchenWheels$Rows.findingAt(III)I -/
def X6_findingAt_F (hp : kw_H) (x0 : Nat) (x1 : Int32) (x2 : Int32) (x3 : Int32) : Option (Int32) :=
  ((kp_ob hp x0 6).bind fun _ => X6_isMissing_F hp x0 x1).bind fun r1 =>
  (if r1 = 0 then
  (kp_gR hp x0 [6] 2).bind fun v2 =>
  (kp_ldI hp v2 x1).bind fun v3 =>
  (if x2 < 0 then
  some (nI 2)
else
  (if x3 < 0 then
  some (nI 2)
else
  (if (kp_min v3 (nI 40)) < x2 then
  some (nI 2)
else
  (if x3 ≤ ((kp_min v3 (nI 40)) - x2) then
  some (nI 0)
else
  some (nI 2)))))
else
  some (nI 1))
set_option maxRecDepth 100000 in
set_option maxHeartbeats 4000000 in
theorem X6_findingAt_c (G : kw_G) (hp : kw_H) (x0 : Nat) (x1 : Int32) (x2 : Int32) (x3 : Int32) (r : Int32) (h : X6_findingAt_F hp x0 x1 x2 x3 = some r) : kw_Met G mX6_findingAt [.ref x0, .int x1, .int x2, .int x3] hp (fun v h2 => v = some (.int r) ∧ h2 = hp) := by
  refine kw_met (L := [some (.ref x0), some (.int x1), some (.int x2), some (.int x3), none]) (r := 1) (by decide +kernel) (Nat.le_of_ble_eq_true rfl) rfl ?_
  unfold X6_findingAt_F at h
  obtain ⟨Q, hQ⟩ : ∃ Q : Option Value → kw_H → Prop, Q = (fun v h2 => v = some (.int r) ∧ h2 = hp) := ⟨_, rfl⟩
  have hK : Q (some (.int r)) hp := by rw [hQ]; exact ⟨rfl, rfl⟩
  rw [← hQ]
  clear hQ
  refine kw_aload_n dX6_findingAt_0 rfl ?_
  refine kw_iload_n dX6_findingAt_1 rfl ?_
  obtain ⟨r1, er1, h⟩ := Option.bind_eq_some_iff.mp h
  obtain ⟨ur1, eur1, er1⟩ := Option.bind_eq_some_iff.mp er1
  obtain ⟨fsr1, hor1⟩ := kp_ob_inv eur1
  refine kw_callV (As := [.int x1]) (S := []) kcX6 cbX6_findingAt_X6_isMissing lkX6_37 imX6_isMissing seX6_X6_isMissing_X6_isMissing rfl rfl (Nat.le_of_ble_eq_true rfl) dX6_findingAt_2 hor1 (X6_isMissing_c G hp x0 x1 _ er1) (fun vv hh hq => ?_)
  rw [hq.1, hq.2]
  show kw_V G mX6_findingAt 5 [some (.ref x0), some (.int x1), some (.int x2), some (.int x3), none] [.int r1] hp Q
  refine kw_if_eq 10 dX6_findingAt_5 (by decide) (fun c8 => ?_) (fun c8 => ?_)
  · have h := (if_pos c8).symm.trans h
    refine kw_aload_n dX6_findingAt_10 rfl ?_
    obtain ⟨v2, ev2, h⟩ := Option.bind_eq_some_iff.mp h
    refine kv_gR gfX6_20 dX6_findingAt_11 ev2 ?_
    refine kw_iload_n dX6_findingAt_14 rfl ?_
    obtain ⟨v3, ev3, h⟩ := Option.bind_eq_some_iff.mp h
    refine kv_ldI dX6_findingAt_15 ev3 ?_
    refine kw_bipush (v := nI 40) dX6_findingAt_16 (by decide) ?_
    refine kw_mmin lkX6_40 st_min in_J9 cd_min (by decide) (by decide) (Nat.le_of_ble_eq_true rfl) dX6_findingAt_18 ?_
    refine kw_istore (L' := [some (.ref x0), some (.int x1), some (.int x2), some (.int x3), some (.int (kp_min v3 (nI 40)))]) dX6_findingAt_21 (by decide) rfl ?_
    refine kw_iload_n dX6_findingAt_23 rfl ?_
    refine kw_if_lt 45 dX6_findingAt_24 (by decide) (fun c7 => ?_) (fun c7 => ?_)
    · have h := (if_pos c7).symm.trans h
      refine kw_iconst (v := nI 2) dX6_findingAt_45 (by decide) ?_
      refine kw_goto 50 dX6_findingAt_46 (by decide) ?_
      have h := Option.some.inj h
      subst h
      exact kw_iret rfl dX6_findingAt_50 hK
    · have h := (if_neg c7).symm.trans h
      refine kw_iload_n dX6_findingAt_27 rfl ?_
      refine kw_if_lt 45 dX6_findingAt_28 (by decide) (fun c6 => ?_) (fun c6 => ?_)
      · have h := (if_pos c6).symm.trans h
        refine kw_iconst (v := nI 2) dX6_findingAt_45 (by decide) ?_
        refine kw_goto 50 dX6_findingAt_46 (by decide) ?_
        have h := Option.some.inj h
        subst h
        exact kw_iret rfl dX6_findingAt_50 hK
      · have h := (if_neg c6).symm.trans h
        refine kw_iload_n dX6_findingAt_31 rfl ?_
        refine kw_iload dX6_findingAt_32 rfl ?_
        refine kw_icmp_gt 45 dX6_findingAt_34 (by decide) (fun c5 => ?_) (fun c5 => ?_)
        · have h := (if_pos c5).symm.trans h
          refine kw_iconst (v := nI 2) dX6_findingAt_45 (by decide) ?_
          refine kw_goto 50 dX6_findingAt_46 (by decide) ?_
          have h := Option.some.inj h
          subst h
          exact kw_iret rfl dX6_findingAt_50 hK
        · have h := (if_neg c5).symm.trans h
          refine kw_iload_n dX6_findingAt_37 rfl ?_
          refine kw_iload dX6_findingAt_38 rfl ?_
          refine kw_iload_n dX6_findingAt_40 rfl ?_
          refine kw_isub dX6_findingAt_41 ?_
          refine kw_icmp_le 49 dX6_findingAt_42 (by decide) (fun c4 => ?_) (fun c4 => ?_)
          · have h := (if_pos c4).symm.trans h
            refine kw_iconst (v := nI 0) dX6_findingAt_49 (by decide) ?_
            have h := Option.some.inj h
            subst h
            exact kw_iret rfl dX6_findingAt_50 hK
          · have h := (if_neg c4).symm.trans h
            refine kw_iconst (v := nI 2) dX6_findingAt_45 (by decide) ?_
            refine kw_goto 50 dX6_findingAt_46 (by decide) ?_
            have h := Option.some.inj h
            subst h
            exact kw_iret rfl dX6_findingAt_50 hK
  · have h := (if_neg c8).symm.trans h
    refine kw_iconst (v := nI 1) dX6_findingAt_8 (by decide) ?_
    have h := Option.some.inj h
    subst h
    exact kw_iret rfl dX6_findingAt_9 hK
/-! KitchenWheels$Rows.itemAt(II)I -/
def X6_itemAt_F (hp : kw_H) (x0 : Nat) (x1 : Int32) (x2 : Int32) : Option (Int32) :=
  ((kp_ob hp x0 6).bind fun _ => X6_findingAt_F hp x0 x1 x2 (nI 1)).bind fun r1 =>
  (if r1 = 0 then
  (kp_gR hp x0 [6] 0).bind fun v2 =>
  (kp_ldR hp 5 v2 x1).bind fun o3 =>
  kp_nu o3 (none) (fun b4 =>
  (kp_ldI hp b4 x2).bind fun v5 =>
  some (v5))
else
  some (nI 0))
set_option maxRecDepth 100000 in
set_option maxHeartbeats 4000000 in
theorem X6_itemAt_c (G : kw_G) (hp : kw_H) (x0 : Nat) (x1 : Int32) (x2 : Int32) (r : Int32) (h : X6_itemAt_F hp x0 x1 x2 = some r) : kw_Met G mX6_itemAt [.ref x0, .int x1, .int x2] hp (fun v h2 => v = some (.int r) ∧ h2 = hp) := by
  refine kw_met (L := [some (.ref x0), some (.int x1), some (.int x2)]) (r := 0) (by decide +kernel) (Nat.le_of_ble_eq_true rfl) rfl ?_
  unfold X6_itemAt_F at h
  obtain ⟨Q, hQ⟩ : ∃ Q : Option Value → kw_H → Prop, Q = (fun v h2 => v = some (.int r) ∧ h2 = hp) := ⟨_, rfl⟩
  have hK : Q (some (.int r)) hp := by rw [hQ]; exact ⟨rfl, rfl⟩
  rw [← hQ]
  clear hQ
  refine kw_aload_n dX6_itemAt_0 rfl ?_
  refine kw_iload_n dX6_itemAt_1 rfl ?_
  refine kw_iload_n dX6_itemAt_2 rfl ?_
  refine kw_iconst (v := nI 1) dX6_itemAt_3 (by decide) ?_
  obtain ⟨r1, er1, h⟩ := Option.bind_eq_some_iff.mp h
  obtain ⟨ur1, eur1, er1⟩ := Option.bind_eq_some_iff.mp er1
  obtain ⟨fsr1, hor1⟩ := kp_ob_inv eur1
  refine kw_callV (As := [.int x1, .int x2, .int (nI 1)]) (S := []) kcX6 cbX6_itemAt_X6_findingAt lkX6_46 imX6_findingAt seX6_X6_findingAt_X6_findingAt rfl rfl (Nat.le_of_ble_eq_true rfl) dX6_itemAt_4 hor1 (X6_findingAt_c G hp x0 x1 x2 (nI 1) _ er1) (fun vv hh hq => ?_)
  rw [hq.1, hq.2]
  show kw_V G mX6_itemAt 7 [some (.ref x0), some (.int x1), some (.int x2)] [.int r1] hp Q
  refine kw_if_ne 21 dX6_itemAt_7 (by decide) (fun c6 => ?_) (fun c6 => ?_)
  · have h := (if_neg c6).symm.trans h
    refine kw_iconst (v := nI 0) dX6_itemAt_21 (by decide) ?_
    have h := Option.some.inj h
    subst h
    exact kw_iret rfl dX6_itemAt_22 hK
  · have h := (if_pos c6).symm.trans h
    refine kw_aload_n dX6_itemAt_10 rfl ?_
    obtain ⟨v2, ev2, h⟩ := Option.bind_eq_some_iff.mp h
    refine kv_gR gfX6_11 dX6_itemAt_11 ev2 ?_
    refine kw_iload_n dX6_itemAt_14 rfl ?_
    obtain ⟨o3, eo3, h⟩ := Option.bind_eq_some_iff.mp h
    refine kv_ldR (by decide) dX6_itemAt_15 eo3 ?_
    cases o3 with
    | none =>
      dsimp only [kp_nu, va_rf] at h ⊢
      refine kw_iload_n dX6_itemAt_16 rfl ?_
      cases h
    | some b4 =>
      dsimp only [kp_nu, va_rf] at h ⊢
      refine kw_iload_n dX6_itemAt_16 rfl ?_
      obtain ⟨v5, ev5, h⟩ := Option.bind_eq_some_iff.mp h
      refine kv_ldI dX6_itemAt_17 ev5 ?_
      refine kw_goto 22 dX6_itemAt_18 (by decide) ?_
      have h := Option.some.inj h
      subst h
      exact kw_iret rfl dX6_itemAt_22 hK
/-! KitchenWheels$Foreteller.turnedSeen(LKitchenWheels$Kitchen;ILKitchenWheels$Rows;III)I -/
def X1_turnedSeen_K6 (G : kw_G) (Q : Option Value → kw_H → Prop) (hp : kw_H) (x1 : Nat) (x2 : Int32) (x3 : Nat) (x4 : Int32) (x5 : Int32) (x6 : Int32) (r : (Int32 × Int32) ⊕ (Int32)) : Prop := match r with
  | .inl z => kw_V G mX1_turnedSeen 6 [none, some (.ref x1), some (.int x2), some (.ref x3), some (.int x4), some (.int x5), some (.int x6), some (.int z.1), some (.int z.2), none, none, none, none] [] hp Q
  | .inr r => Q (some (.int r)) hp
def X1_turnedSeen_J119 (hp : kw_H) (x7 : Int32) : Option (Int32) :=
  some (x7)
set_option maxRecDepth 100000 in
set_option maxHeartbeats 4000000 in
theorem X1_turnedSeen_J119_t (G : kw_G) (Q : Option Value → kw_H → Prop) (hp : kw_H) (x7 : Int32) (r : Int32) (h : X1_turnedSeen_J119 hp x7 = some r) (hK : Q (some (.int r)) hp) : kw_V G mX1_turnedSeen 119 [none, none, none, none, none, none, none, some (.int x7), none, none, none, none, none] [] hp Q := by
  unfold X1_turnedSeen_J119 at h
  refine kw_iload dX1_turnedSeen_119 rfl ?_
  have h := Option.some.inj h
  subst h
  exact kw_iret rfl dX1_turnedSeen_121 hK
def X1_turnedSeen_K25 (G : kw_G) (Q : Option Value → kw_H → Prop) (hp : kw_H) (x1 : Nat) (x2 : Int32) (x3 : Nat) (x4 : Int32) (x5 : Int32) (x6 : Int32) (x7 : Int32) (x8 : Int32) (r : (Int32 × Int32 × Int32) ⊕ (((Int32 × Int32) ⊕ (Int32)))) : Prop := match r with
  | .inl z => kw_V G mX1_turnedSeen 25 [none, some (.ref x1), some (.int x2), some (.ref x3), some (.int x4), some (.int x5), some (.int x6), some (.int x7), some (.int x8), some (.int z.1), some (.int z.2.1), some (.int z.2.2), none] [] hp Q
  | .inr r => X1_turnedSeen_K6 G Q hp x1 x2 x3 x4 x5 x6 r
def X1_turnedSeen_J113 (hp : kw_H) (x1 : Nat) (x2 : Int32) (x3 : Nat) (x4 : Int32) (x5 : Int32) (x6 : Int32) (x7 : Int32) (x8 : Int32) : Option (((Int32 × Int32) ⊕ (Int32))) :=
  some (.inl (x7, x8 + (nI 1)))
set_option maxRecDepth 100000 in
set_option maxHeartbeats 4000000 in
theorem X1_turnedSeen_J113_t (G : kw_G) (Q : Option Value → kw_H → Prop) (hp : kw_H) (x1 : Nat) (x2 : Int32) (x3 : Nat) (x4 : Int32) (x5 : Int32) (x6 : Int32) (x7 : Int32) (x8 : Int32) (r : ((Int32 × Int32) ⊕ (Int32))) (h : X1_turnedSeen_J113 hp x1 x2 x3 x4 x5 x6 x7 x8 = some r) (hK : X1_turnedSeen_K6 G Q hp x1 x2 x3 x4 x5 x6 r) : kw_V G mX1_turnedSeen 113 [none, some (.ref x1), some (.int x2), some (.ref x3), some (.int x4), some (.int x5), some (.int x6), some (.int x7), some (.int x8), none, none, none, none] [] hp Q := by
  unfold X1_turnedSeen_J113 at h
  refine kv_iinc (w := nI 1) (L' := [none, some (.ref x1), some (.int x2), some (.ref x3), some (.int x4), some (.int x5), some (.int x6), some (.int x7), some (.int (x8 + (nI 1))), none, none, none, none]) dX1_turnedSeen_113 (by decide) rfl (by decide) rfl ?_
  refine kw_goto 6 dX1_turnedSeen_116 (by decide) ?_
  have h := Option.some.inj h
  subst h
  exact hK
def X1_turnedSeen_J99 (hp : kw_H) (x1 : Nat) (x2 : Int32) (x3 : Nat) (x4 : Int32) (x5 : Int32) (x6 : Int32) (x7 : Int32) (x8 : Int32) (x10 : Int32) : Option (((Int32 × Int32) ⊕ (Int32))) :=
  (if x10 = 0 then
  X1_turnedSeen_J113 hp x1 x2 x3 x4 x5 x6 x7 x8
else
  X1_turnedSeen_J113 hp x1 x2 x3 x4 x5 x6 (x7 ||| ((nI 1) <<< (x8 &&& 31))) x8)
set_option maxRecDepth 100000 in
set_option maxHeartbeats 4000000 in
theorem X1_turnedSeen_J99_t (G : kw_G) (Q : Option Value → kw_H → Prop) (hp : kw_H) (x1 : Nat) (x2 : Int32) (x3 : Nat) (x4 : Int32) (x5 : Int32) (x6 : Int32) (x7 : Int32) (x8 : Int32) (x10 : Int32) (r : ((Int32 × Int32) ⊕ (Int32))) (h : X1_turnedSeen_J99 hp x1 x2 x3 x4 x5 x6 x7 x8 x10 = some r) (hK : X1_turnedSeen_K6 G Q hp x1 x2 x3 x4 x5 x6 r) : kw_V G mX1_turnedSeen 99 [none, some (.ref x1), some (.int x2), some (.ref x3), some (.int x4), some (.int x5), some (.int x6), some (.int x7), some (.int x8), none, some (.int x10), none, none] [] hp Q := by
  unfold X1_turnedSeen_J99 at h
  refine kw_iload dX1_turnedSeen_99 rfl ?_
  refine kw_if_eq 113 dX1_turnedSeen_101 (by decide) (fun c3 => ?_) (fun c3 => ?_)
  · have h := (if_pos c3).symm.trans h
    refine kw_mask [true, true, true, true, true, true, true, true, true, true, false, true, true] (L' := [none, some (.ref x1), some (.int x2), some (.ref x3), some (.int x4), some (.int x5), some (.int x6), some (.int x7), some (.int x8), none, none, none, none]) rfl ?_
    exact X1_turnedSeen_J113_t G Q hp x1 x2 x3 x4 x5 x6 x7 x8 _ h hK
  · have h := (if_neg c3).symm.trans h
    refine kw_iload dX1_turnedSeen_104 rfl ?_
    refine kw_iconst (v := nI 1) dX1_turnedSeen_106 (by decide) ?_
    refine kw_iload dX1_turnedSeen_107 rfl ?_
    refine kw_ishl dX1_turnedSeen_109 ?_
    refine kw_ior dX1_turnedSeen_110 ?_
    refine kw_istore (L' := [none, some (.ref x1), some (.int x2), some (.ref x3), some (.int x4), some (.int x5), some (.int x6), some (.int (x7 ||| ((nI 1) <<< (x8 &&& 31)))), some (.int x8), none, some (.int x10), none, none]) dX1_turnedSeen_111 (by decide) rfl ?_
    refine kw_mask [true, true, true, true, true, true, true, true, true, true, false, true, true] (L' := [none, some (.ref x1), some (.int x2), some (.ref x3), some (.int x4), some (.int x5), some (.int x6), some (.int (x7 ||| ((nI 1) <<< (x8 &&& 31)))), some (.int x8), none, none, none, none]) rfl ?_
    exact X1_turnedSeen_J113_t G Q hp x1 x2 x3 x4 x5 x6 (x7 ||| ((nI 1) <<< (x8 &&& 31))) x8 _ h hK
def X1_turnedSeen_J76 (hp : kw_H) (x1 : Nat) (x2 : Int32) (x3 : Nat) (x4 : Int32) (x5 : Int32) (x6 : Int32) (x7 : Int32) (x8 : Int32) (x9 : Int32) (x11 : Int32) (s0 : Int32) : Option (((Int32 × Int32 × Int32) ⊕ (((Int32 × Int32) ⊕ (Int32))))) :=
  (kp_gI hp x1 [2] 7).bind fun v10 =>
  ((kp_ob hp x1 2).bind fun _ => X2_turnedNext_F hp x1 x9 (v10 + x11)).bind fun r11 =>
  some (.inl (r11, s0, x11 + (nI 1)))
set_option maxRecDepth 100000 in
set_option maxHeartbeats 4000000 in
theorem X1_turnedSeen_J76_t (G : kw_G) (Q : Option Value → kw_H → Prop) (hp : kw_H) (x1 : Nat) (x2 : Int32) (x3 : Nat) (x4 : Int32) (x5 : Int32) (x6 : Int32) (x7 : Int32) (x8 : Int32) (x9 : Int32) (x11 : Int32) (s0 : Int32) (r : ((Int32 × Int32 × Int32) ⊕ (((Int32 × Int32) ⊕ (Int32))))) (h : X1_turnedSeen_J76 hp x1 x2 x3 x4 x5 x6 x7 x8 x9 x11 s0 = some r) (hK : X1_turnedSeen_K25 G Q hp x1 x2 x3 x4 x5 x6 x7 x8 r) : kw_V G mX1_turnedSeen 76 [none, some (.ref x1), some (.int x2), some (.ref x3), some (.int x4), some (.int x5), some (.int x6), some (.int x7), some (.int x8), some (.int x9), none, some (.int x11), none] [.int s0] hp Q := by
  unfold X1_turnedSeen_J76 at h
  refine kw_istore (L' := [none, some (.ref x1), some (.int x2), some (.ref x3), some (.int x4), some (.int x5), some (.int x6), some (.int x7), some (.int x8), some (.int x9), some (.int s0), some (.int x11), none]) dX1_turnedSeen_76 (by decide) rfl ?_
  refine kw_aload_n dX1_turnedSeen_78 rfl ?_
  refine kw_iload dX1_turnedSeen_79 rfl ?_
  refine kw_aload_n dX1_turnedSeen_81 rfl ?_
  obtain ⟨v10, ev10, h⟩ := Option.bind_eq_some_iff.mp h
  refine kv_gI gfX1_48 dX1_turnedSeen_82 ev10 ?_
  refine kw_iload dX1_turnedSeen_85 rfl ?_
  refine kw_iadd dX1_turnedSeen_87 ?_
  obtain ⟨r11, er11, h⟩ := Option.bind_eq_some_iff.mp h
  obtain ⟨ur11, eur11, er11⟩ := Option.bind_eq_some_iff.mp er11
  obtain ⟨fsr11, hor11⟩ := kp_ob_inv eur11
  refine kw_callV (As := [.int x9, .int (v10 + x11)]) (S := []) kcX2 cbX1_turnedSeen_X2_turnedNext lkX1_51 imX2_turnedNext seX2_X2_turnedNext_X2_turnedNext rfl rfl (Nat.le_of_ble_eq_true rfl) dX1_turnedSeen_88 hor11 (X2_turnedNext_c G hp x1 x9 (v10 + x11) _ er11) (fun vv hh hq => ?_)
  rw [hq.1, hq.2]
  show kw_V G mX1_turnedSeen 91 [none, some (.ref x1), some (.int x2), some (.ref x3), some (.int x4), some (.int x5), some (.int x6), some (.int x7), some (.int x8), some (.int x9), some (.int s0), some (.int x11), none] [.int r11] hp Q
  refine kw_istore (L' := [none, some (.ref x1), some (.int x2), some (.ref x3), some (.int x4), some (.int x5), some (.int x6), some (.int x7), some (.int x8), some (.int r11), some (.int s0), some (.int x11), none]) dX1_turnedSeen_91 (by decide) rfl ?_
  refine kv_iinc (w := nI 1) (L' := [none, some (.ref x1), some (.int x2), some (.ref x3), some (.int x4), some (.int x5), some (.int x6), some (.int x7), some (.int x8), some (.int r11), some (.int s0), some (.int (x11 + (nI 1))), none]) dX1_turnedSeen_93 (by decide) rfl (by decide) rfl ?_
  refine kw_goto 25 dX1_turnedSeen_96 (by decide) ?_
  have h := Option.some.inj h
  subst h
  exact hK
def X1_turnedSeen_b25 (hp : kw_H) (x1 : Nat) (x2 : Int32) (x3 : Nat) (x4 : Int32) (x5 : Int32) (x6 : Int32) (x7 : Int32) (x8 : Int32) (x9 : Int32) (x10 : Int32) (x11 : Int32) : Option (((Int32 × Int32 × Int32) ⊕ (((Int32 × Int32) ⊕ (Int32))))) :=
  (if x6 ≤ x11 then
  (X1_turnedSeen_J99 hp x1 x2 x3 x4 x5 x6 x7 x8 x10).map (fun r => .inr (r))
else
  (if x10 = 0 then
  (X1_turnedSeen_J99 hp x1 x2 x3 x4 x5 x6 x7 x8 x10).map (fun r => .inr (r))
else
  ((kp_ob hp x1 2).bind fun _ => X2_awayBehind_F hp x1 x11).bind fun r6 =>
  ((kp_ob hp x1 2).bind fun _ => X2_doersOf_F hp x1 x2 x9 r6).bind fun r7 =>
  (X1_leastOf_F hp r7).bind fun r8 =>
  ((kp_ob hp x3 6).bind fun _ => X6_itemAt_F hp x3 x4 (x5 + x11)).bind fun r9 =>
  (if r8 = r9 then
  X1_turnedSeen_J76 hp x1 x2 x3 x4 x5 x6 x7 x8 x9 x11 (nI 1)
else
  X1_turnedSeen_J76 hp x1 x2 x3 x4 x5 x6 x7 x8 x9 x11 (nI 0))))
set_option maxRecDepth 100000 in
set_option maxHeartbeats 4000000 in
theorem X1_turnedSeen_b25_t (G : kw_G) (Q : Option Value → kw_H → Prop) (hp : kw_H) (x1 : Nat) (x2 : Int32) (x3 : Nat) (x4 : Int32) (x5 : Int32) (x6 : Int32) (x7 : Int32) (x8 : Int32) (x9 : Int32) (x10 : Int32) (x11 : Int32) (r : ((Int32 × Int32 × Int32) ⊕ (((Int32 × Int32) ⊕ (Int32))))) (h : X1_turnedSeen_b25 hp x1 x2 x3 x4 x5 x6 x7 x8 x9 x10 x11 = some r) (hK : X1_turnedSeen_K25 G Q hp x1 x2 x3 x4 x5 x6 x7 x8 r) : kw_V G mX1_turnedSeen 25 [none, some (.ref x1), some (.int x2), some (.ref x3), some (.int x4), some (.int x5), some (.int x6), some (.int x7), some (.int x8), some (.int x9), some (.int x10), some (.int x11), none] [] hp Q := by
  unfold X1_turnedSeen_b25 at h
  refine kw_iload dX1_turnedSeen_25 rfl ?_
  refine kw_iload dX1_turnedSeen_27 rfl ?_
  refine kw_icmp_ge 99 dX1_turnedSeen_29 (by decide) (fun c14 => ?_) (fun c14 => ?_)
  · have h := (if_pos c14).symm.trans h
    refine kw_mask [true, true, true, true, true, true, true, true, true, false, true, false, true] (L' := [none, some (.ref x1), some (.int x2), some (.ref x3), some (.int x4), some (.int x5), some (.int x6), some (.int x7), some (.int x8), none, some (.int x10), none, none]) rfl ?_
    obtain ⟨r4, hr4, hrr4⟩ := Option.map_eq_some_iff.mp h
    subst hrr4
    exact X1_turnedSeen_J99_t G Q hp x1 x2 x3 x4 x5 x6 x7 x8 x10 r4 hr4 hK
  · have h := (if_neg c14).symm.trans h
    refine kw_iload dX1_turnedSeen_32 rfl ?_
    refine kw_if_eq 99 dX1_turnedSeen_34 (by decide) (fun c13 => ?_) (fun c13 => ?_)
    · have h := (if_pos c13).symm.trans h
      refine kw_mask [true, true, true, true, true, true, true, true, true, false, true, false, true] (L' := [none, some (.ref x1), some (.int x2), some (.ref x3), some (.int x4), some (.int x5), some (.int x6), some (.int x7), some (.int x8), none, some (.int x10), none, none]) rfl ?_
      obtain ⟨r5, hr5, hrr5⟩ := Option.map_eq_some_iff.mp h
      subst hrr5
      exact X1_turnedSeen_J99_t G Q hp x1 x2 x3 x4 x5 x6 x7 x8 x10 r5 hr5 hK
    · have h := (if_neg c13).symm.trans h
      refine kw_aload_n dX1_turnedSeen_37 rfl ?_
      refine kw_iload_n dX1_turnedSeen_38 rfl ?_
      refine kw_iload dX1_turnedSeen_39 rfl ?_
      refine kw_aload_n dX1_turnedSeen_41 rfl ?_
      refine kw_iload dX1_turnedSeen_42 rfl ?_
      obtain ⟨r6, er6, h⟩ := Option.bind_eq_some_iff.mp h
      obtain ⟨ur6, eur6, er6⟩ := Option.bind_eq_some_iff.mp er6
      obtain ⟨fsr6, hor6⟩ := kp_ob_inv eur6
      refine kw_callV (As := [.int x11]) (S := [.int x9, .int x2, .ref x1]) kcX2 cbX1_turnedSeen_X2_awayBehind lkX1_40 imX2_awayBehind seX2_X2_awayBehind_X2_awayBehind rfl rfl (Nat.le_of_ble_eq_true rfl) dX1_turnedSeen_44 hor6 (X2_awayBehind_c G hp x1 x11 _ er6) (fun vv hh hq => ?_)
      rw [hq.1, hq.2]
      show kw_V G mX1_turnedSeen 47 [none, some (.ref x1), some (.int x2), some (.ref x3), some (.int x4), some (.int x5), some (.int x6), some (.int x7), some (.int x8), some (.int x9), some (.int x10), some (.int x11), none] [.int r6, .int x9, .int x2, .ref x1] hp Q
      obtain ⟨r7, er7, h⟩ := Option.bind_eq_some_iff.mp h
      obtain ⟨ur7, eur7, er7⟩ := Option.bind_eq_some_iff.mp er7
      obtain ⟨fsr7, hor7⟩ := kp_ob_inv eur7
      refine kw_callV (As := [.int x2, .int x9, .int r6]) (S := []) kcX2 cbX1_turnedSeen_X2_doersOf lkX1_54 imX2_doersOf seX2_X2_doersOf_X2_doersOf rfl rfl (Nat.le_of_ble_eq_true rfl) dX1_turnedSeen_47 hor7 (X2_doersOf_c G hp x1 x2 x9 r6 _ er7) (fun vv hh hq => ?_)
      rw [hq.1, hq.2]
      show kw_V G mX1_turnedSeen 50 [none, some (.ref x1), some (.int x2), some (.ref x3), some (.int x4), some (.int x5), some (.int x6), some (.int x7), some (.int x8), some (.int x9), some (.int x10), some (.int x11), none] [.int r7] hp Q
      refine kw_istore (L' := [none, some (.ref x1), some (.int x2), some (.ref x3), some (.int x4), some (.int x5), some (.int x6), some (.int x7), some (.int x8), some (.int x9), some (.int x10), some (.int x11), some (.int r7)]) dX1_turnedSeen_50 (by decide) rfl ?_
      refine kw_iload dX1_turnedSeen_52 rfl ?_
      obtain ⟨r8, er8, h⟩ := Option.bind_eq_some_iff.mp h
      refine kw_callS (As := [.int r7]) (S := []) cbX1_turnedSeen_X1_leastOf lkX1_136 stX1_leastOf rfl rfl (Nat.le_of_ble_eq_true rfl) dX1_turnedSeen_54 (X1_leastOf_c G hp r7 _ er8) (fun vv hh hq => ?_)
      rw [hq.1, hq.2]
      show kw_V G mX1_turnedSeen 57 [none, some (.ref x1), some (.int x2), some (.ref x3), some (.int x4), some (.int x5), some (.int x6), some (.int x7), some (.int x8), some (.int x9), some (.int x10), some (.int x11), some (.int r7)] [.int r8] hp Q
      refine kw_aload_n dX1_turnedSeen_57 rfl ?_
      refine kw_iload dX1_turnedSeen_58 rfl ?_
      refine kw_iload dX1_turnedSeen_60 rfl ?_
      refine kw_iload dX1_turnedSeen_62 rfl ?_
      refine kw_iadd dX1_turnedSeen_64 ?_
      obtain ⟨r9, er9, h⟩ := Option.bind_eq_some_iff.mp h
      obtain ⟨ur9, eur9, er9⟩ := Option.bind_eq_some_iff.mp er9
      obtain ⟨fsr9, hor9⟩ := kp_ob_inv eur9
      refine kw_callV (As := [.int x4, .int (x5 + x11)]) (S := [.int r8]) kcX6 cbX1_turnedSeen_X6_itemAt lkX1_139 imX6_itemAt seX6_X6_itemAt_X6_itemAt rfl rfl (Nat.le_of_ble_eq_true rfl) dX1_turnedSeen_65 hor9 (X6_itemAt_c G hp x3 x4 (x5 + x11) _ er9) (fun vv hh hq => ?_)
      rw [hq.1, hq.2]
      show kw_V G mX1_turnedSeen 68 [none, some (.ref x1), some (.int x2), some (.ref x3), some (.int x4), some (.int x5), some (.int x6), some (.int x7), some (.int x8), some (.int x9), some (.int x10), some (.int x11), some (.int r7)] [.int r9, .int r8] hp Q
      refine kw_icmp_ne 75 dX1_turnedSeen_68 (by decide) (fun c12 => ?_) (fun c12 => ?_)
      · have h := (if_neg c12).symm.trans h
        refine kw_iconst (v := nI 0) dX1_turnedSeen_75 (by decide) ?_
        refine kw_mask [true, true, true, true, true, true, true, true, true, true, false, true, false] (L' := [none, some (.ref x1), some (.int x2), some (.ref x3), some (.int x4), some (.int x5), some (.int x6), some (.int x7), some (.int x8), some (.int x9), none, some (.int x11), none]) rfl ?_
        exact X1_turnedSeen_J76_t G Q hp x1 x2 x3 x4 x5 x6 x7 x8 x9 x11 (nI 0) _ h hK
      · have h := (if_pos c12).symm.trans h
        refine kw_iconst (v := nI 1) dX1_turnedSeen_71 (by decide) ?_
        refine kw_goto 76 dX1_turnedSeen_72 (by decide) ?_
        refine kw_mask [true, true, true, true, true, true, true, true, true, true, false, true, false] (L' := [none, some (.ref x1), some (.int x2), some (.ref x3), some (.int x4), some (.int x5), some (.int x6), some (.int x7), some (.int x8), some (.int x9), none, some (.int x11), none]) rfl ?_
        exact X1_turnedSeen_J76_t G Q hp x1 x2 x3 x4 x5 x6 x7 x8 x9 x11 (nI 1) _ h hK
def X1_turnedSeen_B25 (hp : kw_H) (x1 : Nat) (x2 : Int32) (x3 : Nat) (x4 : Int32) (x5 : Int32) (x6 : Int32) (x7 : Int32) (x8 : Int32) (z : Int32 × Int32 × Int32) : Option (((Int32 × Int32 × Int32) ⊕ (((Int32 × Int32) ⊕ (Int32))))) := X1_turnedSeen_b25 hp x1 x2 x3 x4 x5 x6 x7 x8 z.1 z.2.1 z.2.2
theorem X1_turnedSeen_L25_t (G : kw_G) (Q : Option Value → kw_H → Prop) (hp : kw_H) (x1 : Nat) (x2 : Int32) (x3 : Nat) (x4 : Int32) (x5 : Int32) (x6 : Int32) (x7 : Int32) (x8 : Int32) (n : Nat) (z : Int32 × Int32 × Int32) (r : ((Int32 × Int32) ⊕ (Int32))) (h : kp_lp (X1_turnedSeen_B25 hp x1 x2 x3 x4 x5 x6 x7 x8) n z = some r) (hK : X1_turnedSeen_K6 G Q hp x1 x2 x3 x4 x5 x6 r) : kw_V G mX1_turnedSeen 25 [none, some (.ref x1), some (.int x2), some (.ref x3), some (.int x4), some (.int x5), some (.int x6), some (.int x7), some (.int x8), some (.int z.1), some (.int z.2.1), some (.int z.2.2), none] [] hp Q :=
  kv_lp _ (fun z => kw_V G mX1_turnedSeen 25 [none, some (.ref x1), some (.int x2), some (.ref x3), some (.int x4), some (.int x5), some (.int x6), some (.int x7), some (.int x8), some (.int z.1), some (.int z.2.1), some (.int z.2.2), none] [] hp Q) (fun r => X1_turnedSeen_K6 G Q hp x1 x2 x3 x4 x5 x6 r) (fun z x hb hx => X1_turnedSeen_b25_t G Q hp x1 x2 x3 x4 x5 x6 x7 x8 z.1 z.2.1 z.2.2 x hb (by cases x <;> exact hx)) n z r h hK
def X1_turnedSeen_b6 (hp : kw_H) (x1 : Nat) (x2 : Int32) (x3 : Nat) (x4 : Int32) (x5 : Int32) (x6 : Int32) (x7 : Int32) (x8 : Int32) : Option (((Int32 × Int32) ⊕ (Int32))) :=
  (kp_gI hp x1 [2] 5).bind fun v1 =>
  (if v1 ≤ x8 then
  (X1_turnedSeen_J119 hp x7).map (fun r => .inr (r))
else
  kp_lp (X1_turnedSeen_B25 hp x1 x2 x3 x4 x5 x6 x7 x8) 2000 (x8, nI 1, nI 0))
set_option maxRecDepth 100000 in
set_option maxHeartbeats 4000000 in
theorem X1_turnedSeen_b6_t (G : kw_G) (Q : Option Value → kw_H → Prop) (hp : kw_H) (x1 : Nat) (x2 : Int32) (x3 : Nat) (x4 : Int32) (x5 : Int32) (x6 : Int32) (x7 : Int32) (x8 : Int32) (r : ((Int32 × Int32) ⊕ (Int32))) (h : X1_turnedSeen_b6 hp x1 x2 x3 x4 x5 x6 x7 x8 = some r) (hK : X1_turnedSeen_K6 G Q hp x1 x2 x3 x4 x5 x6 r) : kw_V G mX1_turnedSeen 6 [none, some (.ref x1), some (.int x2), some (.ref x3), some (.int x4), some (.int x5), some (.int x6), some (.int x7), some (.int x8), none, none, none, none] [] hp Q := by
  unfold X1_turnedSeen_b6 at h
  refine kw_iload dX1_turnedSeen_6 rfl ?_
  refine kw_aload_n dX1_turnedSeen_8 rfl ?_
  obtain ⟨v1, ev1, h⟩ := Option.bind_eq_some_iff.mp h
  refine kv_gI gfX1_133 dX1_turnedSeen_9 ev1 ?_
  refine kw_icmp_ge 119 dX1_turnedSeen_12 (by decide) (fun c15 => ?_) (fun c15 => ?_)
  · have h := (if_pos c15).symm.trans h
    refine kw_mask [true, false, false, false, false, false, false, true, false, true, true, true, true] (L' := [none, none, none, none, none, none, none, some (.int x7), none, none, none, none, none]) rfl ?_
    obtain ⟨r2, hr2, hrr2⟩ := Option.map_eq_some_iff.mp h
    subst hrr2
    exact X1_turnedSeen_J119_t G Q hp x7 r2 hr2 hK
  · have h := (if_neg c15).symm.trans h
    refine kw_iload dX1_turnedSeen_15 rfl ?_
    refine kw_istore (L' := [none, some (.ref x1), some (.int x2), some (.ref x3), some (.int x4), some (.int x5), some (.int x6), some (.int x7), some (.int x8), some (.int x8), none, none, none]) dX1_turnedSeen_17 (by decide) rfl ?_
    refine kw_iconst (v := nI 1) dX1_turnedSeen_19 (by decide) ?_
    refine kw_istore (L' := [none, some (.ref x1), some (.int x2), some (.ref x3), some (.int x4), some (.int x5), some (.int x6), some (.int x7), some (.int x8), some (.int x8), some (.int (nI 1)), none, none]) dX1_turnedSeen_20 (by decide) rfl ?_
    refine kw_iconst (v := nI 0) dX1_turnedSeen_22 (by decide) ?_
    refine kw_istore (L' := [none, some (.ref x1), some (.int x2), some (.ref x3), some (.int x4), some (.int x5), some (.int x6), some (.int x7), some (.int x8), some (.int x8), some (.int (nI 1)), some (.int (nI 0)), none]) dX1_turnedSeen_23 (by decide) rfl ?_
    exact X1_turnedSeen_L25_t G Q hp x1 x2 x3 x4 x5 x6 x7 x8 _ (x8, nI 1, nI 0) _ h hK
def X1_turnedSeen_B6 (hp : kw_H) (x1 : Nat) (x2 : Int32) (x3 : Nat) (x4 : Int32) (x5 : Int32) (x6 : Int32) (z : Int32 × Int32) : Option (((Int32 × Int32) ⊕ (Int32))) := X1_turnedSeen_b6 hp x1 x2 x3 x4 x5 x6 z.1 z.2
theorem X1_turnedSeen_L6_t (G : kw_G) (Q : Option Value → kw_H → Prop) (hp : kw_H) (x1 : Nat) (x2 : Int32) (x3 : Nat) (x4 : Int32) (x5 : Int32) (x6 : Int32) (n : Nat) (z : Int32 × Int32) (r : Int32) (h : kp_lp (X1_turnedSeen_B6 hp x1 x2 x3 x4 x5 x6) n z = some r) (hK : Q (some (.int r)) hp) : kw_V G mX1_turnedSeen 6 [none, some (.ref x1), some (.int x2), some (.ref x3), some (.int x4), some (.int x5), some (.int x6), some (.int z.1), some (.int z.2), none, none, none, none] [] hp Q :=
  kv_lp _ (fun z => kw_V G mX1_turnedSeen 6 [none, some (.ref x1), some (.int x2), some (.ref x3), some (.int x4), some (.int x5), some (.int x6), some (.int z.1), some (.int z.2), none, none, none, none] [] hp Q) (fun r => Q (some (.int r)) hp) (fun z x hb hx => X1_turnedSeen_b6_t G Q hp x1 x2 x3 x4 x5 x6 z.1 z.2 x hb (by cases x <;> exact hx)) n z r h hK
def X1_turnedSeen_F (hp : kw_H) (x0 : Nat) (x1 : Nat) (x2 : Int32) (x3 : Nat) (x4 : Int32) (x5 : Int32) (x6 : Int32) : Option (Int32) :=
  kp_lp (X1_turnedSeen_B6 hp x1 x2 x3 x4 x5 x6) 2000 (nI 0, nI 0)
set_option maxRecDepth 100000 in
set_option maxHeartbeats 4000000 in
theorem X1_turnedSeen_c (G : kw_G) (hp : kw_H) (x0 : Nat) (x1 : Nat) (x2 : Int32) (x3 : Nat) (x4 : Int32) (x5 : Int32) (x6 : Int32) (r : Int32) (h : X1_turnedSeen_F hp x0 x1 x2 x3 x4 x5 x6 = some r) : kw_Met G mX1_turnedSeen [.ref x0, .ref x1, .int x2, .ref x3, .int x4, .int x5, .int x6] hp (fun v h2 => v = some (.int r) ∧ h2 = hp) := by
  refine kw_met (L := [some (.ref x0), some (.ref x1), some (.int x2), some (.ref x3), some (.int x4), some (.int x5), some (.int x6), none, none, none, none, none, none]) (r := 6) (by decide +kernel) (Nat.le_of_ble_eq_true rfl) rfl ?_
  unfold X1_turnedSeen_F at h
  obtain ⟨Q, hQ⟩ : ∃ Q : Option Value → kw_H → Prop, Q = (fun v h2 => v = some (.int r) ∧ h2 = hp) := ⟨_, rfl⟩
  have hK : Q (some (.int r)) hp := by rw [hQ]; exact ⟨rfl, rfl⟩
  rw [← hQ]
  clear hQ
  refine kw_iconst (v := nI 0) dX1_turnedSeen_0 (by decide) ?_
  refine kw_istore (L' := [some (.ref x0), some (.ref x1), some (.int x2), some (.ref x3), some (.int x4), some (.int x5), some (.int x6), some (.int (nI 0)), none, none, none, none, none]) dX1_turnedSeen_1 (by decide) rfl ?_
  refine kw_iconst (v := nI 0) dX1_turnedSeen_3 (by decide) ?_
  refine kw_istore (L' := [some (.ref x0), some (.ref x1), some (.int x2), some (.ref x3), some (.int x4), some (.int x5), some (.int x6), some (.int (nI 0)), some (.int (nI 0)), none, none, none, none]) dX1_turnedSeen_4 (by decide) rfl ?_
  refine kw_mask [false, true, true, true, true, true, true, true, true, true, true, true, true] (L' := [none, some (.ref x1), some (.int x2), some (.ref x3), some (.int x4), some (.int x5), some (.int x6), some (.int (nI 0)), some (.int (nI 0)), none, none, none, none]) rfl ?_
  exact X1_turnedSeen_L6_t G Q hp x1 x2 x3 x4 x5 x6 _ (nI 0, nI 0) _ h hK
