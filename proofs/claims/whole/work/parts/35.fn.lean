/-! KitchenWheels.twice()I -/
def X11_twice_F (hp : kw_H) (x0 : Nat) : Option (Int32 × kw_H) :=
  (kp_gR hp x0 [10] 2).bind fun v1 =>
  ((kp_ob hp v1 2).bind fun _ => X2_isThere_F hp v1).bind fun r2 =>
  (if r2 = 0 then
  some (((-1000002), hp))
else
  (kp_gR hp x0 [10] 3).bind fun v3 =>
  (kp_gR hp x0 [10] 2).bind fun v4 =>
  ((kp_ob hp v3 1).bind fun _ => X1_nameToWrite_F hp v3 v4).bind fun r5 =>
  some ((r5.1, r5.2)))
set_option maxRecDepth 100000 in
set_option maxHeartbeats 4000000 in
theorem X11_twice_c (G : kw_G) (hp : kw_H) (x0 : Nat) (r : Int32 × kw_H) (h : X11_twice_F hp x0 = some r) : kw_Met G mX11_twice [.ref x0] hp (fun v h2 => v = some (.int r.1) ∧ h2 = r.2) := by
  refine kw_met (L := [some (.ref x0)]) (r := 0) (by decide +kernel) (Nat.le_of_ble_eq_true rfl) rfl ?_
  unfold X11_twice_F at h
  obtain ⟨Q, hQ⟩ : ∃ Q : Option Value → kw_H → Prop, Q = (fun v h2 => v = some (.int r.1) ∧ h2 = r.2) := ⟨_, rfl⟩
  have hK : Q (some (.int r.1)) r.2 := by rw [hQ]; exact ⟨rfl, rfl⟩
  rw [← hQ]
  clear hQ
  refine kw_aload_n dX11_twice_0 rfl ?_
  obtain ⟨v1, ev1, h⟩ := Option.bind_eq_some_iff.mp h
  refine kv_gR gfX11_26 dX11_twice_1 ev1 ?_
  obtain ⟨r2, er2, h⟩ := Option.bind_eq_some_iff.mp h
  obtain ⟨ur2, eur2, er2⟩ := Option.bind_eq_some_iff.mp er2
  obtain ⟨fsr2, hor2⟩ := kp_ob_inv eur2
  refine kw_callV (As := []) (S := []) kcX2 cbX11_twice_X2_isThere lkX11_137 imX2_isThere seX2_X2_isThere_X2_isThere rfl rfl (Nat.le_of_ble_eq_true rfl) dX11_twice_4 hor2 (X2_isThere_c G hp v1 _ er2) (fun vv hh hq => ?_)
  rw [hq.1, hq.2]
  show kw_V G mX11_twice 7 [some (.ref x0)] [.int r2] hp Q
  refine kw_if_eq 24 dX11_twice_7 (by decide) (fun c6 => ?_) (fun c6 => ?_)
  · have h := (if_pos c6).symm.trans h
    refine kw_ldc (v := (-1000002)) dX11_twice_24 ckX11_129 ?_
    have h := Option.some.inj h
    subst h
    exact kw_iret rfl dX11_twice_26 hK
  · have h := (if_neg c6).symm.trans h
    refine kw_aload_n dX11_twice_10 rfl ?_
    obtain ⟨v3, ev3, h⟩ := Option.bind_eq_some_iff.mp h
    refine kv_gR gfX11_33 dX11_twice_11 ev3 ?_
    refine kw_aload_n dX11_twice_14 rfl ?_
    obtain ⟨v4, ev4, h⟩ := Option.bind_eq_some_iff.mp h
    refine kv_gR gfX11_26 dX11_twice_15 ev4 ?_
    obtain ⟨r5, er5, h⟩ := Option.bind_eq_some_iff.mp h
    obtain ⟨ur5, eur5, er5⟩ := Option.bind_eq_some_iff.mp er5
    obtain ⟨fsr5, hor5⟩ := kp_ob_inv eur5
    refine kw_callV (As := [.ref v4]) (S := []) kcX1 cbX11_twice_X1_nameToWrite lkX11_246 imX1_nameToWrite seX1_X1_nameToWrite_X1_nameToWrite rfl rfl (Nat.le_of_ble_eq_true rfl) dX11_twice_18 hor5 (X1_nameToWrite_c G hp v3 v4 _ er5) (fun vv hh hq => ?_)
    rw [hq.1, hq.2]
    show kw_V G mX11_twice 21 [some (.ref x0)] [.int r5.1] r5.2 Q
    refine kw_goto 26 dX11_twice_21 (by decide) ?_
    have h := Option.some.inj h
    subst h
    exact kw_iret rfl dX11_twice_26 hK
/-! KitchenWheels.seen(IIII)I -/
def X11_seen_F (hp : kw_H) (x0 : Nat) (x1 : Int32) (x2 : Int32) (x3 : Int32) (x4 : Int32) : Option (Int32 × kw_H) :=
  (kp_gR hp x0 [10] 2).bind fun v1 =>
  ((kp_ob hp v1 2).bind fun _ => X2_isThere_F hp v1).bind fun r2 =>
  (if r2 = 0 then
  some (((-1000002), hp))
else
  (X11_isJob_F hp x1).bind fun r3 =>
  (if r3 = 0 then
  some (((-1000001), hp))
else
  (X6_isRow_F hp x2).bind fun r4 =>
  (if r4 = 0 then
  some (((-1000001), hp))
else
  (X11_within_F hp x4 (nI 1) (nI 12)).bind fun r5 =>
  (if r5 = 0 then
  some (((-1000001), hp))
else
  (kp_gR hp x0 [10] 0).bind fun v6 =>
  ((kp_ob hp v6 6).bind fun _ => X6_findingAt_F hp v6 x2 x3 x4).bind fun r7 =>
  (if r7 = 0 then
  (kp_gR hp x0 [10] 3).bind fun v8 =>
  (kp_gR hp x0 [10] 2).bind fun v9 =>
  (kp_gR hp x0 [10] 0).bind fun v10 =>
  ((kp_ob hp v8 1).bind fun _ => X1_turnedSeen_F hp v8 v9 x1 v10 x2 x3 x4).bind fun r11 =>
  ((kp_ob hp x0 10).bind fun _ => X11_unfound_F hp x0 r11).bind fun r12 =>
  some ((r12.1, r12.2))
else
  ((kp_ob hp x0 10).bind fun _ => X11_finding_F hp x0 r7).bind fun r13 =>
  some ((r13.1, r13.2)))))))
set_option maxRecDepth 100000 in
set_option maxHeartbeats 4000000 in
theorem X11_seen_c (G : kw_G) (hp : kw_H) (x0 : Nat) (x1 : Int32) (x2 : Int32) (x3 : Int32) (x4 : Int32) (r : Int32 × kw_H) (h : X11_seen_F hp x0 x1 x2 x3 x4 = some r) : kw_Met G mX11_seen [.ref x0, .int x1, .int x2, .int x3, .int x4] hp (fun v h2 => v = some (.int r.1) ∧ h2 = r.2) := by
  refine kw_met (L := [some (.ref x0), some (.int x1), some (.int x2), some (.int x3), some (.int x4), none]) (r := 1) (by decide +kernel) (Nat.le_of_ble_eq_true rfl) rfl ?_
  unfold X11_seen_F at h
  obtain ⟨Q, hQ⟩ : ∃ Q : Option Value → kw_H → Prop, Q = (fun v h2 => v = some (.int r.1) ∧ h2 = r.2) := ⟨_, rfl⟩
  have hK : Q (some (.int r.1)) r.2 := by rw [hQ]; exact ⟨rfl, rfl⟩
  rw [← hQ]
  clear hQ
  refine kw_aload_n dX11_seen_0 rfl ?_
  obtain ⟨v1, ev1, h⟩ := Option.bind_eq_some_iff.mp h
  refine kv_gR gfX11_26 dX11_seen_1 ev1 ?_
  obtain ⟨r2, er2, h⟩ := Option.bind_eq_some_iff.mp h
  obtain ⟨ur2, eur2, er2⟩ := Option.bind_eq_some_iff.mp er2
  obtain ⟨fsr2, hor2⟩ := kp_ob_inv eur2
  refine kw_callV (As := []) (S := []) kcX2 cbX11_seen_X2_isThere lkX11_137 imX2_isThere seX2_X2_isThere_X2_isThere rfl rfl (Nat.le_of_ble_eq_true rfl) dX11_seen_4 hor2 (X2_isThere_c G hp v1 _ er2) (fun vv hh hq => ?_)
  rw [hq.1, hq.2]
  show kw_V G mX11_seen 7 [some (.ref x0), some (.int x1), some (.int x2), some (.int x3), some (.int x4), none] [.int r2] hp Q
  refine kw_if_ne 13 dX11_seen_7 (by decide) (fun c18 => ?_) (fun c18 => ?_)
  · have h := (if_neg c18).symm.trans h
    refine kw_iload_n dX11_seen_13 rfl ?_
    obtain ⟨r3, er3, h⟩ := Option.bind_eq_some_iff.mp h
    refine kw_callS (As := [.int x1]) (S := []) cbX11_seen_X11_isJob lkX11_179 stX11_isJob rfl rfl (Nat.le_of_ble_eq_true rfl) dX11_seen_14 (X11_isJob_c G hp x1 _ er3) (fun vv hh hq => ?_)
    rw [hq.1, hq.2]
    show kw_V G mX11_seen 17 [some (.ref x0), some (.int x1), some (.int x2), some (.int x3), some (.int x4), none] [.int r3] hp Q
    refine kw_if_eq 38 dX11_seen_17 (by decide) (fun c17 => ?_) (fun c17 => ?_)
    · have h := (if_pos c17).symm.trans h
      refine kw_ldc (v := (-1000001)) dX11_seen_38 ckX11_59 ?_
      have h := Option.some.inj h
      subst h
      exact kw_iret rfl dX11_seen_40 hK
    · have h := (if_neg c17).symm.trans h
      refine kw_iload_n dX11_seen_20 rfl ?_
      obtain ⟨r4, er4, h⟩ := Option.bind_eq_some_iff.mp h
      refine kw_callS (As := [.int x2]) (S := []) cbX11_seen_X6_isRow lkX11_51 stX6_isRow rfl rfl (Nat.le_of_ble_eq_true rfl) dX11_seen_21 (X6_isRow_c G hp x2 _ er4) (fun vv hh hq => ?_)
      rw [hq.1, hq.2]
      show kw_V G mX11_seen 24 [some (.ref x0), some (.int x1), some (.int x2), some (.int x3), some (.int x4), none] [.int r4] hp Q
      refine kw_if_eq 38 dX11_seen_24 (by decide) (fun c16 => ?_) (fun c16 => ?_)
      · have h := (if_pos c16).symm.trans h
        refine kw_ldc (v := (-1000001)) dX11_seen_38 ckX11_59 ?_
        have h := Option.some.inj h
        subst h
        exact kw_iret rfl dX11_seen_40 hK
      · have h := (if_neg c16).symm.trans h
        refine kw_iload dX11_seen_27 rfl ?_
        refine kw_iconst (v := nI 1) dX11_seen_29 (by decide) ?_
        refine kw_bipush (v := nI 12) dX11_seen_30 (by decide) ?_
        obtain ⟨r5, er5, h⟩ := Option.bind_eq_some_iff.mp h
        refine kw_callS (As := [.int x4, .int (nI 1), .int (nI 12)]) (S := []) cbX11_seen_X11_within lkX11_55 stX11_within rfl rfl (Nat.le_of_ble_eq_true rfl) dX11_seen_32 (X11_within_c G hp x4 (nI 1) (nI 12) _ er5) (fun vv hh hq => ?_)
        rw [hq.1, hq.2]
        show kw_V G mX11_seen 35 [some (.ref x0), some (.int x1), some (.int x2), some (.int x3), some (.int x4), none] [.int r5] hp Q
        refine kw_if_ne 41 dX11_seen_35 (by decide) (fun c15 => ?_) (fun c15 => ?_)
        · have h := (if_neg c15).symm.trans h
          refine kw_aload_n dX11_seen_41 rfl ?_
          obtain ⟨v6, ev6, h⟩ := Option.bind_eq_some_iff.mp h
          refine kv_gR gfX11_10 dX11_seen_42 ev6 ?_
          refine kw_iload_n dX11_seen_45 rfl ?_
          refine kw_iload_n dX11_seen_46 rfl ?_
          refine kw_iload dX11_seen_47 rfl ?_
          obtain ⟨r7, er7, h⟩ := Option.bind_eq_some_iff.mp h
          obtain ⟨ur7, eur7, er7⟩ := Option.bind_eq_some_iff.mp er7
          obtain ⟨fsr7, hor7⟩ := kp_ob_inv eur7
          refine kw_callV (As := [.int x2, .int x3, .int x4]) (S := []) kcX6 cbX11_seen_X6_findingAt lkX11_71 imX6_findingAt seX6_X6_findingAt_X6_findingAt rfl rfl (Nat.le_of_ble_eq_true rfl) dX11_seen_49 hor7 (X6_findingAt_c G hp v6 x2 x3 x4 _ er7) (fun vv hh hq => ?_)
          rw [hq.1, hq.2]
          show kw_V G mX11_seen 52 [some (.ref x0), some (.int x1), some (.int x2), some (.int x3), some (.int x4), none] [.int r7] hp Q
          refine kw_istore (L' := [some (.ref x0), some (.int x1), some (.int x2), some (.int x3), some (.int x4), some (.int r7)]) dX11_seen_52 (by decide) rfl ?_
          refine kw_iload dX11_seen_54 rfl ?_
          refine kw_if_eq 68 dX11_seen_56 (by decide) (fun c14 => ?_) (fun c14 => ?_)
          · have h := (if_pos c14).symm.trans h
            refine kw_aload_n dX11_seen_68 rfl ?_
            refine kw_aload_n dX11_seen_69 rfl ?_
            obtain ⟨v8, ev8, h⟩ := Option.bind_eq_some_iff.mp h
            refine kv_gR gfX11_33 dX11_seen_70 ev8 ?_
            refine kw_aload_n dX11_seen_73 rfl ?_
            obtain ⟨v9, ev9, h⟩ := Option.bind_eq_some_iff.mp h
            refine kv_gR gfX11_26 dX11_seen_74 ev9 ?_
            refine kw_iload_n dX11_seen_77 rfl ?_
            refine kw_aload_n dX11_seen_78 rfl ?_
            obtain ⟨v10, ev10, h⟩ := Option.bind_eq_some_iff.mp h
            refine kv_gR gfX11_10 dX11_seen_79 ev10 ?_
            refine kw_iload_n dX11_seen_82 rfl ?_
            refine kw_iload_n dX11_seen_83 rfl ?_
            refine kw_iload dX11_seen_84 rfl ?_
            obtain ⟨r11, er11, h⟩ := Option.bind_eq_some_iff.mp h
            obtain ⟨ur11, eur11, er11⟩ := Option.bind_eq_some_iff.mp er11
            obtain ⟨fsr11, hor11⟩ := kp_ob_inv eur11
            refine kw_callV (As := [.ref v9, .int x1, .ref v10, .int x2, .int x3, .int x4]) (S := [.ref x0]) kcX1 cbX11_seen_X1_turnedSeen lkX11_249 imX1_turnedSeen seX1_X1_turnedSeen_X1_turnedSeen rfl rfl (Nat.le_of_ble_eq_true rfl) dX11_seen_86 hor11 (X1_turnedSeen_c G hp v8 v9 x1 v10 x2 x3 x4 _ er11) (fun vv hh hq => ?_)
            rw [hq.1, hq.2]
            show kw_V G mX11_seen 89 [some (.ref x0), some (.int x1), some (.int x2), some (.int x3), some (.int x4), some (.int r7)] [.int r11, .ref x0] hp Q
            obtain ⟨r12, er12, h⟩ := Option.bind_eq_some_iff.mp h
            obtain ⟨ur12, eur12, er12⟩ := Option.bind_eq_some_iff.mp er12
            obtain ⟨fsr12, hor12⟩ := kp_ob_inv eur12
            refine kw_callV (As := [.int r11]) (S := []) kcX11 cbX11_seen_X11_unfound lkX11_68 imX11_unfound seX11_X11_unfound_X11_unfound rfl rfl (Nat.le_of_ble_eq_true rfl) dX11_seen_89 hor12 (X11_unfound_c G hp x0 r11 _ er12) (fun vv hh hq => ?_)
            rw [hq.1, hq.2]
            show kw_V G mX11_seen 92 [some (.ref x0), some (.int x1), some (.int x2), some (.int x3), some (.int x4), some (.int r7)] [.int r12.1] r12.2 Q
            have h := Option.some.inj h
            subst h
            exact kw_iret rfl dX11_seen_92 hK
          · have h := (if_neg c14).symm.trans h
            refine kw_aload_n dX11_seen_59 rfl ?_
            refine kw_iload dX11_seen_60 rfl ?_
            obtain ⟨r13, er13, h⟩ := Option.bind_eq_some_iff.mp h
            obtain ⟨ur13, eur13, er13⟩ := Option.bind_eq_some_iff.mp er13
            obtain ⟨fsr13, hor13⟩ := kp_ob_inv eur13
            refine kw_callV (As := [.int r7]) (S := []) kcX11 cbX11_seen_X11_finding lkX11_60 imX11_finding seX11_X11_finding_X11_finding rfl rfl (Nat.le_of_ble_eq_true rfl) dX11_seen_62 hor13 (X11_finding_c G hp x0 r7 _ er13) (fun vv hh hq => ?_)
            rw [hq.1, hq.2]
            show kw_V G mX11_seen 65 [some (.ref x0), some (.int x1), some (.int x2), some (.int x3), some (.int x4), some (.int r7)] [.int r13.1] r13.2 Q
            refine kw_goto 92 dX11_seen_65 (by decide) ?_
            have h := Option.some.inj h
            subst h
            exact kw_iret rfl dX11_seen_92 hK
        · have h := (if_pos c15).symm.trans h
          refine kw_ldc (v := (-1000001)) dX11_seen_38 ckX11_59 ?_
          have h := Option.some.inj h
          subst h
          exact kw_iret rfl dX11_seen_40 hK
  · have h := (if_pos c18).symm.trans h
    refine kw_ldc (v := (-1000002)) dX11_seen_10 ckX11_129 ?_
    have h := Option.some.inj h
    subst h
    exact kw_iret rfl dX11_seen_12 hK
/-! KitchenWheels.who(IIII)I -/
def X11_who_F (hp : kw_H) (x0 : Nat) (x1 : Int32) (x2 : Int32) (x3 : Int32) (x4 : Int32) : Option (Int32 × kw_H) :=
  (kp_gR hp x0 [10] 2).bind fun v1 =>
  ((kp_ob hp v1 2).bind fun _ => X2_turnerAt_F hp v1 x1).bind fun r2 =>
  kp_nu r2 (some (((-1000001), hp))) (fun b4 =>
  (X6_isRow_F hp x2).bind fun r5 =>
  (if r5 = 0 then
  some (((-1000001), hp))
else
  (X11_within_F hp x4 (nI 1) (nI 12)).bind fun r6 =>
  (if r6 = 0 then
  some (((-1000001), hp))
else
  (kp_gR hp x0 [10] 0).bind fun v7 =>
  ((kp_ob hp v7 6).bind fun _ => X6_findingAt_F hp v7 x2 x3 x4).bind fun r8 =>
  (if r8 = 0 then
  (kp_gR hp x0 [10] 3).bind fun v9 =>
  (kp_gR hp x0 [10] 2).bind fun v10 =>
  (kp_gR hp x0 [10] 0).bind fun v11 =>
  ((kp_ob hp v9 1).bind fun _ => X1_kindsSeen_F hp v9 v10 x1 v11 x2 x3 x4).bind fun r12 =>
  ((kp_ob r12.2 x0 10).bind fun _ => X11_unfound_F r12.2 x0 r12.1).bind fun r13 =>
  some ((r13.1, r13.2))
else
  ((kp_ob hp x0 10).bind fun _ => X11_finding_F hp x0 r8).bind fun r14 =>
  some ((r14.1, r14.2))))))
set_option maxRecDepth 100000 in
set_option maxHeartbeats 4000000 in
theorem X11_who_c (G : kw_G) (hp : kw_H) (x0 : Nat) (x1 : Int32) (x2 : Int32) (x3 : Int32) (x4 : Int32) (r : Int32 × kw_H) (h : X11_who_F hp x0 x1 x2 x3 x4 = some r) : kw_Met G mX11_who [.ref x0, .int x1, .int x2, .int x3, .int x4] hp (fun v h2 => v = some (.int r.1) ∧ h2 = r.2) := by
  refine kw_met (L := [some (.ref x0), some (.int x1), some (.int x2), some (.int x3), some (.int x4), none]) (r := 1) (by decide +kernel) (Nat.le_of_ble_eq_true rfl) rfl ?_
  unfold X11_who_F at h
  obtain ⟨Q, hQ⟩ : ∃ Q : Option Value → kw_H → Prop, Q = (fun v h2 => v = some (.int r.1) ∧ h2 = r.2) := ⟨_, rfl⟩
  have hK : Q (some (.int r.1)) r.2 := by rw [hQ]; exact ⟨rfl, rfl⟩
  rw [← hQ]
  clear hQ
  refine kw_aload_n dX11_who_0 rfl ?_
  obtain ⟨v1, ev1, h⟩ := Option.bind_eq_some_iff.mp h
  refine kv_gR gfX11_26 dX11_who_1 ev1 ?_
  refine kw_iload_n dX11_who_4 rfl ?_
  obtain ⟨r2, er2, h⟩ := Option.bind_eq_some_iff.mp h
  obtain ⟨ur2, eur2, er2⟩ := Option.bind_eq_some_iff.mp er2
  obtain ⟨fsr2, hor2⟩ := kp_ob_inv eur2
  refine kw_callV (As := [.int x1]) (S := []) kcX2 cbX11_who_X2_turnerAt lkX11_189 imX2_turnerAt seX2_X2_turnerAt_X2_turnerAt rfl rfl (Nat.le_of_ble_eq_true rfl) dX11_who_5 hor2 (X2_turnerAt_c G hp v1 x1 _ er2) (fun vv hh hq => ?_)
  rw [hq.1, hq.2]
  show kw_V G mX11_who 8 [some (.ref x0), some (.int x1), some (.int x2), some (.int x3), some (.int x4), none] (va_rf r2 :: []) hp Q
  cases r2 with
  | none =>
    dsimp only [kp_nu, va_rf] at h ⊢
    refine kw_ifnullN 29 dX11_who_8 (by decide) ?_
    refine kw_ldc (v := (-1000001)) dX11_who_29 ckX11_59 ?_
    have h := Option.some.inj h
    subst h
    exact kw_iret rfl dX11_who_31 hK
  | some b4 =>
    dsimp only [kp_nu, va_rf] at h ⊢
    refine kw_ifnull dX11_who_8 ?_
    refine kw_iload_n dX11_who_11 rfl ?_
    obtain ⟨r5, er5, h⟩ := Option.bind_eq_some_iff.mp h
    refine kw_callS (As := [.int x2]) (S := []) cbX11_who_X6_isRow lkX11_51 stX6_isRow rfl rfl (Nat.le_of_ble_eq_true rfl) dX11_who_12 (X6_isRow_c G hp x2 _ er5) (fun vv hh hq => ?_)
    rw [hq.1, hq.2]
    show kw_V G mX11_who 15 [some (.ref x0), some (.int x1), some (.int x2), some (.int x3), some (.int x4), none] [.int r5] hp Q
    refine kw_if_eq 29 dX11_who_15 (by decide) (fun c17 => ?_) (fun c17 => ?_)
    · have h := (if_pos c17).symm.trans h
      refine kw_ldc (v := (-1000001)) dX11_who_29 ckX11_59 ?_
      have h := Option.some.inj h
      subst h
      exact kw_iret rfl dX11_who_31 hK
    · have h := (if_neg c17).symm.trans h
      refine kw_iload dX11_who_18 rfl ?_
      refine kw_iconst (v := nI 1) dX11_who_20 (by decide) ?_
      refine kw_bipush (v := nI 12) dX11_who_21 (by decide) ?_
      obtain ⟨r6, er6, h⟩ := Option.bind_eq_some_iff.mp h
      refine kw_callS (As := [.int x4, .int (nI 1), .int (nI 12)]) (S := []) cbX11_who_X11_within lkX11_55 stX11_within rfl rfl (Nat.le_of_ble_eq_true rfl) dX11_who_23 (X11_within_c G hp x4 (nI 1) (nI 12) _ er6) (fun vv hh hq => ?_)
      rw [hq.1, hq.2]
      show kw_V G mX11_who 26 [some (.ref x0), some (.int x1), some (.int x2), some (.int x3), some (.int x4), none] [.int r6] hp Q
      refine kw_if_ne 32 dX11_who_26 (by decide) (fun c16 => ?_) (fun c16 => ?_)
      · have h := (if_neg c16).symm.trans h
        refine kw_aload_n dX11_who_32 rfl ?_
        obtain ⟨v7, ev7, h⟩ := Option.bind_eq_some_iff.mp h
        refine kv_gR gfX11_10 dX11_who_33 ev7 ?_
        refine kw_iload_n dX11_who_36 rfl ?_
        refine kw_iload_n dX11_who_37 rfl ?_
        refine kw_iload dX11_who_38 rfl ?_
        obtain ⟨r8, er8, h⟩ := Option.bind_eq_some_iff.mp h
        obtain ⟨ur8, eur8, er8⟩ := Option.bind_eq_some_iff.mp er8
        obtain ⟨fsr8, hor8⟩ := kp_ob_inv eur8
        refine kw_callV (As := [.int x2, .int x3, .int x4]) (S := []) kcX6 cbX11_who_X6_findingAt lkX11_71 imX6_findingAt seX6_X6_findingAt_X6_findingAt rfl rfl (Nat.le_of_ble_eq_true rfl) dX11_who_40 hor8 (X6_findingAt_c G hp v7 x2 x3 x4 _ er8) (fun vv hh hq => ?_)
        rw [hq.1, hq.2]
        show kw_V G mX11_who 43 [some (.ref x0), some (.int x1), some (.int x2), some (.int x3), some (.int x4), none] [.int r8] hp Q
        refine kw_istore (L' := [some (.ref x0), some (.int x1), some (.int x2), some (.int x3), some (.int x4), some (.int r8)]) dX11_who_43 (by decide) rfl ?_
        refine kw_iload dX11_who_45 rfl ?_
        refine kw_if_eq 59 dX11_who_47 (by decide) (fun c15 => ?_) (fun c15 => ?_)
        · have h := (if_pos c15).symm.trans h
          refine kw_aload_n dX11_who_59 rfl ?_
          refine kw_aload_n dX11_who_60 rfl ?_
          obtain ⟨v9, ev9, h⟩ := Option.bind_eq_some_iff.mp h
          refine kv_gR gfX11_33 dX11_who_61 ev9 ?_
          refine kw_aload_n dX11_who_64 rfl ?_
          obtain ⟨v10, ev10, h⟩ := Option.bind_eq_some_iff.mp h
          refine kv_gR gfX11_26 dX11_who_65 ev10 ?_
          refine kw_iload_n dX11_who_68 rfl ?_
          refine kw_aload_n dX11_who_69 rfl ?_
          obtain ⟨v11, ev11, h⟩ := Option.bind_eq_some_iff.mp h
          refine kv_gR gfX11_10 dX11_who_70 ev11 ?_
          refine kw_iload_n dX11_who_73 rfl ?_
          refine kw_iload_n dX11_who_74 rfl ?_
          refine kw_iload dX11_who_75 rfl ?_
          obtain ⟨r12, er12, h⟩ := Option.bind_eq_some_iff.mp h
          obtain ⟨ur12, eur12, er12⟩ := Option.bind_eq_some_iff.mp er12
          obtain ⟨fsr12, hor12⟩ := kp_ob_inv eur12
          refine kw_callV (As := [.ref v10, .int x1, .ref v11, .int x2, .int x3, .int x4]) (S := [.ref x0]) kcX1 cbX11_who_X1_kindsSeen lkX11_253 imX1_kindsSeen seX1_X1_kindsSeen_X1_kindsSeen rfl rfl (Nat.le_of_ble_eq_true rfl) dX11_who_77 hor12 (X1_kindsSeen_c G hp v9 v10 x1 v11 x2 x3 x4 _ er12) (fun vv hh hq => ?_)
          rw [hq.1, hq.2]
          show kw_V G mX11_who 80 [some (.ref x0), some (.int x1), some (.int x2), some (.int x3), some (.int x4), some (.int r8)] [.int r12.1, .ref x0] r12.2 Q
          obtain ⟨r13, er13, h⟩ := Option.bind_eq_some_iff.mp h
          obtain ⟨ur13, eur13, er13⟩ := Option.bind_eq_some_iff.mp er13
          obtain ⟨fsr13, hor13⟩ := kp_ob_inv eur13
          refine kw_callV (As := [.int r12.1]) (S := []) kcX11 cbX11_who_X11_unfound lkX11_68 imX11_unfound seX11_X11_unfound_X11_unfound rfl rfl (Nat.le_of_ble_eq_true rfl) dX11_who_80 hor13 (X11_unfound_c G r12.2 x0 r12.1 _ er13) (fun vv hh hq => ?_)
          rw [hq.1, hq.2]
          show kw_V G mX11_who 83 [some (.ref x0), some (.int x1), some (.int x2), some (.int x3), some (.int x4), some (.int r8)] [.int r13.1] r13.2 Q
          have h := Option.some.inj h
          subst h
          exact kw_iret rfl dX11_who_83 hK
        · have h := (if_neg c15).symm.trans h
          refine kw_aload_n dX11_who_50 rfl ?_
          refine kw_iload dX11_who_51 rfl ?_
          obtain ⟨r14, er14, h⟩ := Option.bind_eq_some_iff.mp h
          obtain ⟨ur14, eur14, er14⟩ := Option.bind_eq_some_iff.mp er14
          obtain ⟨fsr14, hor14⟩ := kp_ob_inv eur14
          refine kw_callV (As := [.int r8]) (S := []) kcX11 cbX11_who_X11_finding lkX11_60 imX11_finding seX11_X11_finding_X11_finding rfl rfl (Nat.le_of_ble_eq_true rfl) dX11_who_53 hor14 (X11_finding_c G hp x0 r8 _ er14) (fun vv hh hq => ?_)
          rw [hq.1, hq.2]
          show kw_V G mX11_who 56 [some (.ref x0), some (.int x1), some (.int x2), some (.int x3), some (.int x4), some (.int r8)] [.int r14.1] r14.2 Q
          refine kw_goto 83 dX11_who_56 (by decide) ?_
          have h := Option.some.inj h
          subst h
          exact kw_iret rfl dX11_who_83 hK
      · have h := (if_pos c16).symm.trans h
        refine kw_ldc (v := (-1000001)) dX11_who_29 ckX11_59 ?_
        have h := Option.some.inj h
        subst h
        exact kw_iret rfl dX11_who_31 hK
/-! KitchenWheels.pairs(I)I -/
def X11_pairs_F (hp : kw_H) (x0 : Nat) (x1 : Int32) : Option (Int32 × kw_H) :=
  (kp_gR hp x0 [10] 2).bind fun v1 =>
  ((kp_ob hp v1 2).bind fun _ => X2_isThere_F hp v1).bind fun r2 =>
  (if r2 = 0 then
  some (((-1000002), hp))
else
  (X11_within_F hp x1 (nI 1) (nI 60)).bind fun r3 =>
  (if r3 = 0 then
  some (((-1000001), hp))
else
  (kp_gR hp x0 [10] 3).bind fun v4 =>
  (kp_gR hp x0 [10] 2).bind fun v5 =>
  ((kp_ob hp v4 1).bind fun _ => X1_pairsIn_F hp v4 v5 x1).bind fun r6 =>
  some ((r6.1, r6.2))))
set_option maxRecDepth 100000 in
set_option maxHeartbeats 4000000 in
theorem X11_pairs_c (G : kw_G) (hp : kw_H) (x0 : Nat) (x1 : Int32) (r : Int32 × kw_H) (h : X11_pairs_F hp x0 x1 = some r) : kw_Met G mX11_pairs [.ref x0, .int x1] hp (fun v h2 => v = some (.int r.1) ∧ h2 = r.2) := by
  refine kw_met (L := [some (.ref x0), some (.int x1)]) (r := 0) (by decide +kernel) (Nat.le_of_ble_eq_true rfl) rfl ?_
  unfold X11_pairs_F at h
  obtain ⟨Q, hQ⟩ : ∃ Q : Option Value → kw_H → Prop, Q = (fun v h2 => v = some (.int r.1) ∧ h2 = r.2) := ⟨_, rfl⟩
  have hK : Q (some (.int r.1)) r.2 := by rw [hQ]; exact ⟨rfl, rfl⟩
  rw [← hQ]
  clear hQ
  refine kw_aload_n dX11_pairs_0 rfl ?_
  obtain ⟨v1, ev1, h⟩ := Option.bind_eq_some_iff.mp h
  refine kv_gR gfX11_26 dX11_pairs_1 ev1 ?_
  obtain ⟨r2, er2, h⟩ := Option.bind_eq_some_iff.mp h
  obtain ⟨ur2, eur2, er2⟩ := Option.bind_eq_some_iff.mp er2
  obtain ⟨fsr2, hor2⟩ := kp_ob_inv eur2
  refine kw_callV (As := []) (S := []) kcX2 cbX11_pairs_X2_isThere lkX11_137 imX2_isThere seX2_X2_isThere_X2_isThere rfl rfl (Nat.le_of_ble_eq_true rfl) dX11_pairs_4 hor2 (X2_isThere_c G hp v1 _ er2) (fun vv hh hq => ?_)
  rw [hq.1, hq.2]
  show kw_V G mX11_pairs 7 [some (.ref x0), some (.int x1)] [.int r2] hp Q
  refine kw_if_ne 13 dX11_pairs_7 (by decide) (fun c8 => ?_) (fun c8 => ?_)
  · have h := (if_neg c8).symm.trans h
    refine kw_iload_n dX11_pairs_13 rfl ?_
    refine kw_iconst (v := nI 1) dX11_pairs_14 (by decide) ?_
    refine kw_bipush (v := nI 60) dX11_pairs_15 (by decide) ?_
    obtain ⟨r3, er3, h⟩ := Option.bind_eq_some_iff.mp h
    refine kw_callS (As := [.int x1, .int (nI 1), .int (nI 60)]) (S := []) cbX11_pairs_X11_within lkX11_55 stX11_within rfl rfl (Nat.le_of_ble_eq_true rfl) dX11_pairs_17 (X11_within_c G hp x1 (nI 1) (nI 60) _ er3) (fun vv hh hq => ?_)
    rw [hq.1, hq.2]
    show kw_V G mX11_pairs 20 [some (.ref x0), some (.int x1)] [.int r3] hp Q
    refine kw_if_eq 38 dX11_pairs_20 (by decide) (fun c7 => ?_) (fun c7 => ?_)
    · have h := (if_pos c7).symm.trans h
      refine kw_ldc (v := (-1000001)) dX11_pairs_38 ckX11_59 ?_
      have h := Option.some.inj h
      subst h
      exact kw_iret rfl dX11_pairs_40 hK
    · have h := (if_neg c7).symm.trans h
      refine kw_aload_n dX11_pairs_23 rfl ?_
      obtain ⟨v4, ev4, h⟩ := Option.bind_eq_some_iff.mp h
      refine kv_gR gfX11_33 dX11_pairs_24 ev4 ?_
      refine kw_aload_n dX11_pairs_27 rfl ?_
      obtain ⟨v5, ev5, h⟩ := Option.bind_eq_some_iff.mp h
      refine kv_gR gfX11_26 dX11_pairs_28 ev5 ?_
      refine kw_iload_n dX11_pairs_31 rfl ?_
      obtain ⟨r6, er6, h⟩ := Option.bind_eq_some_iff.mp h
      obtain ⟨ur6, eur6, er6⟩ := Option.bind_eq_some_iff.mp er6
      obtain ⟨fsr6, hor6⟩ := kp_ob_inv eur6
      refine kw_callV (As := [.ref v5, .int x1]) (S := []) kcX1 cbX11_pairs_X1_pairsIn lkX11_256 imX1_pairsIn seX1_X1_pairsIn_X1_pairsIn rfl rfl (Nat.le_of_ble_eq_true rfl) dX11_pairs_32 hor6 (X1_pairsIn_c G hp v4 v5 x1 _ er6) (fun vv hh hq => ?_)
      rw [hq.1, hq.2]
      show kw_V G mX11_pairs 35 [some (.ref x0), some (.int x1)] [.int r6.1] r6.2 Q
      refine kw_goto 40 dX11_pairs_35 (by decide) ?_
      have h := Option.some.inj h
      subst h
      exact kw_iret rfl dX11_pairs_40 hK
  · have h := (if_pos c8).symm.trans h
    refine kw_ldc (v := (-1000002)) dX11_pairs_10 ckX11_129 ?_
    have h := Option.some.inj h
    subst h
    exact kw_iret rfl dX11_pairs_12 hK
/-! KitchenWheels.commonPart(JJ)J -/
def X11_commonPart_K9 (G : kw_G) (Q : Option Value → kw_H → Prop) (hp : kw_H) (r : (Int64 × Int64 × Int32) ⊕ (Int64)) : Prop := match r with
  | .inl z => kw_V G mX11_commonPart 9 [none, none, none, none, some (.long z.1), none, some (.long z.2.1), none, some (.int z.2.2), none, none] [] hp Q
  | .inr r => Q (some (.long r)) hp
def X11_commonPart_J44 (hp : kw_H) (x4 : Int64) : Option (Int64) :=
  some (x4)
set_option maxRecDepth 100000 in
set_option maxHeartbeats 4000000 in
theorem X11_commonPart_J44_t (G : kw_G) (Q : Option Value → kw_H → Prop) (hp : kw_H) (x4 : Int64) (r : Int64) (h : X11_commonPart_J44 hp x4 = some r) (hK : Q (some (.long r)) hp) : kw_V G mX11_commonPart 44 [none, none, none, none, some (.long x4), none, none, none, none, none, none] [] hp Q := by
  unfold X11_commonPart_J44 at h
  refine kw_lload dX11_commonPart_44 rfl ?_
  have h := Option.some.inj h
  subst h
  exact kw_lret rfl dX11_commonPart_46 hK
def X11_commonPart_b9 (hp : kw_H) (x4 : Int64) (x6 : Int64) (x8 : Int32) : Option (((Int64 × Int64 × Int32) ⊕ (Int64))) :=
  (if (nI 100) ≤ x8 then
  (X11_commonPart_J44 hp x4).map (fun r => .inr (r))
else
  (if (lg_cmp x6 (lN 0)) = 0 then
  (X11_commonPart_J44 hp x4).map (fun r => .inr (r))
else
  (kp_remL x4 x6).bind fun v3 =>
  some (.inl (x6, v3, x8 + (nI 1)))))
set_option maxRecDepth 100000 in
set_option maxHeartbeats 4000000 in
theorem X11_commonPart_b9_t (G : kw_G) (Q : Option Value → kw_H → Prop) (hp : kw_H) (x4 : Int64) (x6 : Int64) (x8 : Int32) (r : ((Int64 × Int64 × Int32) ⊕ (Int64))) (h : X11_commonPart_b9 hp x4 x6 x8 = some r) (hK : X11_commonPart_K9 G Q hp r) : kw_V G mX11_commonPart 9 [none, none, none, none, some (.long x4), none, some (.long x6), none, some (.int x8), none, none] [] hp Q := by
  unfold X11_commonPart_b9 at h
  refine kw_iload dX11_commonPart_9 rfl ?_
  refine kw_bipush (v := nI 100) dX11_commonPart_11 (by decide) ?_
  refine kw_icmp_ge 44 dX11_commonPart_13 (by decide) (fun c5 => ?_) (fun c5 => ?_)
  · have h := (if_pos c5).symm.trans h
    refine kw_mask [true, true, true, true, true, true, false, true, false, true, true] (L' := [none, none, none, none, some (.long x4), none, none, none, none, none, none]) rfl ?_
    obtain ⟨r1, hr1, hrr1⟩ := Option.map_eq_some_iff.mp h
    subst hrr1
    exact X11_commonPart_J44_t G Q hp x4 r1 hr1 hK
  · have h := (if_neg c5).symm.trans h
    refine kw_lload dX11_commonPart_16 rfl ?_
    refine kw_lconst (v := lN 0) dX11_commonPart_18 (by decide) ?_
    refine kw_lcmp dX11_commonPart_19 ?_
    refine kw_if_eq 44 dX11_commonPart_20 (by decide) (fun c4 => ?_) (fun c4 => ?_)
    · have h := (if_pos c4).symm.trans h
      refine kw_mask [true, true, true, true, true, true, false, true, false, true, true] (L' := [none, none, none, none, some (.long x4), none, none, none, none, none, none]) rfl ?_
      obtain ⟨r2, hr2, hrr2⟩ := Option.map_eq_some_iff.mp h
      subst hrr2
      exact X11_commonPart_J44_t G Q hp x4 r2 hr2 hK
    · have h := (if_neg c4).symm.trans h
      refine kw_lload dX11_commonPart_23 rfl ?_
      refine kw_lload dX11_commonPart_25 rfl ?_
      obtain ⟨v3, ev3, h⟩ := Option.bind_eq_some_iff.mp h
      refine kv_lrem dX11_commonPart_27 ev3 ?_
      refine kw_lstore (L' := [none, none, none, none, some (.long x4), none, some (.long x6), none, some (.int x8), some (.long v3), none]) dX11_commonPart_28 (by decide) rfl ?_
      refine kw_lload dX11_commonPart_30 rfl ?_
      refine kw_lstore (L' := [none, none, none, none, some (.long x6), none, some (.long x6), none, some (.int x8), some (.long v3), none]) dX11_commonPart_32 (by decide) rfl ?_
      refine kw_lload dX11_commonPart_34 rfl ?_
      refine kw_lstore (L' := [none, none, none, none, some (.long x6), none, some (.long v3), none, some (.int x8), some (.long v3), none]) dX11_commonPart_36 (by decide) rfl ?_
      refine kv_iinc (w := nI 1) (L' := [none, none, none, none, some (.long x6), none, some (.long v3), none, some (.int (x8 + (nI 1))), some (.long v3), none]) dX11_commonPart_38 (by decide) rfl (by decide) rfl ?_
      refine kw_goto 9 dX11_commonPart_41 (by decide) ?_
      refine kw_mask [true, true, true, true, true, true, true, true, true, false, true] (L' := [none, none, none, none, some (.long x6), none, some (.long v3), none, some (.int (x8 + (nI 1))), none, none]) rfl ?_
      have h := Option.some.inj h
      subst h
      exact hK
def X11_commonPart_B9 (hp : kw_H) (z : Int64 × Int64 × Int32) : Option (((Int64 × Int64 × Int32) ⊕ (Int64))) := X11_commonPart_b9 hp z.1 z.2.1 z.2.2
theorem X11_commonPart_L9_t (G : kw_G) (Q : Option Value → kw_H → Prop) (hp : kw_H) (n : Nat) (z : Int64 × Int64 × Int32) (r : Int64) (h : kp_lp (X11_commonPart_B9 hp) n z = some r) (hK : Q (some (.long r)) hp) : kw_V G mX11_commonPart 9 [none, none, none, none, some (.long z.1), none, some (.long z.2.1), none, some (.int z.2.2), none, none] [] hp Q :=
  kv_lp _ (fun z => kw_V G mX11_commonPart 9 [none, none, none, none, some (.long z.1), none, some (.long z.2.1), none, some (.int z.2.2), none, none] [] hp Q) (fun r => Q (some (.long r)) hp) (fun z x hb hx => X11_commonPart_b9_t G Q hp z.1 z.2.1 z.2.2 x hb (by cases x <;> exact hx)) n z r h hK
def X11_commonPart_F (hp : kw_H) (x0 : Int64) (x2 : Int64) : Option (Int64) :=
  kp_lp (X11_commonPart_B9 hp) 2000 (x2, x0, nI 0)
set_option maxRecDepth 100000 in
set_option maxHeartbeats 4000000 in
theorem X11_commonPart_c (G : kw_G) (hp : kw_H) (x0 : Int64) (x2 : Int64) (r : Int64) (h : X11_commonPart_F hp x0 x2 = some r) : kw_Met G mX11_commonPart [.long x0, .long x2] hp (fun v h2 => v = some (.long r) ∧ h2 = hp) := by
  refine kw_met (L := [some (.long x0), none, some (.long x2), none, none, none, none, none, none, none, none]) (r := 7) (by decide +kernel) (Nat.le_of_ble_eq_true rfl) rfl ?_
  unfold X11_commonPart_F at h
  obtain ⟨Q, hQ⟩ : ∃ Q : Option Value → kw_H → Prop, Q = (fun v h2 => v = some (.long r) ∧ h2 = hp) := ⟨_, rfl⟩
  have hK : Q (some (.long r)) hp := by rw [hQ]; exact ⟨rfl, rfl⟩
  rw [← hQ]
  clear hQ
  refine kw_lload_n dX11_commonPart_0 rfl ?_
  refine kw_lstore (L' := [some (.long x0), none, some (.long x2), none, some (.long x2), none, none, none, none, none, none]) dX11_commonPart_1 (by decide) rfl ?_
  refine kw_lload_n dX11_commonPart_3 rfl ?_
  refine kw_lstore (L' := [some (.long x0), none, some (.long x2), none, some (.long x2), none, some (.long x0), none, none, none, none]) dX11_commonPart_4 (by decide) rfl ?_
  refine kw_iconst (v := nI 0) dX11_commonPart_6 (by decide) ?_
  refine kw_istore (L' := [some (.long x0), none, some (.long x2), none, some (.long x2), none, some (.long x0), none, some (.int (nI 0)), none, none]) dX11_commonPart_7 (by decide) rfl ?_
  refine kw_mask [false, true, false, true, true, true, true, true, true, true, true] (L' := [none, none, none, none, some (.long x2), none, some (.long x0), none, some (.int (nI 0)), none, none]) rfl ?_
  exact X11_commonPart_L9_t G Q hp _ (x2, x0, nI 0) _ h hK
/-! KitchenWheels.forgets(IIIII)J -/
def X11_forgets_K91 (G : kw_G) (Q : Option Value → kw_H → Prop) (hp : kw_H) (x3 : Int32) (x5 : Int32) (x6 : Int64) (r : (Int64 × Int32) ⊕ (Int64 × kw_H)) : Prop := match r with
  | .inl z => kw_V G mX11_forgets 91 [none, none, none, some (.int x3), none, some (.int x5), some (.long x6), none, some (.long z.1), none, some (.int z.2), none] [] hp Q
  | .inr r => Q (some (.long r.1)) r.2
def X11_forgets_J111 (hp : kw_H) (x5 : Int32) (x6 : Int64) (x8 : Int64) : Option (Int64 × kw_H) :=
  (X11_commonPart_F hp x6 x8).bind fun r11 =>
  (if (lg_cmp r11 (lN 0)) = 0 then
  some (((-1000001), hp))
else
  (if x5 = 0 then
  (kp_divL x6 r11).bind fun v13 =>
  some ((v13, hp))
else
  (kp_divL x8 r11).bind fun v12 =>
  some ((v12, hp))))
set_option maxRecDepth 100000 in
set_option maxHeartbeats 4000000 in
theorem X11_forgets_J111_t (G : kw_G) (Q : Option Value → kw_H → Prop) (hp : kw_H) (x5 : Int32) (x6 : Int64) (x8 : Int64) (r : Int64 × kw_H) (h : X11_forgets_J111 hp x5 x6 x8 = some r) (hK : Q (some (.long r.1)) r.2) : kw_V G mX11_forgets 111 [none, none, none, none, none, some (.int x5), some (.long x6), none, some (.long x8), none, none, none] [] hp Q := by
  unfold X11_forgets_J111 at h
  refine kw_lload dX11_forgets_111 rfl ?_
  refine kw_lload dX11_forgets_113 rfl ?_
  obtain ⟨r11, er11, h⟩ := Option.bind_eq_some_iff.mp h
  refine kw_callS (As := [.long x6, .long x8]) (S := []) cbX11_forgets_X11_commonPart lkX11_269 stX11_commonPart rfl rfl (Nat.le_of_ble_eq_true rfl) dX11_forgets_115 (X11_commonPart_c G hp x6 x8 _ er11) (fun vv hh hq => ?_)
  rw [hq.1, hq.2]
  show kw_V G mX11_forgets 118 [none, none, none, none, none, some (.int x5), some (.long x6), none, some (.long x8), none, none, none] [.long r11] hp Q
  refine kw_lstore (L' := [none, none, none, none, none, some (.int x5), some (.long x6), none, some (.long x8), none, some (.long r11), none]) dX11_forgets_118 (by decide) rfl ?_
  refine kw_lload dX11_forgets_120 rfl ?_
  refine kw_lconst (v := lN 0) dX11_forgets_122 (by decide) ?_
  refine kw_lcmp dX11_forgets_123 ?_
  refine kw_if_ne 131 dX11_forgets_124 (by decide) (fun c15 => ?_) (fun c15 => ?_)
  · have h := (if_neg c15).symm.trans h
    refine kw_iload dX11_forgets_131 rfl ?_
    refine kw_if_ne 144 dX11_forgets_133 (by decide) (fun c14 => ?_) (fun c14 => ?_)
    · have h := (if_neg c14).symm.trans h
      refine kw_lload dX11_forgets_144 rfl ?_
      refine kw_lload dX11_forgets_146 rfl ?_
      obtain ⟨v12, ev12, h⟩ := Option.bind_eq_some_iff.mp h
      refine kv_ldiv dX11_forgets_148 ev12 ?_
      have h := Option.some.inj h
      subst h
      exact kw_lret rfl dX11_forgets_149 hK
    · have h := (if_pos c14).symm.trans h
      refine kw_lload dX11_forgets_136 rfl ?_
      refine kw_lload dX11_forgets_138 rfl ?_
      obtain ⟨v13, ev13, h⟩ := Option.bind_eq_some_iff.mp h
      refine kv_ldiv dX11_forgets_140 ev13 ?_
      refine kw_goto 149 dX11_forgets_141 (by decide) ?_
      have h := Option.some.inj h
      subst h
      exact kw_lret rfl dX11_forgets_149 hK
  · have h := (if_pos c15).symm.trans h
    refine kw_ldc2_w (v := (-1000001)) dX11_forgets_127 ckX11_261 ?_
    have h := Option.some.inj h
    subst h
    exact kw_lret rfl dX11_forgets_130 hK
def X11_forgets_b91 (hp : kw_H) (x3 : Int32) (x5 : Int32) (x6 : Int64) (x8 : Int64) (x10 : Int32) : Option (((Int64 × Int32) ⊕ (Int64 × kw_H))) :=
  (if x3 ≤ x10 then
  (X11_forgets_J111 hp x5 x6 x8).map (fun r => .inr (r))
else
  some (.inl (x8 * (lN 10), x10 + (nI 1))))
set_option maxRecDepth 100000 in
set_option maxHeartbeats 4000000 in
theorem X11_forgets_b91_t (G : kw_G) (Q : Option Value → kw_H → Prop) (hp : kw_H) (x3 : Int32) (x5 : Int32) (x6 : Int64) (x8 : Int64) (x10 : Int32) (r : ((Int64 × Int32) ⊕ (Int64 × kw_H))) (h : X11_forgets_b91 hp x3 x5 x6 x8 x10 = some r) (hK : X11_forgets_K91 G Q hp x3 x5 x6 r) : kw_V G mX11_forgets 91 [none, none, none, some (.int x3), none, some (.int x5), some (.long x6), none, some (.long x8), none, some (.int x10), none] [] hp Q := by
  unfold X11_forgets_b91 at h
  refine kw_iload dX11_forgets_91 rfl ?_
  refine kw_iload_n dX11_forgets_93 rfl ?_
  refine kw_icmp_ge 111 dX11_forgets_94 (by decide) (fun c17 => ?_) (fun c17 => ?_)
  · have h := (if_pos c17).symm.trans h
    refine kw_mask [true, true, true, false, true, true, true, true, true, true, false, true] (L' := [none, none, none, none, none, some (.int x5), some (.long x6), none, some (.long x8), none, none, none]) rfl ?_
    obtain ⟨r16, hr16, hrr16⟩ := Option.map_eq_some_iff.mp h
    subst hrr16
    exact X11_forgets_J111_t G Q hp x5 x6 x8 r16 hr16 hK
  · have h := (if_neg c17).symm.trans h
    refine kw_lload dX11_forgets_97 rfl ?_
    refine kw_ldc2_w (v := lN 10) dX11_forgets_99 ckX11_267 ?_
    refine kw_lmul dX11_forgets_102 ?_
    refine kw_lstore (L' := [none, none, none, some (.int x3), none, some (.int x5), some (.long x6), none, some (.long (x8 * (lN 10))), none, some (.int x10), none]) dX11_forgets_103 (by decide) rfl ?_
    refine kv_iinc (w := nI 1) (L' := [none, none, none, some (.int x3), none, some (.int x5), some (.long x6), none, some (.long (x8 * (lN 10))), none, some (.int (x10 + (nI 1))), none]) dX11_forgets_105 (by decide) rfl (by decide) rfl ?_
    refine kw_goto 91 dX11_forgets_108 (by decide) ?_
    have h := Option.some.inj h
    subst h
    exact hK
def X11_forgets_B91 (hp : kw_H) (x3 : Int32) (x5 : Int32) (x6 : Int64) (z : Int64 × Int32) : Option (((Int64 × Int32) ⊕ (Int64 × kw_H))) := X11_forgets_b91 hp x3 x5 x6 z.1 z.2
theorem X11_forgets_L91_t (G : kw_G) (Q : Option Value → kw_H → Prop) (hp : kw_H) (x3 : Int32) (x5 : Int32) (x6 : Int64) (n : Nat) (z : Int64 × Int32) (r : Int64 × kw_H) (h : kp_lp (X11_forgets_B91 hp x3 x5 x6) n z = some r) (hK : Q (some (.long r.1)) r.2) : kw_V G mX11_forgets 91 [none, none, none, some (.int x3), none, some (.int x5), some (.long x6), none, some (.long z.1), none, some (.int z.2), none] [] hp Q :=
  kv_lp _ (fun z => kw_V G mX11_forgets 91 [none, none, none, some (.int x3), none, some (.int x5), some (.long x6), none, some (.long z.1), none, some (.int z.2), none] [] hp Q) (fun r => Q (some (.long r.1)) r.2) (fun z x hb hx => X11_forgets_b91_t G Q hp x3 x5 x6 z.1 z.2 x hb (by cases x <;> exact hx)) n z r h hK
def X11_forgets_F (hp : kw_H) (x0 : Nat) (x1 : Int32) (x2 : Int32) (x3 : Int32) (x4 : Int32) (x5 : Int32) : Option (Int64 × kw_H) :=
  (kp_gR hp x0 [10] 2).bind fun v1 =>
  ((kp_ob hp v1 2).bind fun _ => X2_isThere_F hp v1).bind fun r2 =>
  (if r2 = 0 then
  some (((-1000002), hp))
else
  (X11_isPerson_F hp x1).bind fun r3 =>
  (if r3 = 0 then
  some (((-1000001), hp))
else
  (X11_isJob_F hp x2).bind fun r4 =>
  (if r4 = 0 then
  some (((-1000001), hp))
else
  (X11_within_F hp x3 (nI 0) (nI 8)).bind fun r5 =>
  (if r5 = 0 then
  some (((-1000001), hp))
else
  (X11_within_F hp x4 (nI 0) (nI 10)).bind fun r6 =>
  (if r6 = 0 then
  some (((-1000001), hp))
else
  (X11_within_F hp x5 (nI 0) (nI 1)).bind fun r7 =>
  (if r7 = 0 then
  some (((-1000001), hp))
else
  (kp_gR hp x0 [10] 3).bind fun v8 =>
  (kp_gR hp x0 [10] 2).bind fun v9 =>
  ((kp_ob hp v8 1).bind fun _ => X1_casesOf_F hp v8 v9 x1 x2 x3 x4).bind fun r10 =>
  kp_lp (X11_forgets_B91 r10.2 x3 x5 r10.1) 2000 (lN 1, nI 0)))))))
set_option maxRecDepth 100000 in
set_option maxHeartbeats 4000000 in
theorem X11_forgets_c (G : kw_G) (hp : kw_H) (x0 : Nat) (x1 : Int32) (x2 : Int32) (x3 : Int32) (x4 : Int32) (x5 : Int32) (r : Int64 × kw_H) (h : X11_forgets_F hp x0 x1 x2 x3 x4 x5 = some r) : kw_Met G mX11_forgets [.ref x0, .int x1, .int x2, .int x3, .int x4, .int x5] hp (fun v h2 => v = some (.long r.1) ∧ h2 = r.2) := by
  refine kw_met (L := [some (.ref x0), some (.int x1), some (.int x2), some (.int x3), some (.int x4), some (.int x5), none, none, none, none, none, none]) (r := 6) (by decide +kernel) (Nat.le_of_ble_eq_true rfl) rfl ?_
  unfold X11_forgets_F at h
  obtain ⟨Q, hQ⟩ : ∃ Q : Option Value → kw_H → Prop, Q = (fun v h2 => v = some (.long r.1) ∧ h2 = r.2) := ⟨_, rfl⟩
  have hK : Q (some (.long r.1)) r.2 := by rw [hQ]; exact ⟨rfl, rfl⟩
  rw [← hQ]
  clear hQ
  refine kw_aload_n dX11_forgets_0 rfl ?_
  obtain ⟨v1, ev1, h⟩ := Option.bind_eq_some_iff.mp h
  refine kv_gR gfX11_26 dX11_forgets_1 ev1 ?_
  obtain ⟨r2, er2, h⟩ := Option.bind_eq_some_iff.mp h
  obtain ⟨ur2, eur2, er2⟩ := Option.bind_eq_some_iff.mp er2
  obtain ⟨fsr2, hor2⟩ := kp_ob_inv eur2
  refine kw_callV (As := []) (S := []) kcX2 cbX11_forgets_X2_isThere lkX11_137 imX2_isThere seX2_X2_isThere_X2_isThere rfl rfl (Nat.le_of_ble_eq_true rfl) dX11_forgets_4 hor2 (X2_isThere_c G hp v1 _ er2) (fun vv hh hq => ?_)
  rw [hq.1, hq.2]
  show kw_V G mX11_forgets 7 [some (.ref x0), some (.int x1), some (.int x2), some (.int x3), some (.int x4), some (.int x5), none, none, none, none, none, none] [.int r2] hp Q
  refine kw_if_ne 14 dX11_forgets_7 (by decide) (fun c23 => ?_) (fun c23 => ?_)
  · have h := (if_neg c23).symm.trans h
    refine kw_iload_n dX11_forgets_14 rfl ?_
    obtain ⟨r3, er3, h⟩ := Option.bind_eq_some_iff.mp h
    refine kw_callS (As := [.int x1]) (S := []) cbX11_forgets_X11_isPerson lkX11_152 stX11_isPerson rfl rfl (Nat.le_of_ble_eq_true rfl) dX11_forgets_15 (X11_isPerson_c G hp x1 _ er3) (fun vv hh hq => ?_)
    rw [hq.1, hq.2]
    show kw_V G mX11_forgets 18 [some (.ref x0), some (.int x1), some (.int x2), some (.int x3), some (.int x4), some (.int x5), none, none, none, none, none, none] [.int r3] hp Q
    refine kw_if_eq 38 dX11_forgets_18 (by decide) (fun c22 => ?_) (fun c22 => ?_)
    · have h := (if_pos c22).symm.trans h
      refine kw_ldc2_w (v := (-1000001)) dX11_forgets_38 ckX11_261 ?_
      have h := Option.some.inj h
      subst h
      exact kw_lret rfl dX11_forgets_41 hK
    · have h := (if_neg c22).symm.trans h
      refine kw_iload_n dX11_forgets_21 rfl ?_
      obtain ⟨r4, er4, h⟩ := Option.bind_eq_some_iff.mp h
      refine kw_callS (As := [.int x2]) (S := []) cbX11_forgets_X11_isJob lkX11_179 stX11_isJob rfl rfl (Nat.le_of_ble_eq_true rfl) dX11_forgets_22 (X11_isJob_c G hp x2 _ er4) (fun vv hh hq => ?_)
      rw [hq.1, hq.2]
      show kw_V G mX11_forgets 25 [some (.ref x0), some (.int x1), some (.int x2), some (.int x3), some (.int x4), some (.int x5), none, none, none, none, none, none] [.int r4] hp Q
      refine kw_if_eq 38 dX11_forgets_25 (by decide) (fun c21 => ?_) (fun c21 => ?_)
      · have h := (if_pos c21).symm.trans h
        refine kw_ldc2_w (v := (-1000001)) dX11_forgets_38 ckX11_261 ?_
        have h := Option.some.inj h
        subst h
        exact kw_lret rfl dX11_forgets_41 hK
      · have h := (if_neg c21).symm.trans h
        refine kw_iload_n dX11_forgets_28 rfl ?_
        refine kw_iconst (v := nI 0) dX11_forgets_29 (by decide) ?_
        refine kw_bipush (v := nI 8) dX11_forgets_30 (by decide) ?_
        obtain ⟨r5, er5, h⟩ := Option.bind_eq_some_iff.mp h
        refine kw_callS (As := [.int x3, .int (nI 0), .int (nI 8)]) (S := []) cbX11_forgets_X11_within lkX11_55 stX11_within rfl rfl (Nat.le_of_ble_eq_true rfl) dX11_forgets_32 (X11_within_c G hp x3 (nI 0) (nI 8) _ er5) (fun vv hh hq => ?_)
        rw [hq.1, hq.2]
        show kw_V G mX11_forgets 35 [some (.ref x0), some (.int x1), some (.int x2), some (.int x3), some (.int x4), some (.int x5), none, none, none, none, none, none] [.int r5] hp Q
        refine kw_if_ne 42 dX11_forgets_35 (by decide) (fun c20 => ?_) (fun c20 => ?_)
        · have h := (if_neg c20).symm.trans h
          refine kw_iload dX11_forgets_42 rfl ?_
          refine kw_iconst (v := nI 0) dX11_forgets_44 (by decide) ?_
          refine kw_bipush (v := nI 10) dX11_forgets_45 (by decide) ?_
          obtain ⟨r6, er6, h⟩ := Option.bind_eq_some_iff.mp h
          refine kw_callS (As := [.int x4, .int (nI 0), .int (nI 10)]) (S := []) cbX11_forgets_X11_within lkX11_55 stX11_within rfl rfl (Nat.le_of_ble_eq_true rfl) dX11_forgets_47 (X11_within_c G hp x4 (nI 0) (nI 10) _ er6) (fun vv hh hq => ?_)
          rw [hq.1, hq.2]
          show kw_V G mX11_forgets 50 [some (.ref x0), some (.int x1), some (.int x2), some (.int x3), some (.int x4), some (.int x5), none, none, none, none, none, none] [.int r6] hp Q
          refine kw_if_eq 63 dX11_forgets_50 (by decide) (fun c19 => ?_) (fun c19 => ?_)
          · have h := (if_pos c19).symm.trans h
            refine kw_ldc2_w (v := (-1000001)) dX11_forgets_63 ckX11_261 ?_
            have h := Option.some.inj h
            subst h
            exact kw_lret rfl dX11_forgets_66 hK
          · have h := (if_neg c19).symm.trans h
            refine kw_iload dX11_forgets_53 rfl ?_
            refine kw_iconst (v := nI 0) dX11_forgets_55 (by decide) ?_
            refine kw_iconst (v := nI 1) dX11_forgets_56 (by decide) ?_
            obtain ⟨r7, er7, h⟩ := Option.bind_eq_some_iff.mp h
            refine kw_callS (As := [.int x5, .int (nI 0), .int (nI 1)]) (S := []) cbX11_forgets_X11_within lkX11_55 stX11_within rfl rfl (Nat.le_of_ble_eq_true rfl) dX11_forgets_57 (X11_within_c G hp x5 (nI 0) (nI 1) _ er7) (fun vv hh hq => ?_)
            rw [hq.1, hq.2]
            show kw_V G mX11_forgets 60 [some (.ref x0), some (.int x1), some (.int x2), some (.int x3), some (.int x4), some (.int x5), none, none, none, none, none, none] [.int r7] hp Q
            refine kw_if_ne 67 dX11_forgets_60 (by decide) (fun c18 => ?_) (fun c18 => ?_)
            · have h := (if_neg c18).symm.trans h
              refine kw_aload_n dX11_forgets_67 rfl ?_
              obtain ⟨v8, ev8, h⟩ := Option.bind_eq_some_iff.mp h
              refine kv_gR gfX11_33 dX11_forgets_68 ev8 ?_
              refine kw_aload_n dX11_forgets_71 rfl ?_
              obtain ⟨v9, ev9, h⟩ := Option.bind_eq_some_iff.mp h
              refine kv_gR gfX11_26 dX11_forgets_72 ev9 ?_
              refine kw_iload_n dX11_forgets_75 rfl ?_
              refine kw_iload_n dX11_forgets_76 rfl ?_
              refine kw_iload_n dX11_forgets_77 rfl ?_
              refine kw_iload dX11_forgets_78 rfl ?_
              obtain ⟨r10, er10, h⟩ := Option.bind_eq_some_iff.mp h
              obtain ⟨ur10, eur10, er10⟩ := Option.bind_eq_some_iff.mp er10
              obtain ⟨fsr10, hor10⟩ := kp_ob_inv eur10
              refine kw_callV (As := [.ref v9, .int x1, .int x2, .int x3, .int x4]) (S := []) kcX1 cbX11_forgets_X1_casesOf lkX11_263 imX1_casesOf seX1_X1_casesOf_X1_casesOf rfl rfl (Nat.le_of_ble_eq_true rfl) dX11_forgets_80 hor10 (X1_casesOf_c G hp v8 v9 x1 x2 x3 x4 _ er10) (fun vv hh hq => ?_)
              rw [hq.1, hq.2]
              show kw_V G mX11_forgets 83 [some (.ref x0), some (.int x1), some (.int x2), some (.int x3), some (.int x4), some (.int x5), none, none, none, none, none, none] [.long r10.1] r10.2 Q
              refine kw_lstore (L' := [some (.ref x0), some (.int x1), some (.int x2), some (.int x3), some (.int x4), some (.int x5), some (.long r10.1), none, none, none, none, none]) dX11_forgets_83 (by decide) rfl ?_
              refine kw_lconst (v := lN 1) dX11_forgets_85 (by decide) ?_
              refine kw_lstore (L' := [some (.ref x0), some (.int x1), some (.int x2), some (.int x3), some (.int x4), some (.int x5), some (.long r10.1), none, some (.long (lN 1)), none, none, none]) dX11_forgets_86 (by decide) rfl ?_
              refine kw_iconst (v := nI 0) dX11_forgets_88 (by decide) ?_
              refine kw_istore (L' := [some (.ref x0), some (.int x1), some (.int x2), some (.int x3), some (.int x4), some (.int x5), some (.long r10.1), none, some (.long (lN 1)), none, some (.int (nI 0)), none]) dX11_forgets_89 (by decide) rfl ?_
              refine kw_mask [false, false, false, true, false, true, true, true, true, true, true, true] (L' := [none, none, none, some (.int x3), none, some (.int x5), some (.long r10.1), none, some (.long (lN 1)), none, some (.int (nI 0)), none]) rfl ?_
              exact X11_forgets_L91_t G Q r10.2 x3 x5 r10.1 _ (lN 1, nI 0) _ h hK
            · have h := (if_pos c18).symm.trans h
              refine kw_ldc2_w (v := (-1000001)) dX11_forgets_63 ckX11_261 ?_
              have h := Option.some.inj h
              subst h
              exact kw_lret rfl dX11_forgets_66 hK
        · have h := (if_pos c20).symm.trans h
          refine kw_ldc2_w (v := (-1000001)) dX11_forgets_38 ckX11_261 ?_
          have h := Option.some.inj h
          subst h
          exact kw_lret rfl dX11_forgets_41 hK
  · have h := (if_pos c23).symm.trans h
    refine kw_ldc2_w (v := (-1000002)) dX11_forgets_10 ckX11_259 ?_
    have h := Option.some.inj h
    subst h
    exact kw_lret rfl dX11_forgets_13 hK
/-! KitchenWheels.drawn(III)I -/
def X11_drawn_F (hp : kw_H) (x0 : Nat) (x1 : Int32) (x2 : Int32) (x3 : Int32) : Option (Int32 × kw_H) :=
  (kp_gR hp x0 [10] 2).bind fun v1 =>
  ((kp_ob hp v1 2).bind fun _ => X2_isThere_F hp v1).bind fun r2 =>
  (if r2 = 0 then
  some (((-1000002), hp))
else
  (X11_within_F hp x1 (nI 0) (nI 60)).bind fun r3 =>
  (if r3 = 0 then
  some (((-1000001), hp))
else
  (X11_within_F hp x2 (nI 1) (nI 999999)).bind fun r4 =>
  (if r4 = 0 then
  some (((-1000001), hp))
else
  (X11_within_F hp x3 (nI 0) (nI 1)).bind fun r5 =>
  (if r5 = 0 then
  some (((-1000001), hp))
else
  (if x3 = 0 then
  (kp_gR hp x0 [10] 3).bind fun v8 =>
  (kp_gR hp x0 [10] 2).bind fun v9 =>
  ((kp_ob hp v8 1).bind fun _ => X1_doneByDraws_F hp v8 v9 x1 x2).bind fun r10 =>
  some ((r10.1, r10.2))
else
  (kp_gR hp x0 [10] 2).bind fun v6 =>
  ((kp_ob hp v6 2).bind fun _ => X2_turnedBehind_F hp v6 x1).bind fun r7 =>
  some ((r7, hp)))))))
set_option maxRecDepth 100000 in
set_option maxHeartbeats 4000000 in
theorem X11_drawn_c (G : kw_G) (hp : kw_H) (x0 : Nat) (x1 : Int32) (x2 : Int32) (x3 : Int32) (r : Int32 × kw_H) (h : X11_drawn_F hp x0 x1 x2 x3 = some r) : kw_Met G mX11_drawn [.ref x0, .int x1, .int x2, .int x3] hp (fun v h2 => v = some (.int r.1) ∧ h2 = r.2) := by
  refine kw_met (L := [some (.ref x0), some (.int x1), some (.int x2), some (.int x3)]) (r := 0) (by decide +kernel) (Nat.le_of_ble_eq_true rfl) rfl ?_
  unfold X11_drawn_F at h
  obtain ⟨Q, hQ⟩ : ∃ Q : Option Value → kw_H → Prop, Q = (fun v h2 => v = some (.int r.1) ∧ h2 = r.2) := ⟨_, rfl⟩
  have hK : Q (some (.int r.1)) r.2 := by rw [hQ]; exact ⟨rfl, rfl⟩
  rw [← hQ]
  clear hQ
  refine kw_aload_n dX11_drawn_0 rfl ?_
  obtain ⟨v1, ev1, h⟩ := Option.bind_eq_some_iff.mp h
  refine kv_gR gfX11_26 dX11_drawn_1 ev1 ?_
  obtain ⟨r2, er2, h⟩ := Option.bind_eq_some_iff.mp h
  obtain ⟨ur2, eur2, er2⟩ := Option.bind_eq_some_iff.mp er2
  obtain ⟨fsr2, hor2⟩ := kp_ob_inv eur2
  refine kw_callV (As := []) (S := []) kcX2 cbX11_drawn_X2_isThere lkX11_137 imX2_isThere seX2_X2_isThere_X2_isThere rfl rfl (Nat.le_of_ble_eq_true rfl) dX11_drawn_4 hor2 (X2_isThere_c G hp v1 _ er2) (fun vv hh hq => ?_)
  rw [hq.1, hq.2]
  show kw_V G mX11_drawn 7 [some (.ref x0), some (.int x1), some (.int x2), some (.int x3)] [.int r2] hp Q
  refine kw_if_ne 13 dX11_drawn_7 (by decide) (fun c15 => ?_) (fun c15 => ?_)
  · have h := (if_neg c15).symm.trans h
    refine kw_iload_n dX11_drawn_13 rfl ?_
    refine kw_iconst (v := nI 0) dX11_drawn_14 (by decide) ?_
    refine kw_bipush (v := nI 60) dX11_drawn_15 (by decide) ?_
    obtain ⟨r3, er3, h⟩ := Option.bind_eq_some_iff.mp h
    refine kw_callS (As := [.int x1, .int (nI 0), .int (nI 60)]) (S := []) cbX11_drawn_X11_within lkX11_55 stX11_within rfl rfl (Nat.le_of_ble_eq_true rfl) dX11_drawn_17 (X11_within_c G hp x1 (nI 0) (nI 60) _ er3) (fun vv hh hq => ?_)
    rw [hq.1, hq.2]
    show kw_V G mX11_drawn 20 [some (.ref x0), some (.int x1), some (.int x2), some (.int x3)] [.int r3] hp Q
    refine kw_if_eq 43 dX11_drawn_20 (by decide) (fun c14 => ?_) (fun c14 => ?_)
    · have h := (if_pos c14).symm.trans h
      refine kw_ldc (v := (-1000001)) dX11_drawn_43 ckX11_59 ?_
      have h := Option.some.inj h
      subst h
      exact kw_iret rfl dX11_drawn_45 hK
    · have h := (if_neg c14).symm.trans h
      refine kw_iload_n dX11_drawn_23 rfl ?_
      refine kw_iconst (v := nI 1) dX11_drawn_24 (by decide) ?_
      refine kw_ldc_w (v := nI 999999) dX11_drawn_25 ckX11_273 ?_
      obtain ⟨r4, er4, h⟩ := Option.bind_eq_some_iff.mp h
      refine kw_callS (As := [.int x2, .int (nI 1), .int (nI 999999)]) (S := []) cbX11_drawn_X11_within lkX11_55 stX11_within rfl rfl (Nat.le_of_ble_eq_true rfl) dX11_drawn_28 (X11_within_c G hp x2 (nI 1) (nI 999999) _ er4) (fun vv hh hq => ?_)
      rw [hq.1, hq.2]
      show kw_V G mX11_drawn 31 [some (.ref x0), some (.int x1), some (.int x2), some (.int x3)] [.int r4] hp Q
      refine kw_if_eq 43 dX11_drawn_31 (by decide) (fun c13 => ?_) (fun c13 => ?_)
      · have h := (if_pos c13).symm.trans h
        refine kw_ldc (v := (-1000001)) dX11_drawn_43 ckX11_59 ?_
        have h := Option.some.inj h
        subst h
        exact kw_iret rfl dX11_drawn_45 hK
      · have h := (if_neg c13).symm.trans h
        refine kw_iload_n dX11_drawn_34 rfl ?_
        refine kw_iconst (v := nI 0) dX11_drawn_35 (by decide) ?_
        refine kw_iconst (v := nI 1) dX11_drawn_36 (by decide) ?_
        obtain ⟨r5, er5, h⟩ := Option.bind_eq_some_iff.mp h
        refine kw_callS (As := [.int x3, .int (nI 0), .int (nI 1)]) (S := []) cbX11_drawn_X11_within lkX11_55 stX11_within rfl rfl (Nat.le_of_ble_eq_true rfl) dX11_drawn_37 (X11_within_c G hp x3 (nI 0) (nI 1) _ er5) (fun vv hh hq => ?_)
        rw [hq.1, hq.2]
        show kw_V G mX11_drawn 40 [some (.ref x0), some (.int x1), some (.int x2), some (.int x3)] [.int r5] hp Q
        refine kw_if_ne 46 dX11_drawn_40 (by decide) (fun c12 => ?_) (fun c12 => ?_)
        · have h := (if_neg c12).symm.trans h
          refine kw_iload_n dX11_drawn_46 rfl ?_
          refine kw_if_ne 66 dX11_drawn_47 (by decide) (fun c11 => ?_) (fun c11 => ?_)
          · have h := (if_neg c11).symm.trans h
            refine kw_aload_n dX11_drawn_66 rfl ?_
            obtain ⟨v6, ev6, h⟩ := Option.bind_eq_some_iff.mp h
            refine kv_gR gfX11_26 dX11_drawn_67 ev6 ?_
            refine kw_iload_n dX11_drawn_70 rfl ?_
            obtain ⟨r7, er7, h⟩ := Option.bind_eq_some_iff.mp h
            obtain ⟨ur7, eur7, er7⟩ := Option.bind_eq_some_iff.mp er7
            obtain ⟨fsr7, hor7⟩ := kp_ob_inv eur7
            refine kw_callV (As := [.int x1]) (S := []) kcX2 cbX11_drawn_X2_turnedBehind lkX11_201 imX2_turnedBehind seX2_X2_turnedBehind_X2_turnedBehind rfl rfl (Nat.le_of_ble_eq_true rfl) dX11_drawn_71 hor7 (X2_turnedBehind_c G hp v6 x1 _ er7) (fun vv hh hq => ?_)
            rw [hq.1, hq.2]
            show kw_V G mX11_drawn 74 [some (.ref x0), some (.int x1), some (.int x2), some (.int x3)] [.int r7] hp Q
            have h := Option.some.inj h
            subst h
            exact kw_iret rfl dX11_drawn_74 hK
          · have h := (if_pos c11).symm.trans h
            refine kw_aload_n dX11_drawn_50 rfl ?_
            obtain ⟨v8, ev8, h⟩ := Option.bind_eq_some_iff.mp h
            refine kv_gR gfX11_33 dX11_drawn_51 ev8 ?_
            refine kw_aload_n dX11_drawn_54 rfl ?_
            obtain ⟨v9, ev9, h⟩ := Option.bind_eq_some_iff.mp h
            refine kv_gR gfX11_26 dX11_drawn_55 ev9 ?_
            refine kw_iload_n dX11_drawn_58 rfl ?_
            refine kw_iload_n dX11_drawn_59 rfl ?_
            obtain ⟨r10, er10, h⟩ := Option.bind_eq_some_iff.mp h
            obtain ⟨ur10, eur10, er10⟩ := Option.bind_eq_some_iff.mp er10
            obtain ⟨fsr10, hor10⟩ := kp_ob_inv eur10
            refine kw_callV (As := [.ref v9, .int x1, .int x2]) (S := []) kcX1 cbX11_drawn_X1_doneByDraws lkX11_274 imX1_doneByDraws seX1_X1_doneByDraws_X1_doneByDraws rfl rfl (Nat.le_of_ble_eq_true rfl) dX11_drawn_60 hor10 (X1_doneByDraws_c G hp v8 v9 x1 x2 _ er10) (fun vv hh hq => ?_)
            rw [hq.1, hq.2]
            show kw_V G mX11_drawn 63 [some (.ref x0), some (.int x1), some (.int x2), some (.int x3)] [.int r10.1] r10.2 Q
            refine kw_goto 74 dX11_drawn_63 (by decide) ?_
            have h := Option.some.inj h
            subst h
            exact kw_iret rfl dX11_drawn_74 hK
        · have h := (if_pos c12).symm.trans h
          refine kw_ldc (v := (-1000001)) dX11_drawn_43 ckX11_59 ?_
          have h := Option.some.inj h
          subst h
          exact kw_iret rfl dX11_drawn_45 hK
  · have h := (if_pos c15).symm.trans h
    refine kw_ldc (v := (-1000002)) dX11_drawn_10 ckX11_129 ?_
    have h := Option.some.inj h
    subst h
    exact kw_iret rfl dX11_drawn_12 hK
/-! KitchenWheels.image(I)I -/
def X11_image_F (hp : kw_H) (x0 : Nat) (x1 : Int32) : Option (Int32 × kw_H) :=
  (X11_within_F hp x1 (nI 0) (nI 1)).bind fun r1 =>
  (if r1 = 0 then
  some (((-1000001), hp))
else
  (kp_gR hp x0 [10] 2).bind fun v2 =>
  ((kp_ob hp v2 2).bind fun _ => X2_isThere_F hp v2).bind fun r3 =>
  (if r3 = 0 then
  some (((-1000002), hp))
else
  (kp_gR hp x0 [10] 6).bind fun v4 =>
  ((kp_ob hp x0 10).bind fun _ => X11_keepIn_F hp x0 v4 x1).bind fun r5 =>
  some ((nI 1, r5))))
set_option maxRecDepth 100000 in
set_option maxHeartbeats 4000000 in
theorem X11_image_c (G : kw_G) (hp : kw_H) (x0 : Nat) (x1 : Int32) (r : Int32 × kw_H) (h : X11_image_F hp x0 x1 = some r) : kw_Met G mX11_image [.ref x0, .int x1] hp (fun v h2 => v = some (.int r.1) ∧ h2 = r.2) := by
  refine kw_met (L := [some (.ref x0), some (.int x1)]) (r := 0) (by decide +kernel) (Nat.le_of_ble_eq_true rfl) rfl ?_
  unfold X11_image_F at h
  obtain ⟨Q, hQ⟩ : ∃ Q : Option Value → kw_H → Prop, Q = (fun v h2 => v = some (.int r.1) ∧ h2 = r.2) := ⟨_, rfl⟩
  have hK : Q (some (.int r.1)) r.2 := by rw [hQ]; exact ⟨rfl, rfl⟩
  rw [← hQ]
  clear hQ
  refine kw_iload_n dX11_image_0 rfl ?_
  refine kw_iconst (v := nI 0) dX11_image_1 (by decide) ?_
  refine kw_iconst (v := nI 1) dX11_image_2 (by decide) ?_
  obtain ⟨r1, er1, h⟩ := Option.bind_eq_some_iff.mp h
  refine kw_callS (As := [.int x1, .int (nI 0), .int (nI 1)]) (S := []) cbX11_image_X11_within lkX11_55 stX11_within rfl rfl (Nat.le_of_ble_eq_true rfl) dX11_image_3 (X11_within_c G hp x1 (nI 0) (nI 1) _ er1) (fun vv hh hq => ?_)
  rw [hq.1, hq.2]
  show kw_V G mX11_image 6 [some (.ref x0), some (.int x1)] [.int r1] hp Q
  refine kw_if_ne 12 dX11_image_6 (by decide) (fun c7 => ?_) (fun c7 => ?_)
  · have h := (if_neg c7).symm.trans h
    refine kw_aload_n dX11_image_12 rfl ?_
    obtain ⟨v2, ev2, h⟩ := Option.bind_eq_some_iff.mp h
    refine kv_gR gfX11_26 dX11_image_13 ev2 ?_
    obtain ⟨r3, er3, h⟩ := Option.bind_eq_some_iff.mp h
    obtain ⟨ur3, eur3, er3⟩ := Option.bind_eq_some_iff.mp er3
    obtain ⟨fsr3, hor3⟩ := kp_ob_inv eur3
    refine kw_callV (As := []) (S := []) kcX2 cbX11_image_X2_isThere lkX11_137 imX2_isThere seX2_X2_isThere_X2_isThere rfl rfl (Nat.le_of_ble_eq_true rfl) dX11_image_16 hor3 (X2_isThere_c G hp v2 _ er3) (fun vv hh hq => ?_)
    rw [hq.1, hq.2]
    show kw_V G mX11_image 19 [some (.ref x0), some (.int x1)] [.int r3] hp Q
    refine kw_if_ne 25 dX11_image_19 (by decide) (fun c6 => ?_) (fun c6 => ?_)
    · have h := (if_neg c6).symm.trans h
      refine kw_aload_n dX11_image_25 rfl ?_
      refine kw_aload_n dX11_image_26 rfl ?_
      obtain ⟨v4, ev4, h⟩ := Option.bind_eq_some_iff.mp h
      refine kv_gR gfX11_48 dX11_image_27 ev4 ?_
      refine kw_iload_n dX11_image_30 rfl ?_
      obtain ⟨r5, er5, h⟩ := Option.bind_eq_some_iff.mp h
      obtain ⟨ur5, eur5, er5⟩ := Option.bind_eq_some_iff.mp er5
      obtain ⟨fsr5, hor5⟩ := kp_ob_inv eur5
      refine kw_callV (As := [.ref v4, .int x1]) (S := []) kcX11 cbX11_image_X11_keepIn lkX11_277 imX11_keepIn seX11_X11_keepIn_X11_keepIn rfl rfl (Nat.le_of_ble_eq_true rfl) dX11_image_31 hor5 (X11_keepIn_c G hp x0 v4 x1 _ er5) (fun vv hh hq => ?_)
      rw [hq.1, hq.2]
      show kw_V G mX11_image 34 [some (.ref x0), some (.int x1)] [] r5 Q
      refine kw_iconst (v := nI 1) dX11_image_34 (by decide) ?_
      have h := Option.some.inj h
      subst h
      exact kw_iret rfl dX11_image_35 hK
    · have h := (if_pos c6).symm.trans h
      refine kw_ldc (v := (-1000002)) dX11_image_22 ckX11_129 ?_
      have h := Option.some.inj h
      subst h
      exact kw_iret rfl dX11_image_24 hK
  · have h := (if_pos c7).symm.trans h
    refine kw_ldc (v := (-1000001)) dX11_image_9 ckX11_59 ?_
    have h := Option.some.inj h
    subst h
    exact kw_iret rfl dX11_image_11 hK
/-! KitchenWheels.restore(I)I -/
def X11_restore_F (hp : kw_H) (x0 : Nat) (x1 : Int32) : Option (Int32 × kw_H) :=
  (X11_within_F hp x1 (nI 0) (nI 1)).bind fun r1 =>
  (if r1 = 0 then
  some (((-1000001), hp))
else
  (kp_gR hp x0 [10] 6).bind fun v2 =>
  (kp_ldR hp 4 v2 x1).bind fun o3 =>
  kp_nu o3 (some (((-1000002), hp))) (fun b4 =>
  (kp_gR hp x0 [10] 2).bind fun v5 =>
  ((kp_ob hp v5 2).bind fun _ => X2_become_F hp v5 b4).bind fun r6 =>
  ((kp_ob r6 x0 10).bind fun _ => X11_forgetActs_F r6 x0).bind fun r7 =>
  some ((nI 1, r7))))
set_option maxRecDepth 100000 in
set_option maxHeartbeats 4000000 in
theorem X11_restore_c (G : kw_G) (hp : kw_H) (x0 : Nat) (x1 : Int32) (r : Int32 × kw_H) (h : X11_restore_F hp x0 x1 = some r) : kw_Met G mX11_restore [.ref x0, .int x1] hp (fun v h2 => v = some (.int r.1) ∧ h2 = r.2) := by
  refine kw_met (L := [some (.ref x0), some (.int x1), none]) (r := 1) (by decide +kernel) (Nat.le_of_ble_eq_true rfl) rfl ?_
  unfold X11_restore_F at h
  obtain ⟨Q, hQ⟩ : ∃ Q : Option Value → kw_H → Prop, Q = (fun v h2 => v = some (.int r.1) ∧ h2 = r.2) := ⟨_, rfl⟩
  have hK : Q (some (.int r.1)) r.2 := by rw [hQ]; exact ⟨rfl, rfl⟩
  rw [← hQ]
  clear hQ
  refine kw_iload_n dX11_restore_0 rfl ?_
  refine kw_iconst (v := nI 0) dX11_restore_1 (by decide) ?_
  refine kw_iconst (v := nI 1) dX11_restore_2 (by decide) ?_
  obtain ⟨r1, er1, h⟩ := Option.bind_eq_some_iff.mp h
  refine kw_callS (As := [.int x1, .int (nI 0), .int (nI 1)]) (S := []) cbX11_restore_X11_within lkX11_55 stX11_within rfl rfl (Nat.le_of_ble_eq_true rfl) dX11_restore_3 (X11_within_c G hp x1 (nI 0) (nI 1) _ er1) (fun vv hh hq => ?_)
  rw [hq.1, hq.2]
  show kw_V G mX11_restore 6 [some (.ref x0), some (.int x1), none] [.int r1] hp Q
  refine kw_if_ne 12 dX11_restore_6 (by decide) (fun c8 => ?_) (fun c8 => ?_)
  · have h := (if_neg c8).symm.trans h
    refine kw_aload_n dX11_restore_12 rfl ?_
    obtain ⟨v2, ev2, h⟩ := Option.bind_eq_some_iff.mp h
    refine kv_gR gfX11_48 dX11_restore_13 ev2 ?_
    refine kw_iload_n dX11_restore_16 rfl ?_
    obtain ⟨o3, eo3, h⟩ := Option.bind_eq_some_iff.mp h
    refine kv_ldR (by decide) dX11_restore_17 eo3 ?_
    cases o3 with
    | none =>
      dsimp only [kp_nu, va_rf] at h ⊢
      refine kw_astore_nN (L' := [some (.ref x0), some (.int x1), some (.null)]) dX11_restore_18 (by decide) rfl ?_
      refine kw_aload_nN dX11_restore_19 rfl ?_
      refine kw_ifnonnullN dX11_restore_20 ?_
      refine kw_ldc (v := (-1000002)) dX11_restore_23 ckX11_129 ?_
      have h := Option.some.inj h
      subst h
      exact kw_iret rfl dX11_restore_25 hK
    | some b4 =>
      dsimp only [kp_nu, va_rf] at h ⊢
      refine kw_astore_n (L' := [some (.ref x0), some (.int x1), some (.ref b4)]) dX11_restore_18 (by decide) rfl ?_
      refine kw_aload_n dX11_restore_19 rfl ?_
      refine kw_ifnonnull 26 dX11_restore_20 (by decide) ?_
      refine kw_aload_n dX11_restore_26 rfl ?_
      obtain ⟨v5, ev5, h⟩ := Option.bind_eq_some_iff.mp h
      refine kv_gR gfX11_26 dX11_restore_27 ev5 ?_
      refine kw_aload_n dX11_restore_30 rfl ?_
      obtain ⟨r6, er6, h⟩ := Option.bind_eq_some_iff.mp h
      obtain ⟨ur6, eur6, er6⟩ := Option.bind_eq_some_iff.mp er6
      obtain ⟨fsr6, hor6⟩ := kp_ob_inv eur6
      refine kw_callV (As := [.ref b4]) (S := []) kcX2 cbX11_restore_X2_become lkX11_116 imX2_become seX2_X2_become_X2_become rfl rfl (Nat.le_of_ble_eq_true rfl) dX11_restore_31 hor6 (X2_become_c G hp v5 b4 _ er6) (fun vv hh hq => ?_)
      rw [hq.1, hq.2]
      show kw_V G mX11_restore 34 [some (.ref x0), some (.int x1), some (.ref b4)] [] r6 Q
      refine kw_aload_n dX11_restore_34 rfl ?_
      obtain ⟨r7, er7, h⟩ := Option.bind_eq_some_iff.mp h
      obtain ⟨ur7, eur7, er7⟩ := Option.bind_eq_some_iff.mp er7
      obtain ⟨fsr7, hor7⟩ := kp_ob_inv eur7
      refine kw_callV (As := []) (S := []) kcX11 cbX11_restore_X11_forgetActs lkX11_120 imX11_forgetActs seX11_X11_forgetActs_X11_forgetActs rfl rfl (Nat.le_of_ble_eq_true rfl) dX11_restore_35 hor7 (X11_forgetActs_c G r6 x0 _ er7) (fun vv hh hq => ?_)
      rw [hq.1, hq.2]
      show kw_V G mX11_restore 38 [some (.ref x0), some (.int x1), some (.ref b4)] [] r7 Q
      refine kw_iconst (v := nI 1) dX11_restore_38 (by decide) ?_
      have h := Option.some.inj h
      subst h
      exact kw_iret rfl dX11_restore_39 hK
  · have h := (if_pos c8).symm.trans h
    refine kw_ldc (v := (-1000001)) dX11_restore_9 ckX11_59 ?_
    have h := Option.some.inj h
    subst h
    exact kw_iret rfl dX11_restore_11 hK
/-! KitchenWheels.kind(I)I -/
def X11_kind_D19_f (hp : kw_H) (o : Nat) : Option (Int32) :=
  (kp_ci hp o).bind fun ci =>
  if ci = 0 then X0_ownKind_F hp o else if ci = 3 then X3_ownKind_F hp o else if ci = 4 then X4_ownKind_F hp o else if ci = 5 then X5_ownKind_F hp o else if ci = 7 then X7_ownKind_F hp o else none
set_option maxRecDepth 100000 in
set_option maxHeartbeats 4000000 in
theorem X11_kind_D19_v (G : kw_G) (Q : Option Value → kw_H → Prop) (L : List (Option Value)) (hp : kw_H) (o : Nat) (r : Int32) {S : List Value} (hr : (S.map fun v => v.category).sum ≤ 8) (h : X11_kind_D19_f hp o = some r) (kk : kw_V G mX11_kind 22 L (.int r :: S) hp Q) : kw_V G mX11_kind 19 L (.ref o :: S) hp Q := by
  unfold X11_kind_D19_f at h
  obtain ⟨ci, e1, h⟩ := Option.bind_eq_some_iff.mp h
  obtain ⟨fs, ho⟩ := kp_ci_inv e1
  by_cases c0 : ci = 0
  · have h := (if_pos c0).symm.trans h
    subst c0
    exact kw_callU (x := ⟨"KitchenWheels$Turner", "ownKind", "()I"⟩) (owner := "KitchenWheels$Turner") (As := []) (S := S) kcX0 cbX11_kind_X0_ownKind lkX11_281 sMX11_281 (Or.inl ⟨818, by decide +kernel⟩) ⟨by decide, by decide, by decide +kernel⟩ imX0_ownKind seX0_ownKind_X0_ownKind rfl rfl hr dX11_kind_19 ho (X0_ownKind_c G hp o _ h) (fun vv hh hq => by obtain ⟨rfl, rfl⟩ := hq; exact kk)
  · have h := (if_neg c0).symm.trans h
    by_cases c3 : ci = 3
    · have h := (if_pos c3).symm.trans h
      subst c3
      exact kw_callU (x := ⟨"KitchenWheels$Turner", "ownKind", "()I"⟩) (owner := "KitchenWheels$Turner") (As := []) (S := S) kcX3 cbX11_kind_X3_ownKind lkX11_281 sMX11_281 (Or.inl ⟨818, by decide +kernel⟩) ⟨by decide, by decide, by decide +kernel⟩ imX3_ownKind seX3_ownKind_X3_ownKind rfl rfl hr dX11_kind_19 ho (X3_ownKind_c G hp o _ h) (fun vv hh hq => by obtain ⟨rfl, rfl⟩ := hq; exact kk)
    · have h := (if_neg c3).symm.trans h
      by_cases c4 : ci = 4
      · have h := (if_pos c4).symm.trans h
        subst c4
        exact kw_callU (x := ⟨"KitchenWheels$Turner", "ownKind", "()I"⟩) (owner := "KitchenWheels$Turner") (As := []) (S := S) kcX4 cbX11_kind_X4_ownKind lkX11_281 sMX11_281 (Or.inl ⟨818, by decide +kernel⟩) ⟨by decide, by decide, by decide +kernel⟩ imX4_ownKind seX4_ownKind_X4_ownKind rfl rfl hr dX11_kind_19 ho (X4_ownKind_c G hp o _ h) (fun vv hh hq => by obtain ⟨rfl, rfl⟩ := hq; exact kk)
      · have h := (if_neg c4).symm.trans h
        by_cases c5 : ci = 5
        · have h := (if_pos c5).symm.trans h
          subst c5
          exact kw_callU (x := ⟨"KitchenWheels$Turner", "ownKind", "()I"⟩) (owner := "KitchenWheels$Turner") (As := []) (S := S) kcX5 cbX11_kind_X5_ownKind lkX11_281 sMX11_281 (Or.inl ⟨818, by decide +kernel⟩) ⟨by decide, by decide, by decide +kernel⟩ imX5_ownKind seX5_ownKind_X5_ownKind rfl rfl hr dX11_kind_19 ho (X5_ownKind_c G hp o _ h) (fun vv hh hq => by obtain ⟨rfl, rfl⟩ := hq; exact kk)
        · have h := (if_neg c5).symm.trans h
          by_cases c7 : ci = 7
          · have h := (if_pos c7).symm.trans h
            subst c7
            exact kw_callU (x := ⟨"KitchenWheels$Turner", "ownKind", "()I"⟩) (owner := "KitchenWheels$Turner") (As := []) (S := S) kcX7 cbX11_kind_X7_ownKind lkX11_281 sMX11_281 (Or.inl ⟨818, by decide +kernel⟩) ⟨by decide, by decide, by decide +kernel⟩ imX7_ownKind seX7_ownKind_X7_ownKind rfl rfl hr dX11_kind_19 ho (X7_ownKind_c G hp o _ h) (fun vv hh hq => by obtain ⟨rfl, rfl⟩ := hq; exact kk)
          · have h := (if_neg c7).symm.trans h
            cases h
def X11_kind_F (hp : kw_H) (x0 : Nat) (x1 : Int32) : Option (Int32) :=
  (kp_gR hp x0 [10] 2).bind fun v1 =>
  ((kp_ob hp v1 2).bind fun _ => X2_turnerAt_F hp v1 x1).bind fun r2 =>
  kp_nu r2 (some ((-1000001))) (fun b4 =>
  (X11_kind_D19_f hp b4).bind fun r5 =>
  some (r5))
set_option maxRecDepth 100000 in
set_option maxHeartbeats 4000000 in
theorem X11_kind_c (G : kw_G) (hp : kw_H) (x0 : Nat) (x1 : Int32) (r : Int32) (h : X11_kind_F hp x0 x1 = some r) : kw_Met G mX11_kind [.ref x0, .int x1] hp (fun v h2 => v = some (.int r) ∧ h2 = hp) := by
  refine kw_met (L := [some (.ref x0), some (.int x1), none]) (r := 1) (by decide +kernel) (Nat.le_of_ble_eq_true rfl) rfl ?_
  unfold X11_kind_F at h
  obtain ⟨Q, hQ⟩ : ∃ Q : Option Value → kw_H → Prop, Q = (fun v h2 => v = some (.int r) ∧ h2 = hp) := ⟨_, rfl⟩
  have hK : Q (some (.int r)) hp := by rw [hQ]; exact ⟨rfl, rfl⟩
  rw [← hQ]
  clear hQ
  refine kw_aload_n dX11_kind_0 rfl ?_
  obtain ⟨v1, ev1, h⟩ := Option.bind_eq_some_iff.mp h
  refine kv_gR gfX11_26 dX11_kind_1 ev1 ?_
  refine kw_iload_n dX11_kind_4 rfl ?_
  obtain ⟨r2, er2, h⟩ := Option.bind_eq_some_iff.mp h
  obtain ⟨ur2, eur2, er2⟩ := Option.bind_eq_some_iff.mp er2
  obtain ⟨fsr2, hor2⟩ := kp_ob_inv eur2
  refine kw_callV (As := [.int x1]) (S := []) kcX2 cbX11_kind_X2_turnerAt lkX11_189 imX2_turnerAt seX2_X2_turnerAt_X2_turnerAt rfl rfl (Nat.le_of_ble_eq_true rfl) dX11_kind_5 hor2 (X2_turnerAt_c G hp v1 x1 _ er2) (fun vv hh hq => ?_)
  rw [hq.1, hq.2]
  show kw_V G mX11_kind 8 [some (.ref x0), some (.int x1), none] (va_rf r2 :: []) hp Q
  cases r2 with
  | none =>
    dsimp only [kp_nu, va_rf] at h ⊢
    refine kw_astore_nN (L' := [some (.ref x0), some (.int x1), some (.null)]) dX11_kind_8 (by decide) rfl ?_
    refine kw_aload_nN dX11_kind_9 rfl ?_
    refine kw_ifnonnullN dX11_kind_10 ?_
    refine kw_ldc (v := (-1000001)) dX11_kind_13 ckX11_59 ?_
    refine kw_goto 22 dX11_kind_15 (by decide) ?_
    have h := Option.some.inj h
    subst h
    exact kw_iret rfl dX11_kind_22 hK
  | some b4 =>
    dsimp only [kp_nu, va_rf] at h ⊢
    refine kw_astore_n (L' := [some (.ref x0), some (.int x1), some (.ref b4)]) dX11_kind_8 (by decide) rfl ?_
    refine kw_aload_n dX11_kind_9 rfl ?_
    refine kw_ifnonnull 18 dX11_kind_10 (by decide) ?_
    refine kw_aload_n dX11_kind_18 rfl ?_
    obtain ⟨r5, er5, h⟩ := Option.bind_eq_some_iff.mp h
    refine X11_kind_D19_v G Q [some (.ref x0), some (.int x1), some (.ref b4)] hp b4 _ (Nat.le_of_ble_eq_true rfl) er5 (S := []) ?_
    show kw_V G mX11_kind 22 [some (.ref x0), some (.int x1), some (.ref b4)] [.int r5] hp Q
    have h := Option.some.inj h
    subst h
    exact kw_iret rfl dX11_kind_22 hK
/-! KitchenWheels.as(II)I -/
def X11_as_F (hp : kw_H) (x0 : Nat) (x1 : Int32) (x2 : Int32) : Option (Int32 × kw_H) :=
  (kp_gR hp x0 [10] 2).bind fun v1 =>
  ((kp_ob hp v1 2).bind fun _ => X2_turnerAt_F hp v1 x1).bind fun r2 =>
  kp_nu r2 (some (((-1000001), hp))) (fun b4 =>
  (X11_within_F hp x2 (nI 0) (nI 5)).bind fun r5 =>
  (if r5 = 0 then
  some (((-1000001), hp))
else
  (X10_isOfKind_F hp b4 x2).bind fun r6 =>
  (if r6 = 0 then
  ((kp_ob hp x0 10).bind fun _ => X11_finding_F hp x0 (nI 3)).bind fun r7 =>
  some ((r7.1, r7.2))
else
  (kp_gI hp b4 [0, 3, 4, 5, 7] 0).bind fun v8 =>
  ((kp_ob hp x0 10).bind fun _ => X11_unfound_F hp x0 v8).bind fun r9 =>
  some ((r9.1, r9.2)))))
set_option maxRecDepth 100000 in
set_option maxHeartbeats 4000000 in
theorem X11_as_c (G : kw_G) (hp : kw_H) (x0 : Nat) (x1 : Int32) (x2 : Int32) (r : Int32 × kw_H) (h : X11_as_F hp x0 x1 x2 = some r) : kw_Met G mX11_as [.ref x0, .int x1, .int x2] hp (fun v h2 => v = some (.int r.1) ∧ h2 = r.2) := by
  refine kw_met (L := [some (.ref x0), some (.int x1), some (.int x2), none]) (r := 1) (by decide +kernel) (Nat.le_of_ble_eq_true rfl) rfl ?_
  unfold X11_as_F at h
  obtain ⟨Q, hQ⟩ : ∃ Q : Option Value → kw_H → Prop, Q = (fun v h2 => v = some (.int r.1) ∧ h2 = r.2) := ⟨_, rfl⟩
  have hK : Q (some (.int r.1)) r.2 := by rw [hQ]; exact ⟨rfl, rfl⟩
  rw [← hQ]
  clear hQ
  refine kw_aload_n dX11_as_0 rfl ?_
  obtain ⟨v1, ev1, h⟩ := Option.bind_eq_some_iff.mp h
  refine kv_gR gfX11_26 dX11_as_1 ev1 ?_
  refine kw_iload_n dX11_as_4 rfl ?_
  obtain ⟨r2, er2, h⟩ := Option.bind_eq_some_iff.mp h
  obtain ⟨ur2, eur2, er2⟩ := Option.bind_eq_some_iff.mp er2
  obtain ⟨fsr2, hor2⟩ := kp_ob_inv eur2
  refine kw_callV (As := [.int x1]) (S := []) kcX2 cbX11_as_X2_turnerAt lkX11_189 imX2_turnerAt seX2_X2_turnerAt_X2_turnerAt rfl rfl (Nat.le_of_ble_eq_true rfl) dX11_as_5 hor2 (X2_turnerAt_c G hp v1 x1 _ er2) (fun vv hh hq => ?_)
  rw [hq.1, hq.2]
  show kw_V G mX11_as 8 [some (.ref x0), some (.int x1), some (.int x2), none] (va_rf r2 :: []) hp Q
  cases r2 with
  | none =>
    dsimp only [kp_nu, va_rf] at h ⊢
    refine kw_astore_nN (L' := [some (.ref x0), some (.int x1), some (.int x2), some (.null)]) dX11_as_8 (by decide) rfl ?_
    refine kw_aload_nN dX11_as_9 rfl ?_
    refine kw_ifnullN 22 dX11_as_10 (by decide) ?_
    refine kw_ldc (v := (-1000001)) dX11_as_22 ckX11_59 ?_
    have h := Option.some.inj h
    subst h
    exact kw_iret rfl dX11_as_24 hK
  | some b4 =>
    dsimp only [kp_nu, va_rf] at h ⊢
    refine kw_astore_n (L' := [some (.ref x0), some (.int x1), some (.int x2), some (.ref b4)]) dX11_as_8 (by decide) rfl ?_
    refine kw_aload_n dX11_as_9 rfl ?_
    refine kw_ifnull dX11_as_10 ?_
    refine kw_iload_n dX11_as_13 rfl ?_
    refine kw_iconst (v := nI 0) dX11_as_14 (by decide) ?_
    refine kw_iconst (v := nI 5) dX11_as_15 (by decide) ?_
    obtain ⟨r5, er5, h⟩ := Option.bind_eq_some_iff.mp h
    refine kw_callS (As := [.int x2, .int (nI 0), .int (nI 5)]) (S := []) cbX11_as_X11_within lkX11_55 stX11_within rfl rfl (Nat.le_of_ble_eq_true rfl) dX11_as_16 (X11_within_c G hp x2 (nI 0) (nI 5) _ er5) (fun vv hh hq => ?_)
    rw [hq.1, hq.2]
    show kw_V G mX11_as 19 [some (.ref x0), some (.int x1), some (.int x2), some (.ref b4)] [.int r5] hp Q
    refine kw_if_ne 25 dX11_as_19 (by decide) (fun c11 => ?_) (fun c11 => ?_)
    · have h := (if_neg c11).symm.trans h
      refine kw_aload_n dX11_as_25 rfl ?_
      refine kw_iload_n dX11_as_26 rfl ?_
      obtain ⟨r6, er6, h⟩ := Option.bind_eq_some_iff.mp h
      refine kw_callS (As := [.ref b4, .int x2]) (S := []) cbX11_as_X10_isOfKind lkX11_285 stX10_isOfKind rfl rfl (Nat.le_of_ble_eq_true rfl) dX11_as_27 (X10_isOfKind_c G hp b4 x2 _ er6) (fun vv hh hq => ?_)
      rw [hq.1, hq.2]
      show kw_V G mX11_as 30 [some (.ref x0), some (.int x1), some (.int x2), some (.ref b4)] [.int r6] hp Q
      refine kw_if_eq 44 dX11_as_30 (by decide) (fun c10 => ?_) (fun c10 => ?_)
      · have h := (if_pos c10).symm.trans h
        refine kw_aload_n dX11_as_44 rfl ?_
        refine kw_iconst (v := nI 3) dX11_as_45 (by decide) ?_
        obtain ⟨r7, er7, h⟩ := Option.bind_eq_some_iff.mp h
        obtain ⟨ur7, eur7, er7⟩ := Option.bind_eq_some_iff.mp er7
        obtain ⟨fsr7, hor7⟩ := kp_ob_inv eur7
        refine kw_callV (As := [.int (nI 3)]) (S := []) kcX11 cbX11_as_X11_finding lkX11_60 imX11_finding seX11_X11_finding_X11_finding rfl rfl (Nat.le_of_ble_eq_true rfl) dX11_as_46 hor7 (X11_finding_c G hp x0 (nI 3) _ er7) (fun vv hh hq => ?_)
        rw [hq.1, hq.2]
        show kw_V G mX11_as 49 [some (.ref x0), some (.int x1), some (.int x2), some (.ref b4)] [.int r7.1] r7.2 Q
        have h := Option.some.inj h
        subst h
        exact kw_iret rfl dX11_as_49 hK
      · have h := (if_neg c10).symm.trans h
        refine kw_aload_n dX11_as_33 rfl ?_
        refine kw_aload_n dX11_as_34 rfl ?_
        obtain ⟨v8, ev8, h⟩ := Option.bind_eq_some_iff.mp h
        refine kv_gI gfX11_289 dX11_as_35 ev8 ?_
        obtain ⟨r9, er9, h⟩ := Option.bind_eq_some_iff.mp h
        obtain ⟨ur9, eur9, er9⟩ := Option.bind_eq_some_iff.mp er9
        obtain ⟨fsr9, hor9⟩ := kp_ob_inv eur9
        refine kw_callV (As := [.int v8]) (S := []) kcX11 cbX11_as_X11_unfound lkX11_68 imX11_unfound seX11_X11_unfound_X11_unfound rfl rfl (Nat.le_of_ble_eq_true rfl) dX11_as_38 hor9 (X11_unfound_c G hp x0 v8 _ er9) (fun vv hh hq => ?_)
        rw [hq.1, hq.2]
        show kw_V G mX11_as 41 [some (.ref x0), some (.int x1), some (.int x2), some (.ref b4)] [.int r9.1] r9.2 Q
        refine kw_goto 49 dX11_as_41 (by decide) ?_
        have h := Option.some.inj h
        subst h
        exact kw_iret rfl dX11_as_49 hK
    · have h := (if_pos c11).symm.trans h
      refine kw_ldc (v := (-1000001)) dX11_as_22 ckX11_59 ?_
      have h := Option.some.inj h
      subst h
      exact kw_iret rfl dX11_as_24 hK
/-! KitchenWheels.ask(II)I -/
def X11_ask_D69_f (hp : kw_H) (o : Nat) (y0 : Nat) (y1 : Int32) (y2 : Int32) : Option (Int32 × kw_H) :=
  (kp_ci hp o).bind fun ci =>
  if ci = 0 then X0_mark_F hp o y0 y1 y2 else if ci = 3 then X3_mark_F hp o y0 y1 y2 else if ci = 4 then X4_mark_F hp o y0 y1 y2 else if ci = 5 then X3_mark_F hp o y0 y1 y2 else if ci = 7 then X7_mark_F hp o y0 y1 y2 else none
set_option maxRecDepth 100000 in
set_option maxHeartbeats 4000000 in
theorem X11_ask_D69_v (G : kw_G) (Q : Option Value → kw_H → Prop) (L : List (Option Value)) (hp : kw_H) (o : Nat) (y0 : Nat) (y1 : Int32) (y2 : Int32) (r : Int32 × kw_H) {S : List Value} (hr : (S.map fun v => v.category).sum ≤ 8) (h : X11_ask_D69_f hp o y0 y1 y2 = some r) (kk : kw_V G mX11_ask 72 L (.int r.1 :: S) r.2 Q) : kw_V G mX11_ask 69 L (.int y2 :: .int y1 :: .ref y0 :: .ref o :: S) hp Q := by
  unfold X11_ask_D69_f at h
  obtain ⟨ci, e1, h⟩ := Option.bind_eq_some_iff.mp h
  obtain ⟨fs, ho⟩ := kp_ci_inv e1
  by_cases c0 : ci = 0
  · have h := (if_pos c0).symm.trans h
    subst c0
    exact kw_callU (x := yX10_mark) (owner := "KitchenWheels$Turner") (As := [.ref y0, .int y1, .int y2]) (S := S) kcX0 cbX11_ask_X0_mark lkX11_297 sMX11_297 (Or.inr ⟨imX10_mark, _, _, _, cdX10_mark⟩) ⟨by decide, by decide, by decide +kernel⟩ imX0_mark seX0_X10_mark_X0_mark rfl rfl hr dX11_ask_69 ho (X0_mark_c G hp o y0 y1 y2 _ h) (fun vv hh hq => by obtain ⟨rfl, rfl⟩ := hq; exact kk)
  · have h := (if_neg c0).symm.trans h
    by_cases c3 : ci = 3
    · have h := (if_pos c3).symm.trans h
      subst c3
      exact kw_callU (x := yX10_mark) (owner := "KitchenWheels$Turner") (As := [.ref y0, .int y1, .int y2]) (S := S) kcX3 cbX11_ask_X3_mark lkX11_297 sMX11_297 (Or.inr ⟨imX10_mark, _, _, _, cdX10_mark⟩) ⟨by decide, by decide, by decide +kernel⟩ imX3_mark seX3_X10_mark_X3_mark rfl rfl hr dX11_ask_69 ho (X3_mark_c G hp o y0 y1 y2 _ h) (fun vv hh hq => by obtain ⟨rfl, rfl⟩ := hq; exact kk)
    · have h := (if_neg c3).symm.trans h
      by_cases c4 : ci = 4
      · have h := (if_pos c4).symm.trans h
        subst c4
        exact kw_callU (x := yX10_mark) (owner := "KitchenWheels$Turner") (As := [.ref y0, .int y1, .int y2]) (S := S) kcX4 cbX11_ask_X4_mark lkX11_297 sMX11_297 (Or.inr ⟨imX10_mark, _, _, _, cdX10_mark⟩) ⟨by decide, by decide, by decide +kernel⟩ imX4_mark seX4_X10_mark_X4_mark rfl rfl hr dX11_ask_69 ho (X4_mark_c G hp o y0 y1 y2 _ h) (fun vv hh hq => by obtain ⟨rfl, rfl⟩ := hq; exact kk)
      · have h := (if_neg c4).symm.trans h
        by_cases c5 : ci = 5
        · have h := (if_pos c5).symm.trans h
          subst c5
          exact kw_callU (x := yX10_mark) (owner := "KitchenWheels$Turner") (As := [.ref y0, .int y1, .int y2]) (S := S) kcX5 cbX11_ask_X3_mark lkX11_297 sMX11_297 (Or.inr ⟨imX10_mark, _, _, _, cdX10_mark⟩) ⟨by decide, by decide, by decide +kernel⟩ imX3_mark seX5_X10_mark_X3_mark rfl rfl hr dX11_ask_69 ho (X3_mark_c G hp o y0 y1 y2 _ h) (fun vv hh hq => by obtain ⟨rfl, rfl⟩ := hq; exact kk)
        · have h := (if_neg c5).symm.trans h
          by_cases c7 : ci = 7
          · have h := (if_pos c7).symm.trans h
            subst c7
            exact kw_callU (x := yX10_mark) (owner := "KitchenWheels$Turner") (As := [.ref y0, .int y1, .int y2]) (S := S) kcX7 cbX11_ask_X7_mark lkX11_297 sMX11_297 (Or.inr ⟨imX10_mark, _, _, _, cdX10_mark⟩) ⟨by decide, by decide, by decide +kernel⟩ imX7_mark seX7_X10_mark_X7_mark rfl rfl hr dX11_ask_69 ho (X7_mark_c G hp o y0 y1 y2 _ h) (fun vv hh hq => by obtain ⟨rfl, rfl⟩ := hq; exact kk)
          · have h := (if_neg c7).symm.trans h
            cases h
def X11_ask_D50_f (hp : kw_H) (o : Nat) (y0 : Nat) (y1 : Int32) (y2 : Int32) : Option (Int32 × kw_H) :=
  (kp_ci hp o).bind fun ci =>
  if ci = 0 then X4_size_F hp o y0 y1 y2 else if ci = 3 then X3_size_F hp o y0 y1 y2 else if ci = 4 then X4_size_F hp o y0 y1 y2 else if ci = 5 then X5_size_F hp o y0 y1 y2 else if ci = 7 then X7_size_F hp o y0 y1 y2 else none
set_option maxRecDepth 100000 in
set_option maxHeartbeats 4000000 in
theorem X11_ask_D50_v (G : kw_G) (Q : Option Value → kw_H → Prop) (L : List (Option Value)) (hp : kw_H) (o : Nat) (y0 : Nat) (y1 : Int32) (y2 : Int32) (r : Int32 × kw_H) {S : List Value} (hr : (S.map fun v => v.category).sum ≤ 8) (h : X11_ask_D50_f hp o y0 y1 y2 = some r) (kk : kw_V G mX11_ask 53 L (.int r.1 :: S) r.2 Q) : kw_V G mX11_ask 50 L (.int y2 :: .int y1 :: .ref y0 :: .ref o :: S) hp Q := by
  unfold X11_ask_D50_f at h
  obtain ⟨ci, e1, h⟩ := Option.bind_eq_some_iff.mp h
  obtain ⟨fs, ho⟩ := kp_ci_inv e1
  by_cases c0 : ci = 0
  · have h := (if_pos c0).symm.trans h
    subst c0
    exact kw_callU (x := yX10_size) (owner := "KitchenWheels$Turner") (As := [.ref y0, .int y1, .int y2]) (S := S) kcX0 cbX11_ask_X4_size lkX11_293 sMX11_293 (Or.inr ⟨imX10_size, _, _, _, cdX10_size⟩) ⟨by decide, by decide, by decide +kernel⟩ imX4_size seX0_X10_size_X4_size rfl rfl hr dX11_ask_50 ho (X4_size_c G hp o y0 y1 y2 _ h) (fun vv hh hq => by obtain ⟨rfl, rfl⟩ := hq; exact kk)
  · have h := (if_neg c0).symm.trans h
    by_cases c3 : ci = 3
    · have h := (if_pos c3).symm.trans h
      subst c3
      exact kw_callU (x := yX10_size) (owner := "KitchenWheels$Turner") (As := [.ref y0, .int y1, .int y2]) (S := S) kcX3 cbX11_ask_X3_size lkX11_293 sMX11_293 (Or.inr ⟨imX10_size, _, _, _, cdX10_size⟩) ⟨by decide, by decide, by decide +kernel⟩ imX3_size seX3_X10_size_X3_size rfl rfl hr dX11_ask_50 ho (X3_size_c G hp o y0 y1 y2 _ h) (fun vv hh hq => by obtain ⟨rfl, rfl⟩ := hq; exact kk)
    · have h := (if_neg c3).symm.trans h
      by_cases c4 : ci = 4
      · have h := (if_pos c4).symm.trans h
        subst c4
        exact kw_callU (x := yX10_size) (owner := "KitchenWheels$Turner") (As := [.ref y0, .int y1, .int y2]) (S := S) kcX4 cbX11_ask_X4_size lkX11_293 sMX11_293 (Or.inr ⟨imX10_size, _, _, _, cdX10_size⟩) ⟨by decide, by decide, by decide +kernel⟩ imX4_size seX4_X10_size_X4_size rfl rfl hr dX11_ask_50 ho (X4_size_c G hp o y0 y1 y2 _ h) (fun vv hh hq => by obtain ⟨rfl, rfl⟩ := hq; exact kk)
      · have h := (if_neg c4).symm.trans h
        by_cases c5 : ci = 5
        · have h := (if_pos c5).symm.trans h
          subst c5
          exact kw_callU (x := yX10_size) (owner := "KitchenWheels$Turner") (As := [.ref y0, .int y1, .int y2]) (S := S) kcX5 cbX11_ask_X5_size lkX11_293 sMX11_293 (Or.inr ⟨imX10_size, _, _, _, cdX10_size⟩) ⟨by decide, by decide, by decide +kernel⟩ imX5_size seX5_X10_size_X5_size rfl rfl hr dX11_ask_50 ho (X5_size_c G hp o y0 y1 y2 _ h) (fun vv hh hq => by obtain ⟨rfl, rfl⟩ := hq; exact kk)
        · have h := (if_neg c5).symm.trans h
          by_cases c7 : ci = 7
          · have h := (if_pos c7).symm.trans h
            subst c7
            exact kw_callU (x := yX10_size) (owner := "KitchenWheels$Turner") (As := [.ref y0, .int y1, .int y2]) (S := S) kcX7 cbX11_ask_X7_size lkX11_293 sMX11_293 (Or.inr ⟨imX10_size, _, _, _, cdX10_size⟩) ⟨by decide, by decide, by decide +kernel⟩ imX7_size seX7_X10_size_X7_size rfl rfl hr dX11_ask_50 ho (X7_size_c G hp o y0 y1 y2 _ h) (fun vv hh hq => by obtain ⟨rfl, rfl⟩ := hq; exact kk)
          · have h := (if_neg c7).symm.trans h
            cases h
def X11_ask_F (hp : kw_H) (x0 : Nat) (x1 : Int32) (x2 : Int32) : Option (Int32 × kw_H) :=
  (kp_gR hp x0 [10] 2).bind fun v1 =>
  ((kp_ob hp v1 2).bind fun _ => X2_turnerAt_F hp v1 x1).bind fun r2 =>
  kp_nu r2 (some (((-1000001), hp))) (fun b4 =>
  (X11_within_F hp x2 (nI 0) (nI 1)).bind fun r5 =>
  (if r5 = 0 then
  some (((-1000001), hp))
else
  (kp_gR hp x0 [10] 4).bind fun v6 =>
  (kp_put hp v6 [9] 1 (.int (nI 0))).bind fun hp7 =>
  (if x2 = 0 then
  (kp_gR hp7 x0 [10] 4).bind fun v12 =>
  (kp_gR hp7 x0 [10] 2).bind fun v13 =>
  (kp_gI hp7 v13 [2] 8).bind fun v14 =>
  (X11_ask_D50_f hp7 b4 v12 v14 (nI 0)).bind fun r15 =>
  some ((r15.1, r15.2))
else
  (kp_gR hp7 x0 [10] 4).bind fun v8 =>
  (kp_gR hp7 x0 [10] 2).bind fun v9 =>
  (kp_gI hp7 v9 [2] 8).bind fun v10 =>
  (X11_ask_D69_f hp7 b4 v8 v10 (nI 0)).bind fun r11 =>
  some ((r11.1, r11.2)))))
set_option maxRecDepth 100000 in
set_option maxHeartbeats 4000000 in
theorem X11_ask_c (G : kw_G) (hp : kw_H) (x0 : Nat) (x1 : Int32) (x2 : Int32) (r : Int32 × kw_H) (h : X11_ask_F hp x0 x1 x2 = some r) : kw_Met G mX11_ask [.ref x0, .int x1, .int x2] hp (fun v h2 => v = some (.int r.1) ∧ h2 = r.2) := by
  refine kw_met (L := [some (.ref x0), some (.int x1), some (.int x2), none]) (r := 1) (by decide +kernel) (Nat.le_of_ble_eq_true rfl) rfl ?_
  unfold X11_ask_F at h
  obtain ⟨Q, hQ⟩ : ∃ Q : Option Value → kw_H → Prop, Q = (fun v h2 => v = some (.int r.1) ∧ h2 = r.2) := ⟨_, rfl⟩
  have hK : Q (some (.int r.1)) r.2 := by rw [hQ]; exact ⟨rfl, rfl⟩
  rw [← hQ]
  clear hQ
  refine kw_aload_n dX11_ask_0 rfl ?_
  obtain ⟨v1, ev1, h⟩ := Option.bind_eq_some_iff.mp h
  refine kv_gR gfX11_26 dX11_ask_1 ev1 ?_
  refine kw_iload_n dX11_ask_4 rfl ?_
  obtain ⟨r2, er2, h⟩ := Option.bind_eq_some_iff.mp h
  obtain ⟨ur2, eur2, er2⟩ := Option.bind_eq_some_iff.mp er2
  obtain ⟨fsr2, hor2⟩ := kp_ob_inv eur2
  refine kw_callV (As := [.int x1]) (S := []) kcX2 cbX11_ask_X2_turnerAt lkX11_189 imX2_turnerAt seX2_X2_turnerAt_X2_turnerAt rfl rfl (Nat.le_of_ble_eq_true rfl) dX11_ask_5 hor2 (X2_turnerAt_c G hp v1 x1 _ er2) (fun vv hh hq => ?_)
  rw [hq.1, hq.2]
  show kw_V G mX11_ask 8 [some (.ref x0), some (.int x1), some (.int x2), none] (va_rf r2 :: []) hp Q
  cases r2 with
  | none =>
    dsimp only [kp_nu, va_rf] at h ⊢
    refine kw_astore_nN (L' := [some (.ref x0), some (.int x1), some (.int x2), some (.null)]) dX11_ask_8 (by decide) rfl ?_
    refine kw_aload_nN dX11_ask_9 rfl ?_
    refine kw_ifnullN 22 dX11_ask_10 (by decide) ?_
    refine kw_ldc (v := (-1000001)) dX11_ask_22 ckX11_59 ?_
    have h := Option.some.inj h
    subst h
    exact kw_iret rfl dX11_ask_24 hK
  | some b4 =>
    dsimp only [kp_nu, va_rf] at h ⊢
    refine kw_astore_n (L' := [some (.ref x0), some (.int x1), some (.int x2), some (.ref b4)]) dX11_ask_8 (by decide) rfl ?_
    refine kw_aload_n dX11_ask_9 rfl ?_
    refine kw_ifnull dX11_ask_10 ?_
    refine kw_iload_n dX11_ask_13 rfl ?_
    refine kw_iconst (v := nI 0) dX11_ask_14 (by decide) ?_
    refine kw_iconst (v := nI 1) dX11_ask_15 (by decide) ?_
    obtain ⟨r5, er5, h⟩ := Option.bind_eq_some_iff.mp h
    refine kw_callS (As := [.int x2, .int (nI 0), .int (nI 1)]) (S := []) cbX11_ask_X11_within lkX11_55 stX11_within rfl rfl (Nat.le_of_ble_eq_true rfl) dX11_ask_16 (X11_within_c G hp x2 (nI 0) (nI 1) _ er5) (fun vv hh hq => ?_)
    rw [hq.1, hq.2]
    show kw_V G mX11_ask 19 [some (.ref x0), some (.int x1), some (.int x2), some (.ref b4)] [.int r5] hp Q
    refine kw_if_ne 25 dX11_ask_19 (by decide) (fun c17 => ?_) (fun c17 => ?_)
    · have h := (if_neg c17).symm.trans h
      refine kw_aload_n dX11_ask_25 rfl ?_
      obtain ⟨v6, ev6, h⟩ := Option.bind_eq_some_iff.mp h
      refine kv_gR gfX11_40 dX11_ask_26 ev6 ?_
      refine kw_iconst (v := nI 0) dX11_ask_29 (by decide) ?_
      obtain ⟨hp7, ehp7, h⟩ := Option.bind_eq_some_iff.mp h
      refine kv_put pfX11_ask_292 (fun _ => ⟨rfl, rfl⟩) dX11_ask_30 ehp7 ?_
      refine kw_iload_n dX11_ask_33 rfl ?_
      refine kw_if_ne 56 dX11_ask_34 (by decide) (fun c16 => ?_) (fun c16 => ?_)
      · have h := (if_neg c16).symm.trans h
        refine kw_aload_n dX11_ask_56 rfl ?_
        refine kw_aload_n dX11_ask_57 rfl ?_
        obtain ⟨v8, ev8, h⟩ := Option.bind_eq_some_iff.mp h
        refine kv_gR gfX11_40 dX11_ask_58 ev8 ?_
        refine kw_aload_n dX11_ask_61 rfl ?_
        obtain ⟨v9, ev9, h⟩ := Option.bind_eq_some_iff.mp h
        refine kv_gR gfX11_26 dX11_ask_62 ev9 ?_
        obtain ⟨v10, ev10, h⟩ := Option.bind_eq_some_iff.mp h
        refine kv_gI gfX11_149 dX11_ask_65 ev10 ?_
        refine kw_iconst (v := nI 0) dX11_ask_68 (by decide) ?_
        obtain ⟨r11, er11, h⟩ := Option.bind_eq_some_iff.mp h
        refine X11_ask_D69_v G Q [some (.ref x0), some (.int x1), some (.int x2), some (.ref b4)] hp7 b4 v8 v10 (nI 0) _ (Nat.le_of_ble_eq_true rfl) er11 (S := []) ?_
        show kw_V G mX11_ask 72 [some (.ref x0), some (.int x1), some (.int x2), some (.ref b4)] [.int r11.1] r11.2 Q
        have h := Option.some.inj h
        subst h
        exact kw_iret rfl dX11_ask_72 hK
      · have h := (if_pos c16).symm.trans h
        refine kw_aload_n dX11_ask_37 rfl ?_
        refine kw_aload_n dX11_ask_38 rfl ?_
        obtain ⟨v12, ev12, h⟩ := Option.bind_eq_some_iff.mp h
        refine kv_gR gfX11_40 dX11_ask_39 ev12 ?_
        refine kw_aload_n dX11_ask_42 rfl ?_
        obtain ⟨v13, ev13, h⟩ := Option.bind_eq_some_iff.mp h
        refine kv_gR gfX11_26 dX11_ask_43 ev13 ?_
        obtain ⟨v14, ev14, h⟩ := Option.bind_eq_some_iff.mp h
        refine kv_gI gfX11_149 dX11_ask_46 ev14 ?_
        refine kw_iconst (v := nI 0) dX11_ask_49 (by decide) ?_
        obtain ⟨r15, er15, h⟩ := Option.bind_eq_some_iff.mp h
        refine X11_ask_D50_v G Q [some (.ref x0), some (.int x1), some (.int x2), some (.ref b4)] hp7 b4 v12 v14 (nI 0) _ (Nat.le_of_ble_eq_true rfl) er15 (S := []) ?_
        show kw_V G mX11_ask 53 [some (.ref x0), some (.int x1), some (.int x2), some (.ref b4)] [.int r15.1] r15.2 Q
        refine kw_goto 72 dX11_ask_53 (by decide) ?_
        have h := Option.some.inj h
        subst h
        exact kw_iret rfl dX11_ask_72 hK
    · have h := (if_pos c17).symm.trans h
      refine kw_ldc (v := (-1000001)) dX11_ask_22 ckX11_59 ?_
      have h := Option.some.inj h
      subst h
      exact kw_iret rfl dX11_ask_24 hK
/-! KitchenWheels.trace(I)I -/
def X11_trace_F (hp : kw_H) (x0 : Nat) (x1 : Int32) : Option (Int32) :=
  (kp_gR hp x0 [10] 4).bind fun v1 =>
  ((kp_ob hp v1 9).bind fun _ => X9_numberAt_F hp v1 x1).bind fun r2 =>
  some (r2)
set_option maxRecDepth 100000 in
set_option maxHeartbeats 4000000 in
theorem X11_trace_c (G : kw_G) (hp : kw_H) (x0 : Nat) (x1 : Int32) (r : Int32) (h : X11_trace_F hp x0 x1 = some r) : kw_Met G mX11_trace [.ref x0, .int x1] hp (fun v h2 => v = some (.int r) ∧ h2 = hp) := by
  refine kw_met (L := [some (.ref x0), some (.int x1)]) (r := 0) (by decide +kernel) (Nat.le_of_ble_eq_true rfl) rfl ?_
  unfold X11_trace_F at h
  obtain ⟨Q, hQ⟩ : ∃ Q : Option Value → kw_H → Prop, Q = (fun v h2 => v = some (.int r) ∧ h2 = hp) := ⟨_, rfl⟩
  have hK : Q (some (.int r)) hp := by rw [hQ]; exact ⟨rfl, rfl⟩
  rw [← hQ]
  clear hQ
  refine kw_aload_n dX11_trace_0 rfl ?_
  obtain ⟨v1, ev1, h⟩ := Option.bind_eq_some_iff.mp h
  refine kv_gR gfX11_40 dX11_trace_1 ev1 ?_
  refine kw_iload_n dX11_trace_4 rfl ?_
  obtain ⟨r2, er2, h⟩ := Option.bind_eq_some_iff.mp h
  obtain ⟨ur2, eur2, er2⟩ := Option.bind_eq_some_iff.mp er2
  obtain ⟨fsr2, hor2⟩ := kp_ob_inv eur2
  refine kw_callV (As := [.int x1]) (S := []) kcX9 cbX11_trace_X9_numberAt lkX11_300 imX9_numberAt seX9_X9_numberAt_X9_numberAt rfl rfl (Nat.le_of_ble_eq_true rfl) dX11_trace_5 hor2 (X9_numberAt_c G hp v1 x1 _ er2) (fun vv hh hq => ?_)
  rw [hq.1, hq.2]
  show kw_V G mX11_trace 8 [some (.ref x0), some (.int x1)] [.int r2] hp Q
  have h := Option.some.inj h
  subst h
  exact kw_iret rfl dX11_trace_8 hK
/-! KitchenWheels.count(I)I -/
def X11_count_F (hp : kw_H) (x0 : Nat) (x1 : Int32) : Option (Int32) :=
  (if x1 = nI 0 then
  (kp_gR hp x0 [10] 0).bind fun v1 =>
  ((kp_ob hp v1 6).bind fun _ => X6_present_F hp v1).bind fun r2 =>
  some (r2)
else if x1 = nI 1 then
  (kp_gR hp x0 [10] 2).bind fun v4 =>
  (kp_gI hp v4 [2] 4).bind fun v5 =>
  some (v5)
else if x1 = nI 2 then
  (kp_gR hp x0 [10] 2).bind fun v7 =>
  (kp_gI hp v7 [2] 5).bind fun v8 =>
  some (v8)
else if x1 = nI 3 then
  (kp_gR hp x0 [10] 2).bind fun v10 =>
  (kp_gI hp v10 [2] 6).bind fun v11 =>
  some (v11)
else if x1 = nI 4 then
  (kp_gR hp x0 [10] 2).bind fun v13 =>
  (kp_gI hp v13 [2] 7).bind fun v14 =>
  some (v14)
else if x1 = nI 5 then
  (kp_gR hp x0 [10] 2).bind fun v16 =>
  ((kp_ob hp v16 2).bind fun _ => X2_allTimes_F hp v16).bind fun r17 =>
  some (r17)
else if x1 = nI 6 then
  (kp_gI hp x0 [10] 8).bind fun v19 =>
  some (v19)
else if x1 = nI 7 then
  (kp_gR hp x0 [10] 1).bind fun v21 =>
  (kp_gI hp v21 [8] 1).bind fun v22 =>
  some (v22)
else 
  some ((-1000001)))
set_option maxRecDepth 100000 in
set_option maxHeartbeats 4000000 in
theorem X11_count_c (G : kw_G) (hp : kw_H) (x0 : Nat) (x1 : Int32) (r : Int32) (h : X11_count_F hp x0 x1 = some r) : kw_Met G mX11_count [.ref x0, .int x1] hp (fun v h2 => v = some (.int r) ∧ h2 = hp) := by
  refine kw_met (L := [some (.ref x0), some (.int x1)]) (r := 0) (by decide +kernel) (Nat.le_of_ble_eq_true rfl) rfl ?_
  unfold X11_count_F at h
  obtain ⟨Q, hQ⟩ : ∃ Q : Option Value → kw_H → Prop, Q = (fun v h2 => v = some (.int r) ∧ h2 = hp) := ⟨_, rfl⟩
  have hK : Q (some (.int r)) hp := by rw [hQ]; exact ⟨rfl, rfl⟩
  rw [← hQ]
  clear hQ
  refine kw_iload_n dX11_count_0 rfl ?_
  by_cases c3 : x1 = nI 0
  · refine kw_tableIn (off := 47) 48 dX11_count_1 (by rw [c3]; decide) (by rw [c3]; decide) (by rw [c3]; decide) (by decide) ?_
    have h := (if_pos c3).symm.trans h
    refine kw_aload_n dX11_count_48 rfl ?_
    obtain ⟨v1, ev1, h⟩ := Option.bind_eq_some_iff.mp h
    refine kv_gR gfX11_10 dX11_count_49 ev1 ?_
    obtain ⟨r2, er2, h⟩ := Option.bind_eq_some_iff.mp h
    obtain ⟨ur2, eur2, er2⟩ := Option.bind_eq_some_iff.mp er2
    obtain ⟨fsr2, hor2⟩ := kp_ob_inv eur2
    refine kw_callV (As := []) (S := []) kcX6 cbX11_count_X6_present lkX11_303 imX6_present seX6_X6_present_X6_present rfl rfl (Nat.le_of_ble_eq_true rfl) dX11_count_52 hor2 (X6_present_c G hp v1 _ er2) (fun vv hh hq => ?_)
    rw [hq.1, hq.2]
    show kw_V G mX11_count 55 [some (.ref x0), some (.int x1)] [.int r2] hp Q
    have h := Option.some.inj h
    subst h
    exact kw_iret rfl dX11_count_55 hK
  · have h := (if_neg c3).symm.trans h
    by_cases c6 : x1 = nI 1
    · refine kw_tableIn (off := 55) 56 dX11_count_1 (by rw [c6]; decide) (by rw [c6]; decide) (by rw [c6]; decide) (by decide) ?_
      have h := (if_pos c6).symm.trans h
      refine kw_aload_n dX11_count_56 rfl ?_
      obtain ⟨v4, ev4, h⟩ := Option.bind_eq_some_iff.mp h
      refine kv_gR gfX11_26 dX11_count_57 ev4 ?_
      obtain ⟨v5, ev5, h⟩ := Option.bind_eq_some_iff.mp h
      refine kv_gI gfX11_166 dX11_count_60 ev5 ?_
      have h := Option.some.inj h
      subst h
      exact kw_iret rfl dX11_count_63 hK
    · have h := (if_neg c6).symm.trans h
      by_cases c9 : x1 = nI 2
      · refine kw_tableIn (off := 63) 64 dX11_count_1 (by rw [c9]; decide) (by rw [c9]; decide) (by rw [c9]; decide) (by decide) ?_
        have h := (if_pos c9).symm.trans h
        refine kw_aload_n dX11_count_64 rfl ?_
        obtain ⟨v7, ev7, h⟩ := Option.bind_eq_some_iff.mp h
        refine kv_gR gfX11_26 dX11_count_65 ev7 ?_
        obtain ⟨v8, ev8, h⟩ := Option.bind_eq_some_iff.mp h
        refine kv_gI gfX11_176 dX11_count_68 ev8 ?_
        have h := Option.some.inj h
        subst h
        exact kw_iret rfl dX11_count_71 hK
      · have h := (if_neg c9).symm.trans h
        by_cases c12 : x1 = nI 3
        · refine kw_tableIn (off := 71) 72 dX11_count_1 (by rw [c12]; decide) (by rw [c12]; decide) (by rw [c12]; decide) (by decide) ?_
          have h := (if_pos c12).symm.trans h
          refine kw_aload_n dX11_count_72 rfl ?_
          obtain ⟨v10, ev10, h⟩ := Option.bind_eq_some_iff.mp h
          refine kv_gR gfX11_26 dX11_count_73 ev10 ?_
          obtain ⟨v11, ev11, h⟩ := Option.bind_eq_some_iff.mp h
          refine kv_gI gfX11_123 dX11_count_76 ev11 ?_
          have h := Option.some.inj h
          subst h
          exact kw_iret rfl dX11_count_79 hK
        · have h := (if_neg c12).symm.trans h
          by_cases c15 : x1 = nI 4
          · refine kw_tableIn (off := 79) 80 dX11_count_1 (by rw [c15]; decide) (by rw [c15]; decide) (by rw [c15]; decide) (by decide) ?_
            have h := (if_pos c15).symm.trans h
            refine kw_aload_n dX11_count_80 rfl ?_
            obtain ⟨v13, ev13, h⟩ := Option.bind_eq_some_iff.mp h
            refine kv_gR gfX11_26 dX11_count_81 ev13 ?_
            obtain ⟨v14, ev14, h⟩ := Option.bind_eq_some_iff.mp h
            refine kv_gI gfX11_140 dX11_count_84 ev14 ?_
            have h := Option.some.inj h
            subst h
            exact kw_iret rfl dX11_count_87 hK
          · have h := (if_neg c15).symm.trans h
            by_cases c18 : x1 = nI 5
            · refine kw_tableIn (off := 87) 88 dX11_count_1 (by rw [c18]; decide) (by rw [c18]; decide) (by rw [c18]; decide) (by decide) ?_
              have h := (if_pos c18).symm.trans h
              refine kw_aload_n dX11_count_88 rfl ?_
              obtain ⟨v16, ev16, h⟩ := Option.bind_eq_some_iff.mp h
              refine kv_gR gfX11_26 dX11_count_89 ev16 ?_
              obtain ⟨r17, er17, h⟩ := Option.bind_eq_some_iff.mp h
              obtain ⟨ur17, eur17, er17⟩ := Option.bind_eq_some_iff.mp er17
              obtain ⟨fsr17, hor17⟩ := kp_ob_inv eur17
              refine kw_callV (As := []) (S := []) kcX2 cbX11_count_X2_allTimes lkX11_306 imX2_allTimes seX2_X2_allTimes_X2_allTimes rfl rfl (Nat.le_of_ble_eq_true rfl) dX11_count_92 hor17 (X2_allTimes_c G hp v16 _ er17) (fun vv hh hq => ?_)
              rw [hq.1, hq.2]
              show kw_V G mX11_count 95 [some (.ref x0), some (.int x1)] [.int r17] hp Q
              have h := Option.some.inj h
              subst h
              exact kw_iret rfl dX11_count_95 hK
            · have h := (if_neg c18).symm.trans h
              by_cases c20 : x1 = nI 6
              · refine kw_tableIn (off := 95) 96 dX11_count_1 (by rw [c20]; decide) (by rw [c20]; decide) (by rw [c20]; decide) (by decide) ?_
                have h := (if_pos c20).symm.trans h
                refine kw_aload_n dX11_count_96 rfl ?_
                obtain ⟨v19, ev19, h⟩ := Option.bind_eq_some_iff.mp h
                refine kv_gI gfX11_126 dX11_count_97 ev19 ?_
                have h := Option.some.inj h
                subst h
                exact kw_iret rfl dX11_count_100 hK
              · have h := (if_neg c20).symm.trans h
                by_cases c23 : x1 = nI 7
                · refine kw_tableIn (off := 100) 101 dX11_count_1 (by rw [c23]; decide) (by rw [c23]; decide) (by rw [c23]; decide) (by decide) ?_
                  have h := (if_pos c23).symm.trans h
                  refine kw_aload_n dX11_count_101 rfl ?_
                  obtain ⟨v21, ev21, h⟩ := Option.bind_eq_some_iff.mp h
                  refine kv_gR gfX11_19 dX11_count_102 ev21 ?_
                  obtain ⟨v22, ev22, h⟩ := Option.bind_eq_some_iff.mp h
                  refine kv_gI gfX11_94 dX11_count_105 ev22 ?_
                  have h := Option.some.inj h
                  subst h
                  exact kw_iret rfl dX11_count_108 hK
                · have h := (if_neg c23).symm.trans h
                  refine kw_tableOut 109 dX11_count_1 (by have n0 := lv_neT (a := 0) c3 (by decide); have n1 := lv_neT (a := 1) c6 (by decide); have n2 := lv_neT (a := 2) c9 (by decide); have n3 := lv_neT (a := 3) c12 (by decide); have n4 := lv_neT (a := 4) c15 (by decide); have n5 := lv_neT (a := 5) c18 (by decide); have n6 := lv_neT (a := 6) c20 (by decide); have n7 := lv_neT (a := 7) c23 (by decide); omega) (by decide) ?_
                  refine kw_ldc (v := (-1000001)) dX11_count_109 ckX11_59 ?_
                  have h := Option.some.inj h
                  subst h
                  exact kw_iret rfl dX11_count_111 hK
/-! KitchenWheels.status()I -/
def X11_status_F (hp : kw_H) (x0 : Nat) : Option (Int32) :=
  (kp_gI hp x0 [10] 10).bind fun v1 =>
  some (v1)
set_option maxRecDepth 100000 in
set_option maxHeartbeats 4000000 in
theorem X11_status_c (G : kw_G) (hp : kw_H) (x0 : Nat) (r : Int32) (h : X11_status_F hp x0 = some r) : kw_Met G mX11_status [.ref x0] hp (fun v h2 => v = some (.int r) ∧ h2 = hp) := by
  refine kw_met (L := [some (.ref x0)]) (r := 0) (by decide +kernel) (Nat.le_of_ble_eq_true rfl) rfl ?_
  unfold X11_status_F at h
  obtain ⟨Q, hQ⟩ : ∃ Q : Option Value → kw_H → Prop, Q = (fun v h2 => v = some (.int r) ∧ h2 = hp) := ⟨_, rfl⟩
  have hK : Q (some (.int r)) hp := by rw [hQ]; exact ⟨rfl, rfl⟩
  rw [← hQ]
  clear hQ
  refine kw_aload_n dX11_status_0 rfl ?_
  obtain ⟨v1, ev1, h⟩ := Option.bind_eq_some_iff.mp h
  refine kv_gI gfX11_309 dX11_status_1 ev1 ?_
  have h := Option.some.inj h
  subst h
  exact kw_iret rfl dX11_status_4 hK
/-! KitchenWheelsModel.<init>()V -/
def X12_init_F (hp : kw_H) (x0 : Nat) : Option (kw_H) :=
  (kp_al hp [.inl (0, 1848, .inl (fun _ => 0))]).bind fun hp1 =>
  (kp_put hp1 x0 [11] 0 (.ref (List.length hp))).bind fun hp2 =>
  (kp_al hp2 [.inl (2, 2, .inl (fun _ => 0))]).bind fun hp3 =>
  (kp_put hp3 x0 [11] 3 (.ref (List.length hp2))).bind fun hp4 =>
  (kp_al hp4 [.inl (0, 8, .inl (fun _ => 0))]).bind fun hp5 =>
  (kp_put hp5 x0 [11] 4 (.ref (List.length hp4))).bind fun hp6 =>
  (kp_al hp6 [.inl (0, 8, .inl (fun _ => 0))]).bind fun hp7 =>
  (kp_stI hp7 (List.length hp6) (nI 0) ((-1))).bind fun hp8 =>
  (kp_stI hp8 (List.length hp6) (nI 1) ((-1))).bind fun hp9 =>
  (kp_stI hp9 (List.length hp6) (nI 2) ((-1))).bind fun hp10 =>
  (kp_stI hp10 (List.length hp6) (nI 3) ((-1))).bind fun hp11 =>
  (kp_stI hp11 (List.length hp6) (nI 4) ((-1))).bind fun hp12 =>
  (kp_stI hp12 (List.length hp6) (nI 5) ((-1))).bind fun hp13 =>
  (kp_stI hp13 (List.length hp6) (nI 6) ((-1))).bind fun hp14 =>
  (kp_stI hp14 (List.length hp6) (nI 7) ((-1))).bind fun hp15 =>
  (kp_put hp15 x0 [11] 5 (.ref (List.length hp6))).bind fun hp16 =>
  (kp_al hp16 [.inl (0, 320, .inl (fun _ => 0))]).bind fun hp17 =>
  (kp_put hp17 x0 [11] 6 (.ref (List.length hp16))).bind fun hp18 =>
  (kp_al hp18 [.inl (0, 80, .inl (fun _ => 0))]).bind fun hp19 =>
  (kp_put hp19 x0 [11] 7 (.ref (List.length hp18))).bind fun hp20 =>
  (kp_al hp20 [.inl (0, 16, .inl (fun _ => 0))]).bind fun hp21 =>
  (kp_put hp21 x0 [11] 11 (.ref (List.length hp20))).bind fun hp22 =>
  (kp_al hp22 [.inl (0, 360, .inl (fun _ => 0))]).bind fun hp23 =>
  (kp_put hp23 x0 [11] 16 (.ref (List.length hp22))).bind fun hp24 =>
  some (hp24)
set_option maxRecDepth 100000 in
set_option maxHeartbeats 4000000 in
theorem X12_init_c (G : kw_G) (hp : kw_H) (x0 : Nat) (r : kw_H) (h : X12_init_F hp x0 = some r) : kw_Met G mX12_init [.ref x0] hp (fun v h2 => v = none ∧ h2 = r) := by
  refine kw_met (L := [some (.ref x0)]) (r := 0) (by decide +kernel) (Nat.le_of_ble_eq_true rfl) rfl ?_
  unfold X12_init_F at h
  obtain ⟨Q, hQ⟩ : ∃ Q : Option Value → kw_H → Prop, Q = (fun v h2 => v = none ∧ h2 = r) := ⟨_, rfl⟩
  have hK : Q none r := by rw [hQ]; exact ⟨rfl, rfl⟩
  rw [← hQ]
  clear hQ
  refine kw_aload_n dX12_init_0 rfl ?_
  refine kw_obj lkX12_1 im_obj cd_obj (by decide) (by decide) (Nat.le_of_ble_eq_true rfl) dX12_init_1 ?_
  refine kw_aload_n dX12_init_4 rfl ?_
  refine kw_sipush (v := nI 1848) dX12_init_5 (by decide) ?_
  obtain ⟨hp1, ehp1, h⟩ := Option.bind_eq_some_iff.mp h
  refine kv_newa_int (N := 1848) acint (by decide) (by decide) (by decide) dX12_init_8 ehp1 ?_
  obtain ⟨hp2, ehp2, h⟩ := Option.bind_eq_some_iff.mp h
  refine kv_put pfX12_init_7 (fun _ => ⟨rfl, rfl⟩) dX12_init_10 ehp2 ?_
  refine kw_aload_n dX12_init_13 rfl ?_
  refine kw_iconst (v := nI 2) dX12_init_14 (by decide) ?_
  obtain ⟨hp3, ehp3, h⟩ := Option.bind_eq_some_iff.mp h
  refine kv_newa_boolean (N := 2) acboolean (by decide) (by decide) (by decide) dX12_init_15 ehp3 ?_
  obtain ⟨hp4, ehp4, h⟩ := Option.bind_eq_some_iff.mp h
  refine kv_put pfX12_init_13 (fun _ => ⟨rfl, rfl⟩) dX12_init_17 ehp4 ?_
  refine kw_aload_n dX12_init_20 rfl ?_
  refine kw_bipush (v := nI 8) dX12_init_21 (by decide) ?_
  obtain ⟨hp5, ehp5, h⟩ := Option.bind_eq_some_iff.mp h
  refine kv_newa_int (N := 8) acint (by decide) (by decide) (by decide) dX12_init_23 ehp5 ?_
  obtain ⟨hp6, ehp6, h⟩ := Option.bind_eq_some_iff.mp h
  refine kv_put pfX12_init_17 (fun _ => ⟨rfl, rfl⟩) dX12_init_25 ehp6 ?_
  refine kw_aload_n dX12_init_28 rfl ?_
  refine kw_bipush (v := nI 8) dX12_init_29 (by decide) ?_
  obtain ⟨hp7, ehp7, h⟩ := Option.bind_eq_some_iff.mp h
  refine kv_newa_int (N := 8) acint (by decide) (by decide) (by decide) dX12_init_31 ehp7 ?_
  refine kw_dup dX12_init_33 rfl ?_
  refine kw_iconst (v := nI 0) dX12_init_34 (by decide) ?_
  refine kw_iconst (v := (-1)) dX12_init_35 (by decide) ?_
  obtain ⟨hp8, ehp8, h⟩ := Option.bind_eq_some_iff.mp h
  refine kv_stI dX12_init_36 ehp8 ?_
  refine kw_dup dX12_init_37 rfl ?_
  refine kw_iconst (v := nI 1) dX12_init_38 (by decide) ?_
  refine kw_iconst (v := (-1)) dX12_init_39 (by decide) ?_
  obtain ⟨hp9, ehp9, h⟩ := Option.bind_eq_some_iff.mp h
  refine kv_stI dX12_init_40 ehp9 ?_
  refine kw_dup dX12_init_41 rfl ?_
  refine kw_iconst (v := nI 2) dX12_init_42 (by decide) ?_
  refine kw_iconst (v := (-1)) dX12_init_43 (by decide) ?_
  obtain ⟨hp10, ehp10, h⟩ := Option.bind_eq_some_iff.mp h
  refine kv_stI dX12_init_44 ehp10 ?_
  refine kw_dup dX12_init_45 rfl ?_
  refine kw_iconst (v := nI 3) dX12_init_46 (by decide) ?_
  refine kw_iconst (v := (-1)) dX12_init_47 (by decide) ?_
  obtain ⟨hp11, ehp11, h⟩ := Option.bind_eq_some_iff.mp h
  refine kv_stI dX12_init_48 ehp11 ?_
  refine kw_dup dX12_init_49 rfl ?_
  refine kw_iconst (v := nI 4) dX12_init_50 (by decide) ?_
  refine kw_iconst (v := (-1)) dX12_init_51 (by decide) ?_
  obtain ⟨hp12, ehp12, h⟩ := Option.bind_eq_some_iff.mp h
  refine kv_stI dX12_init_52 ehp12 ?_
  refine kw_dup dX12_init_53 rfl ?_
  refine kw_iconst (v := nI 5) dX12_init_54 (by decide) ?_
  refine kw_iconst (v := (-1)) dX12_init_55 (by decide) ?_
  obtain ⟨hp13, ehp13, h⟩ := Option.bind_eq_some_iff.mp h
  refine kv_stI dX12_init_56 ehp13 ?_
  refine kw_dup dX12_init_57 rfl ?_
  refine kw_bipush (v := nI 6) dX12_init_58 (by decide) ?_
  refine kw_iconst (v := (-1)) dX12_init_60 (by decide) ?_
  obtain ⟨hp14, ehp14, h⟩ := Option.bind_eq_some_iff.mp h
  refine kv_stI dX12_init_61 ehp14 ?_
  refine kw_dup dX12_init_62 rfl ?_
  refine kw_bipush (v := nI 7) dX12_init_63 (by decide) ?_
  refine kw_iconst (v := (-1)) dX12_init_65 (by decide) ?_
  obtain ⟨hp15, ehp15, h⟩ := Option.bind_eq_some_iff.mp h
  refine kv_stI dX12_init_66 ehp15 ?_
  obtain ⟨hp16, ehp16, h⟩ := Option.bind_eq_some_iff.mp h
  refine kv_put pfX12_init_20 (fun _ => ⟨rfl, rfl⟩) dX12_init_67 ehp16 ?_
  refine kw_aload_n dX12_init_70 rfl ?_
  refine kw_sipush (v := nI 320) dX12_init_71 (by decide) ?_
  obtain ⟨hp17, ehp17, h⟩ := Option.bind_eq_some_iff.mp h
  refine kv_newa_int (N := 320) acint (by decide) (by decide) (by decide) dX12_init_74 ehp17 ?_
  obtain ⟨hp18, ehp18, h⟩ := Option.bind_eq_some_iff.mp h
  refine kv_put pfX12_init_23 (fun _ => ⟨rfl, rfl⟩) dX12_init_76 ehp18 ?_
  refine kw_aload_n dX12_init_79 rfl ?_
  refine kw_bipush (v := nI 80) dX12_init_80 (by decide) ?_
  obtain ⟨hp19, ehp19, h⟩ := Option.bind_eq_some_iff.mp h
  refine kv_newa_int (N := 80) acint (by decide) (by decide) (by decide) dX12_init_82 ehp19 ?_
  obtain ⟨hp20, ehp20, h⟩ := Option.bind_eq_some_iff.mp h
  refine kv_put pfX12_init_26 (fun _ => ⟨rfl, rfl⟩) dX12_init_84 ehp20 ?_
  refine kw_aload_n dX12_init_87 rfl ?_
  refine kw_bipush (v := nI 16) dX12_init_88 (by decide) ?_
  obtain ⟨hp21, ehp21, h⟩ := Option.bind_eq_some_iff.mp h
  refine kv_newa_int (N := 16) acint (by decide) (by decide) (by decide) dX12_init_90 ehp21 ?_
  obtain ⟨hp22, ehp22, h⟩ := Option.bind_eq_some_iff.mp h
  refine kv_put pfX12_init_29 (fun _ => ⟨rfl, rfl⟩) dX12_init_92 ehp22 ?_
  refine kw_aload_n dX12_init_95 rfl ?_
  refine kw_sipush (v := nI 360) dX12_init_96 (by decide) ?_
  obtain ⟨hp23, ehp23, h⟩ := Option.bind_eq_some_iff.mp h
  refine kv_newa_int (N := 360) acint (by decide) (by decide) (by decide) dX12_init_99 ehp23 ?_
  obtain ⟨hp24, ehp24, h⟩ := Option.bind_eq_some_iff.mp h
  refine kv_put pfX12_init_32 (fun _ => ⟨rfl, rfl⟩) dX12_init_101 ehp24 ?_
  have h := Option.some.inj h
  subst h
  exact kw_vret rfl dX12_init_104 hK
/-! KitchenWheelsModel.in(JJJ)Z -/
def X12_in_F (hp : kw_H) (x0 : Int64) (x2 : Int64) (x4 : Int64) : Option (Int32) :=
  (if (lg_cmp x0 x2) < 0 then
  some (nI 0)
else
  (if 0 < (lg_cmp x0 x4) then
  some (nI 0)
else
  some (nI 1)))
set_option maxRecDepth 100000 in
set_option maxHeartbeats 4000000 in
theorem X12_in_c (G : kw_G) (hp : kw_H) (x0 : Int64) (x2 : Int64) (x4 : Int64) (r : Int32) (h : X12_in_F hp x0 x2 x4 = some r) : kw_Met G mX12_in [.long x0, .long x2, .long x4] hp (fun v h2 => v = some (.int r) ∧ h2 = hp) := by
  refine kw_met (L := [some (.long x0), none, some (.long x2), none, some (.long x4), none]) (r := 0) (by decide +kernel) (Nat.le_of_ble_eq_true rfl) rfl ?_
  unfold X12_in_F at h
  obtain ⟨Q, hQ⟩ : ∃ Q : Option Value → kw_H → Prop, Q = (fun v h2 => v = some (.int r) ∧ h2 = hp) := ⟨_, rfl⟩
  have hK : Q (some (.int r)) hp := by rw [hQ]; exact ⟨rfl, rfl⟩
  rw [← hQ]
  clear hQ
  refine kw_lload_n dX12_in_0 rfl ?_
  refine kw_lload_n dX12_in_1 rfl ?_
  refine kw_lcmp dX12_in_2 ?_
  refine kw_if_lt 17 dX12_in_3 (by decide) (fun c2 => ?_) (fun c2 => ?_)
  · have h := (if_pos c2).symm.trans h
    refine kw_iconst (v := nI 0) dX12_in_17 (by decide) ?_
    have h := Option.some.inj h
    subst h
    exact kw_zret rfl (Or.inl rfl) dX12_in_18 hK
  · have h := (if_neg c2).symm.trans h
    refine kw_lload_n dX12_in_6 rfl ?_
    refine kw_lload dX12_in_7 rfl ?_
    refine kw_lcmp dX12_in_9 ?_
    refine kw_if_gt 17 dX12_in_10 (by decide) (fun c1 => ?_) (fun c1 => ?_)
    · have h := (if_pos c1).symm.trans h
      refine kw_iconst (v := nI 0) dX12_in_17 (by decide) ?_
      have h := Option.some.inj h
      subst h
      exact kw_zret rfl (Or.inl rfl) dX12_in_18 hK
    · have h := (if_neg c1).symm.trans h
      refine kw_iconst (v := nI 1) dX12_in_13 (by decide) ?_
      refine kw_goto 18 dX12_in_14 (by decide) ?_
      have h := Option.some.inj h
      subst h
      exact kw_zret rfl (Or.inr rfl) dX12_in_18 hK
/-! KitchenWheelsModel.has(II)Z -/
def X12_has_F (hp : kw_H) (x0 : Int32) (x1 : Int32) : Option (Int32) :=
  (if ((x0 >>> (x1 &&& 31)) &&& (nI 1)) = (nI 1) then
  some (nI 1)
else
  some (nI 0))
set_option maxRecDepth 100000 in
set_option maxHeartbeats 4000000 in
theorem X12_has_c (G : kw_G) (hp : kw_H) (x0 : Int32) (x1 : Int32) (r : Int32) (h : X12_has_F hp x0 x1 = some r) : kw_Met G mX12_has [.int x0, .int x1] hp (fun v h2 => v = some (.int r) ∧ h2 = hp) := by
  refine kw_met (L := [some (.int x0), some (.int x1)]) (r := 0) (by decide +kernel) (Nat.le_of_ble_eq_true rfl) rfl ?_
  unfold X12_has_F at h
  obtain ⟨Q, hQ⟩ : ∃ Q : Option Value → kw_H → Prop, Q = (fun v h2 => v = some (.int r) ∧ h2 = hp) := ⟨_, rfl⟩
  have hK : Q (some (.int r)) hp := by rw [hQ]; exact ⟨rfl, rfl⟩
  rw [← hQ]
  clear hQ
  refine kw_iload_n dX12_has_0 rfl ?_
  refine kw_iload_n dX12_has_1 rfl ?_
  refine kw_ishr dX12_has_2 ?_
  refine kw_iconst (v := nI 1) dX12_has_3 (by decide) ?_
  refine kw_iand dX12_has_4 ?_
  refine kw_iconst (v := nI 1) dX12_has_5 (by decide) ?_
  refine kw_icmp_ne 13 dX12_has_6 (by decide) (fun c1 => ?_) (fun c1 => ?_)
  · have h := (if_neg c1).symm.trans h
    refine kw_iconst (v := nI 0) dX12_has_13 (by decide) ?_
    have h := Option.some.inj h
    subst h
    exact kw_zret rfl (Or.inl rfl) dX12_has_14 hK
  · have h := (if_pos c1).symm.trans h
    refine kw_iconst (v := nI 1) dX12_has_9 (by decide) ?_
    refine kw_goto 14 dX12_has_10 (by decide) ?_
    have h := Option.some.inj h
    subst h
    exact kw_zret rfl (Or.inr rfl) dX12_has_14 hK
/-! KitchenWheelsModel.find(I)I -/
def X12_find_F (hp : kw_H) (x0 : Nat) (x1 : Int32) : Option (Int32 × kw_H) :=
  (kp_put hp x0 [11] 10 (.int x1)).bind fun hp1 =>
  some ((((-1000010)) - x1, hp1))
set_option maxRecDepth 100000 in
set_option maxHeartbeats 4000000 in
theorem X12_find_c (G : kw_G) (hp : kw_H) (x0 : Nat) (x1 : Int32) (r : Int32 × kw_H) (h : X12_find_F hp x0 x1 = some r) : kw_Met G mX12_find [.ref x0, .int x1] hp (fun v h2 => v = some (.int r.1) ∧ h2 = r.2) := by
  refine kw_met (L := [some (.ref x0), some (.int x1)]) (r := 0) (by decide +kernel) (Nat.le_of_ble_eq_true rfl) rfl ?_
  unfold X12_find_F at h
  obtain ⟨Q, hQ⟩ : ∃ Q : Option Value → kw_H → Prop, Q = (fun v h2 => v = some (.int r.1) ∧ h2 = r.2) := ⟨_, rfl⟩
  have hK : Q (some (.int r.1)) r.2 := by rw [hQ]; exact ⟨rfl, rfl⟩
  rw [← hQ]
  clear hQ
  refine kw_aload_n dX12_find_0 rfl ?_
  refine kw_iload_n dX12_find_1 rfl ?_
  obtain ⟨hp1, ehp1, h⟩ := Option.bind_eq_some_iff.mp h
  refine kv_put pfX12_find_35 (fun _ => ⟨rfl, rfl⟩) dX12_find_2 ehp1 ?_
  refine kw_ldc (v := (-1000010)) dX12_find_5 ckX12_39 ?_
  refine kw_iload_n dX12_find_7 rfl ?_
  refine kw_isub dX12_find_8 ?_
  have h := Option.some.inj h
  subst h
  exact kw_iret rfl dX12_find_9 hK
/-! KitchenWheelsModel.well(I)I -/
def X12_well_F (hp : kw_H) (x0 : Nat) (x1 : Int32) : Option (Int32 × kw_H) :=
  (kp_put hp x0 [11] 10 (.int (nI 0))).bind fun hp1 =>
  some ((x1, hp1))
set_option maxRecDepth 100000 in
set_option maxHeartbeats 4000000 in
theorem X12_well_c (G : kw_G) (hp : kw_H) (x0 : Nat) (x1 : Int32) (r : Int32 × kw_H) (h : X12_well_F hp x0 x1 = some r) : kw_Met G mX12_well [.ref x0, .int x1] hp (fun v h2 => v = some (.int r.1) ∧ h2 = r.2) := by
  refine kw_met (L := [some (.ref x0), some (.int x1)]) (r := 0) (by decide +kernel) (Nat.le_of_ble_eq_true rfl) rfl ?_
  unfold X12_well_F at h
  obtain ⟨Q, hQ⟩ : ∃ Q : Option Value → kw_H → Prop, Q = (fun v h2 => v = some (.int r.1) ∧ h2 = r.2) := ⟨_, rfl⟩
  have hK : Q (some (.int r.1)) r.2 := by rw [hQ]; exact ⟨rfl, rfl⟩
  rw [← hQ]
  clear hQ
  refine kw_aload_n dX12_well_0 rfl ?_
  refine kw_iconst (v := nI 0) dX12_well_1 (by decide) ?_
  obtain ⟨hp1, ehp1, h⟩ := Option.bind_eq_some_iff.mp h
  refine kv_put pfX12_well_35 (fun _ => ⟨rfl, rfl⟩) dX12_well_2 ehp1 ?_
  refine kw_iload_n dX12_well_5 rfl ?_
  have h := Option.some.inj h
  subst h
  exact kw_iret rfl dX12_well_6 hK
/-! KitchenWheelsModel.isRow(I)Z -/
def X12_isRow_F (hp : kw_H) (x0 : Int32) : Option (Int32) :=
  (X12_in_F hp (Int32.toInt64 x0) (lN 0) (lN 7)).bind fun r1 =>
  (kp_bool r1).bind fun v2 =>
  some (v2)
set_option maxRecDepth 100000 in
set_option maxHeartbeats 4000000 in
theorem X12_isRow_c (G : kw_G) (hp : kw_H) (x0 : Int32) (r : Int32) (h : X12_isRow_F hp x0 = some r) : kw_Met G mX12_isRow [.int x0] hp (fun v h2 => v = some (.int r) ∧ h2 = hp) := by
  refine kw_met (L := [some (.int x0)]) (r := 0) (by decide +kernel) (Nat.le_of_ble_eq_true rfl) rfl ?_
  unfold X12_isRow_F at h
  obtain ⟨Q, hQ⟩ : ∃ Q : Option Value → kw_H → Prop, Q = (fun v h2 => v = some (.int r) ∧ h2 = hp) := ⟨_, rfl⟩
  have hK : Q (some (.int r)) hp := by rw [hQ]; exact ⟨rfl, rfl⟩
  rw [← hQ]
  clear hQ
  refine kw_iload_n dX12_isRow_0 rfl ?_
  refine kw_i2l dX12_isRow_1 ?_
  refine kw_lconst (v := lN 0) dX12_isRow_2 (by decide) ?_
  refine kw_ldc2_w (v := lN 7) dX12_isRow_3 ckX12_40 ?_
  obtain ⟨r1, er1, h⟩ := Option.bind_eq_some_iff.mp h
  refine kw_callS (As := [.long (Int32.toInt64 x0), .long (lN 0), .long (lN 7)]) (S := []) cbX12_isRow_X12_in lkX12_42 stX12_in rfl rfl (Nat.le_of_ble_eq_true rfl) dX12_isRow_6 (X12_in_c G hp (Int32.toInt64 x0) (lN 0) (lN 7) _ er1) (fun vv hh hq => ?_)
  rw [hq.1, hq.2]
  show kw_V G mX12_isRow 9 [some (.int x0)] [.int r1] hp Q
  obtain ⟨v2, ev2, h⟩ := Option.bind_eq_some_iff.mp h
  obtain ⟨qv2, bv2⟩ := kv_bool ev2
  have h := Option.some.inj h
  subst h
  rw [qv2]
  exact kw_zret rfl bv2 dX12_isRow_9 hK
/-! KitchenWheelsModel.row(III)I -/
def X12_row_K55 (G : kw_G) (Q : Option Value → kw_H → Prop) (x0 : Nat) (x1 : Int32) (x3 : Int32) (r : (Int32 × kw_H) ⊕ (Int32 × kw_H)) : Prop := match r with
  | .inl z => kw_V G mX12_row 55 [some (.ref x0), some (.int x1), none, some (.int x3), some (.int z.1)] [] z.2 Q
  | .inr r => Q (some (.int r.1)) r.2
def X12_row_J81 (hp : kw_H) (x0 : Nat) (x3 : Int32) : Option (Int32 × kw_H) :=
  ((kp_ob hp x0 11).bind fun _ => X12_well_F hp x0 x3).bind fun r7 =>
  some ((r7.1, r7.2))
set_option maxRecDepth 100000 in
set_option maxHeartbeats 4000000 in
theorem X12_row_J81_t (G : kw_G) (Q : Option Value → kw_H → Prop) (hp : kw_H) (x0 : Nat) (x3 : Int32) (r : Int32 × kw_H) (h : X12_row_J81 hp x0 x3 = some r) (hK : Q (some (.int r.1)) r.2) : kw_V G mX12_row 81 [some (.ref x0), none, none, some (.int x3), none] [] hp Q := by
  unfold X12_row_J81 at h
  refine kw_aload_n dX12_row_81 rfl ?_
  refine kw_iload_n dX12_row_82 rfl ?_
  obtain ⟨r7, er7, h⟩ := Option.bind_eq_some_iff.mp h
  obtain ⟨ur7, eur7, er7⟩ := Option.bind_eq_some_iff.mp er7
  obtain ⟨fsr7, hor7⟩ := kp_ob_inv eur7
  refine kw_callV (As := [.int x3]) (S := []) kcX12 cbX12_row_X12_well lkX12_57 imX12_well seX12_X12_well_X12_well rfl rfl (Nat.le_of_ble_eq_true rfl) dX12_row_83 hor7 (X12_well_c G hp x0 x3 _ er7) (fun vv hh hq => ?_)
  rw [hq.1, hq.2]
  show kw_V G mX12_row 86 [some (.ref x0), none, none, some (.int x3), none] [.int r7.1] r7.2 Q
  have h := Option.some.inj h
  subst h
  exact kw_iret rfl dX12_row_86 hK
def X12_row_b55 (x0 : Nat) (x1 : Int32) (x3 : Int32) (x4 : Int32) (hp : kw_H) : Option (((Int32 × kw_H) ⊕ (Int32 × kw_H))) :=
  (if (nI 40) ≤ x4 then
  (X12_row_J81 hp x0 x3).map (fun r => .inr (r))
else
  (kp_gR hp x0 [11] 6).bind fun v9 =>
  (kp_stI hp v9 (((nI 40) * x1) + x4) (nI 0)).bind fun hp10 =>
  some (.inl (x4 + (nI 1), hp10)))
set_option maxRecDepth 100000 in
set_option maxHeartbeats 4000000 in
theorem X12_row_b55_t (G : kw_G) (Q : Option Value → kw_H → Prop) (x0 : Nat) (x1 : Int32) (x3 : Int32) (x4 : Int32) (hp : kw_H) (r : ((Int32 × kw_H) ⊕ (Int32 × kw_H))) (h : X12_row_b55 x0 x1 x3 x4 hp = some r) (hK : X12_row_K55 G Q x0 x1 x3 r) : kw_V G mX12_row 55 [some (.ref x0), some (.int x1), none, some (.int x3), some (.int x4)] [] hp Q := by
  unfold X12_row_b55 at h
  refine kw_iload dX12_row_55 rfl ?_
  refine kw_bipush (v := nI 40) dX12_row_57 (by decide) ?_
  refine kw_icmp_ge 81 dX12_row_59 (by decide) (fun c11 => ?_) (fun c11 => ?_)
  · have h := (if_pos c11).symm.trans h
    refine kw_mask [true, false, true, true, false] (L' := [some (.ref x0), none, none, some (.int x3), none]) rfl ?_
    obtain ⟨r8, hr8, hrr8⟩ := Option.map_eq_some_iff.mp h
    subst hrr8
    exact X12_row_J81_t G Q hp x0 x3 r8 hr8 hK
  · have h := (if_neg c11).symm.trans h
    refine kw_aload_n dX12_row_62 rfl ?_
    obtain ⟨v9, ev9, h⟩ := Option.bind_eq_some_iff.mp h
    refine kv_gR gfX12_23 dX12_row_63 ev9 ?_
    refine kw_bipush (v := nI 40) dX12_row_66 (by decide) ?_
    refine kw_iload_n dX12_row_68 rfl ?_
    refine kw_imul dX12_row_69 ?_
    refine kw_iload dX12_row_70 rfl ?_
    refine kw_iadd dX12_row_72 ?_
    refine kw_iconst (v := nI 0) dX12_row_73 (by decide) ?_
    obtain ⟨hp10, ehp10, h⟩ := Option.bind_eq_some_iff.mp h
    refine kv_stI dX12_row_74 ehp10 ?_
    refine kv_iinc (w := nI 1) (L' := [some (.ref x0), some (.int x1), none, some (.int x3), some (.int (x4 + (nI 1)))]) dX12_row_75 (by decide) rfl (by decide) rfl ?_
    refine kw_goto 55 dX12_row_78 (by decide) ?_
    have h := Option.some.inj h
    subst h
    exact hK
def X12_row_B55 (x0 : Nat) (x1 : Int32) (x3 : Int32) (z : Int32 × kw_H) : Option (((Int32 × kw_H) ⊕ (Int32 × kw_H))) := X12_row_b55 x0 x1 x3 z.1 z.2
theorem X12_row_L55_t (G : kw_G) (Q : Option Value → kw_H → Prop) (x0 : Nat) (x1 : Int32) (x3 : Int32) (n : Nat) (z : Int32 × kw_H) (r : Int32 × kw_H) (h : kp_lp (X12_row_B55 x0 x1 x3) n z = some r) (hK : Q (some (.int r.1)) r.2) : kw_V G mX12_row 55 [some (.ref x0), some (.int x1), none, some (.int x3), some (.int z.1)] [] z.2 Q :=
  kv_lp _ (fun z => kw_V G mX12_row 55 [some (.ref x0), some (.int x1), none, some (.int x3), some (.int z.1)] [] z.2 Q) (fun r => Q (some (.int r.1)) r.2) (fun z x hb hx => X12_row_b55_t G Q x0 x1 x3 z.1 z.2 x hb (by cases x <;> exact hx)) n z r h hK
def X12_row_F (hp : kw_H) (x0 : Nat) (x1 : Int32) (x2 : Int32) (x3 : Int32) : Option (Int32 × kw_H) :=
  (X12_isRow_F hp x1).bind fun r1 =>
  (if r1 = 0 then
  some (((-1000001), hp))
else
  (X12_in_F hp (Int32.toInt64 x2) (lN 0) (lN 2)).bind fun r2 =>
  (if r2 = 0 then
  some (((-1000001), hp))
else
  (if x3 ≤ (nI 40) then
  (if 0 ≤ x3 then
  (kp_gR hp x0 [11] 4).bind fun v3 =>
  (kp_stI hp v3 x1 x2).bind fun hp4 =>
  (kp_gR hp4 x0 [11] 5).bind fun v5 =>
  (kp_stI hp4 v5 x1 x3).bind fun hp6 =>
  kp_lp (X12_row_B55 x0 x1 x3) 2000 (nI 0, hp6)
else
  ((kp_ob hp x0 11).bind fun _ => X12_find_F hp x0 (nI 4)).bind fun r12 =>
  some ((r12.1, r12.2)))
else
  some (((-1000001), hp)))))
set_option maxRecDepth 100000 in
set_option maxHeartbeats 4000000 in
theorem X12_row_c (G : kw_G) (hp : kw_H) (x0 : Nat) (x1 : Int32) (x2 : Int32) (x3 : Int32) (r : Int32 × kw_H) (h : X12_row_F hp x0 x1 x2 x3 = some r) : kw_Met G mX12_row [.ref x0, .int x1, .int x2, .int x3] hp (fun v h2 => v = some (.int r.1) ∧ h2 = r.2) := by
  refine kw_met (L := [some (.ref x0), some (.int x1), some (.int x2), some (.int x3), none]) (r := 1) (by decide +kernel) (Nat.le_of_ble_eq_true rfl) rfl ?_
  unfold X12_row_F at h
  obtain ⟨Q, hQ⟩ : ∃ Q : Option Value → kw_H → Prop, Q = (fun v h2 => v = some (.int r.1) ∧ h2 = r.2) := ⟨_, rfl⟩
  have hK : Q (some (.int r.1)) r.2 := by rw [hQ]; exact ⟨rfl, rfl⟩
  rw [← hQ]
  clear hQ
  refine kw_iload_n dX12_row_0 rfl ?_
  obtain ⟨r1, er1, h⟩ := Option.bind_eq_some_iff.mp h
  refine kw_callS (As := [.int x1]) (S := []) cbX12_row_X12_isRow lkX12_46 stX12_isRow rfl rfl (Nat.le_of_ble_eq_true rfl) dX12_row_1 (X12_isRow_c G hp x1 _ er1) (fun vv hh hq => ?_)
  rw [hq.1, hq.2]
  show kw_V G mX12_row 4 [some (.ref x0), some (.int x1), some (.int x2), some (.int x3), none] [.int r1] hp Q
  refine kw_if_eq 25 dX12_row_4 (by decide) (fun c16 => ?_) (fun c16 => ?_)
  · have h := (if_pos c16).symm.trans h
    refine kw_ldc (v := (-1000001)) dX12_row_25 ckX12_52 ?_
    have h := Option.some.inj h
    subst h
    exact kw_iret rfl dX12_row_27 hK
  · have h := (if_neg c16).symm.trans h
    refine kw_iload_n dX12_row_7 rfl ?_
    refine kw_i2l dX12_row_8 ?_
    refine kw_lconst (v := lN 0) dX12_row_9 (by decide) ?_
    refine kw_ldc2_w (v := lN 2) dX12_row_10 ckX12_50 ?_
    obtain ⟨r2, er2, h⟩ := Option.bind_eq_some_iff.mp h
    refine kw_callS (As := [.long (Int32.toInt64 x2), .long (lN 0), .long (lN 2)]) (S := []) cbX12_row_X12_in lkX12_42 stX12_in rfl rfl (Nat.le_of_ble_eq_true rfl) dX12_row_13 (X12_in_c G hp (Int32.toInt64 x2) (lN 0) (lN 2) _ er2) (fun vv hh hq => ?_)
    rw [hq.1, hq.2]
    show kw_V G mX12_row 16 [some (.ref x0), some (.int x1), some (.int x2), some (.int x3), none] [.int r2] hp Q
    refine kw_if_eq 25 dX12_row_16 (by decide) (fun c15 => ?_) (fun c15 => ?_)
    · have h := (if_pos c15).symm.trans h
      refine kw_ldc (v := (-1000001)) dX12_row_25 ckX12_52 ?_
      have h := Option.some.inj h
      subst h
      exact kw_iret rfl dX12_row_27 hK
    · have h := (if_neg c15).symm.trans h
      refine kw_iload_n dX12_row_19 rfl ?_
      refine kw_bipush (v := nI 40) dX12_row_20 (by decide) ?_
      refine kw_icmp_le 28 dX12_row_22 (by decide) (fun c14 => ?_) (fun c14 => ?_)
      · have h := (if_pos c14).symm.trans h
        refine kw_iload_n dX12_row_28 rfl ?_
        refine kw_if_ge 38 dX12_row_29 (by decide) (fun c13 => ?_) (fun c13 => ?_)
        · have h := (if_pos c13).symm.trans h
          refine kw_aload_n dX12_row_38 rfl ?_
          obtain ⟨v3, ev3, h⟩ := Option.bind_eq_some_iff.mp h
          refine kv_gR gfX12_17 dX12_row_39 ev3 ?_
          refine kw_iload_n dX12_row_42 rfl ?_
          refine kw_iload_n dX12_row_43 rfl ?_
          obtain ⟨hp4, ehp4, h⟩ := Option.bind_eq_some_iff.mp h
          refine kv_stI dX12_row_44 ehp4 ?_
          refine kw_aload_n dX12_row_45 rfl ?_
          obtain ⟨v5, ev5, h⟩ := Option.bind_eq_some_iff.mp h
          refine kv_gR gfX12_20 dX12_row_46 ev5 ?_
          refine kw_iload_n dX12_row_49 rfl ?_
          refine kw_iload_n dX12_row_50 rfl ?_
          obtain ⟨hp6, ehp6, h⟩ := Option.bind_eq_some_iff.mp h
          refine kv_stI dX12_row_51 ehp6 ?_
          refine kw_iconst (v := nI 0) dX12_row_52 (by decide) ?_
          refine kw_istore (L' := [some (.ref x0), some (.int x1), some (.int x2), some (.int x3), some (.int (nI 0))]) dX12_row_53 (by decide) rfl ?_
          refine kw_mask [true, true, false, true, true] (L' := [some (.ref x0), some (.int x1), none, some (.int x3), some (.int (nI 0))]) rfl ?_
          exact X12_row_L55_t G Q x0 x1 x3 _ (nI 0, hp6) _ h hK
        · have h := (if_neg c13).symm.trans h
          refine kw_aload_n dX12_row_32 rfl ?_
          refine kw_iconst (v := nI 4) dX12_row_33 (by decide) ?_
          obtain ⟨r12, er12, h⟩ := Option.bind_eq_some_iff.mp h
          obtain ⟨ur12, eur12, er12⟩ := Option.bind_eq_some_iff.mp er12
          obtain ⟨fsr12, hor12⟩ := kp_ob_inv eur12
          refine kw_callV (As := [.int (nI 4)]) (S := []) kcX12 cbX12_row_X12_find lkX12_53 imX12_find seX12_X12_find_X12_find rfl rfl (Nat.le_of_ble_eq_true rfl) dX12_row_34 hor12 (X12_find_c G hp x0 (nI 4) _ er12) (fun vv hh hq => ?_)
          rw [hq.1, hq.2]
          show kw_V G mX12_row 37 [some (.ref x0), some (.int x1), some (.int x2), some (.int x3), none] [.int r12.1] r12.2 Q
          have h := Option.some.inj h
          subst h
          exact kw_iret rfl dX12_row_37 hK
      · have h := (if_neg c14).symm.trans h
        refine kw_ldc (v := (-1000001)) dX12_row_25 ckX12_52 ?_
        have h := Option.some.inj h
        subst h
        exact kw_iret rfl dX12_row_27 hK
/-! KitchenWheelsModel.narrow(II)I -/
def X12_narrow_F (hp : kw_H) (x0 : Int32) (x1 : Int32) : Option (Int32) :=
  (if x1 = 0 then
  some (Int8.toInt32 (Int32.toInt8 x0))
else
  (if x1 = (nI 1) then
  some (Int16.toInt32 (Int32.toInt16 x0))
else
  some (x0)))
set_option maxRecDepth 100000 in
set_option maxHeartbeats 4000000 in
theorem X12_narrow_c (G : kw_G) (hp : kw_H) (x0 : Int32) (x1 : Int32) (r : Int32) (h : X12_narrow_F hp x0 x1 = some r) : kw_Met G mX12_narrow [.int x0, .int x1] hp (fun v h2 => v = some (.int r) ∧ h2 = hp) := by
  refine kw_met (L := [some (.int x0), some (.int x1)]) (r := 0) (by decide +kernel) (Nat.le_of_ble_eq_true rfl) rfl ?_
  unfold X12_narrow_F at h
  obtain ⟨Q, hQ⟩ : ∃ Q : Option Value → kw_H → Prop, Q = (fun v h2 => v = some (.int r) ∧ h2 = hp) := ⟨_, rfl⟩
  have hK : Q (some (.int r)) hp := by rw [hQ]; exact ⟨rfl, rfl⟩
  rw [← hQ]
  clear hQ
  refine kw_iload_n dX12_narrow_0 rfl ?_
  refine kw_if_ne 9 dX12_narrow_1 (by decide) (fun c2 => ?_) (fun c2 => ?_)
  · have h := (if_neg c2).symm.trans h
    refine kw_iload_n dX12_narrow_9 rfl ?_
    refine kw_iconst (v := nI 1) dX12_narrow_10 (by decide) ?_
    refine kw_icmp_ne 19 dX12_narrow_11 (by decide) (fun c1 => ?_) (fun c1 => ?_)
    · have h := (if_neg c1).symm.trans h
      refine kw_iload_n dX12_narrow_19 rfl ?_
      have h := Option.some.inj h
      subst h
      exact kw_iret rfl dX12_narrow_20 hK
    · have h := (if_pos c1).symm.trans h
      refine kw_iload_n dX12_narrow_14 rfl ?_
      refine kw_i2s dX12_narrow_15 ?_
      refine kw_goto 20 dX12_narrow_16 (by decide) ?_
      have h := Option.some.inj h
      subst h
      exact kw_iret rfl dX12_narrow_20 hK
  · have h := (if_pos c2).symm.trans h
    refine kw_iload_n dX12_narrow_4 rfl ?_
    refine kw_i2b dX12_narrow_5 ?_
    refine kw_goto 20 dX12_narrow_6 (by decide) ?_
    have h := Option.some.inj h
    subst h
    exact kw_iret rfl dX12_narrow_20 hK
/-! KitchenWheelsModel.set(III)I -/
def X12_set_F (hp : kw_H) (x0 : Nat) (x1 : Int32) (x2 : Int32) (x3 : Int32) : Option (Int32 × kw_H) :=
  (X12_isRow_F hp x1).bind fun r1 =>
  (if r1 = 0 then
  some (((-1000001), hp))
else
  (kp_gR hp x0 [11] 5).bind fun v2 =>
  (kp_ldI hp v2 x1).bind fun v3 =>
  (if 0 ≤ v3 then
  (kp_gR hp x0 [11] 5).bind fun v4 =>
  (kp_ldI hp v4 x1).bind fun v5 =>
  (X12_in_F hp (Int32.toInt64 x2) (lN 0) (Int32.toInt64 (v5 - (nI 1)))).bind fun r6 =>
  (if r6 = 0 then
  ((kp_ob hp x0 11).bind fun _ => X12_find_F hp x0 (nI 2)).bind fun r15 =>
  some ((r15.1, r15.2))
else
  (kp_gR hp x0 [11] 6).bind fun v7 =>
  (kp_gR hp x0 [11] 4).bind fun v8 =>
  (kp_ldI hp v8 x1).bind fun v9 =>
  (X12_narrow_F hp x3 v9).bind fun r10 =>
  (kp_stI hp v7 (((nI 40) * x1) + x2) r10).bind fun hp11 =>
  (kp_gR hp11 x0 [11] 6).bind fun v12 =>
  (kp_ldI hp11 v12 (((nI 40) * x1) + x2)).bind fun v13 =>
  ((kp_ob hp11 x0 11).bind fun _ => X12_well_F hp11 x0 v13).bind fun r14 =>
  some ((r14.1, r14.2)))
else
  ((kp_ob hp x0 11).bind fun _ => X12_find_F hp x0 (nI 1)).bind fun r17 =>
  some ((r17.1, r17.2))))
set_option maxRecDepth 100000 in
set_option maxHeartbeats 4000000 in
theorem X12_set_c (G : kw_G) (hp : kw_H) (x0 : Nat) (x1 : Int32) (x2 : Int32) (x3 : Int32) (r : Int32 × kw_H) (h : X12_set_F hp x0 x1 x2 x3 = some r) : kw_Met G mX12_set [.ref x0, .int x1, .int x2, .int x3] hp (fun v h2 => v = some (.int r.1) ∧ h2 = r.2) := by
  refine kw_met (L := [some (.ref x0), some (.int x1), some (.int x2), some (.int x3)]) (r := 0) (by decide +kernel) (Nat.le_of_ble_eq_true rfl) rfl ?_
  unfold X12_set_F at h
  obtain ⟨Q, hQ⟩ : ∃ Q : Option Value → kw_H → Prop, Q = (fun v h2 => v = some (.int r.1) ∧ h2 = r.2) := ⟨_, rfl⟩
  have hK : Q (some (.int r.1)) r.2 := by rw [hQ]; exact ⟨rfl, rfl⟩
  rw [← hQ]
  clear hQ
  refine kw_iload_n dX12_set_0 rfl ?_
  obtain ⟨r1, er1, h⟩ := Option.bind_eq_some_iff.mp h
  refine kw_callS (As := [.int x1]) (S := []) cbX12_set_X12_isRow lkX12_46 stX12_isRow rfl rfl (Nat.le_of_ble_eq_true rfl) dX12_set_1 (X12_isRow_c G hp x1 _ er1) (fun vv hh hq => ?_)
  rw [hq.1, hq.2]
  show kw_V G mX12_set 4 [some (.ref x0), some (.int x1), some (.int x2), some (.int x3)] [.int r1] hp Q
  refine kw_if_ne 10 dX12_set_4 (by decide) (fun c19 => ?_) (fun c19 => ?_)
  · have h := (if_neg c19).symm.trans h
    refine kw_aload_n dX12_set_10 rfl ?_
    obtain ⟨v2, ev2, h⟩ := Option.bind_eq_some_iff.mp h
    refine kv_gR gfX12_20 dX12_set_11 ev2 ?_
    refine kw_iload_n dX12_set_14 rfl ?_
    obtain ⟨v3, ev3, h⟩ := Option.bind_eq_some_iff.mp h
    refine kv_ldI dX12_set_15 ev3 ?_
    refine kw_if_ge 25 dX12_set_16 (by decide) (fun c18 => ?_) (fun c18 => ?_)
    · have h := (if_pos c18).symm.trans h
      refine kw_iload_n dX12_set_25 rfl ?_
      refine kw_i2l dX12_set_26 ?_
      refine kw_lconst (v := lN 0) dX12_set_27 (by decide) ?_
      refine kw_aload_n dX12_set_28 rfl ?_
      obtain ⟨v4, ev4, h⟩ := Option.bind_eq_some_iff.mp h
      refine kv_gR gfX12_20 dX12_set_29 ev4 ?_
      refine kw_iload_n dX12_set_32 rfl ?_
      obtain ⟨v5, ev5, h⟩ := Option.bind_eq_some_iff.mp h
      refine kv_ldI dX12_set_33 ev5 ?_
      refine kw_iconst (v := nI 1) dX12_set_34 (by decide) ?_
      refine kw_isub dX12_set_35 ?_
      refine kw_i2l dX12_set_36 ?_
      obtain ⟨r6, er6, h⟩ := Option.bind_eq_some_iff.mp h
      refine kw_callS (As := [.long (Int32.toInt64 x2), .long (lN 0), .long (Int32.toInt64 (v5 - (nI 1)))]) (S := []) cbX12_set_X12_in lkX12_42 stX12_in rfl rfl (Nat.le_of_ble_eq_true rfl) dX12_set_37 (X12_in_c G hp (Int32.toInt64 x2) (lN 0) (Int32.toInt64 (v5 - (nI 1))) _ er6) (fun vv hh hq => ?_)
      rw [hq.1, hq.2]
      show kw_V G mX12_set 40 [some (.ref x0), some (.int x1), some (.int x2), some (.int x3)] [.int r6] hp Q
      refine kw_if_ne 49 dX12_set_40 (by decide) (fun c16 => ?_) (fun c16 => ?_)
      · have h := (if_neg c16).symm.trans h
        refine kw_aload_n dX12_set_49 rfl ?_
        obtain ⟨v7, ev7, h⟩ := Option.bind_eq_some_iff.mp h
        refine kv_gR gfX12_23 dX12_set_50 ev7 ?_
        refine kw_bipush (v := nI 40) dX12_set_53 (by decide) ?_
        refine kw_iload_n dX12_set_55 rfl ?_
        refine kw_imul dX12_set_56 ?_
        refine kw_iload_n dX12_set_57 rfl ?_
        refine kw_iadd dX12_set_58 ?_
        refine kw_iload_n dX12_set_59 rfl ?_
        refine kw_aload_n dX12_set_60 rfl ?_
        obtain ⟨v8, ev8, h⟩ := Option.bind_eq_some_iff.mp h
        refine kv_gR gfX12_17 dX12_set_61 ev8 ?_
        refine kw_iload_n dX12_set_64 rfl ?_
        obtain ⟨v9, ev9, h⟩ := Option.bind_eq_some_iff.mp h
        refine kv_ldI dX12_set_65 ev9 ?_
        obtain ⟨r10, er10, h⟩ := Option.bind_eq_some_iff.mp h
        refine kw_callS (As := [.int x3, .int v9]) (S := [.int (((nI 40) * x1) + x2), .ref v7]) cbX12_set_X12_narrow lkX12_60 stX12_narrow rfl rfl (Nat.le_of_ble_eq_true rfl) dX12_set_66 (X12_narrow_c G hp x3 v9 _ er10) (fun vv hh hq => ?_)
        rw [hq.1, hq.2]
        show kw_V G mX12_set 69 [some (.ref x0), some (.int x1), some (.int x2), some (.int x3)] [.int r10, .int (((nI 40) * x1) + x2), .ref v7] hp Q
        obtain ⟨hp11, ehp11, h⟩ := Option.bind_eq_some_iff.mp h
        refine kv_stI dX12_set_69 ehp11 ?_
        refine kw_aload_n dX12_set_70 rfl ?_
        refine kw_aload_n dX12_set_71 rfl ?_
        obtain ⟨v12, ev12, h⟩ := Option.bind_eq_some_iff.mp h
        refine kv_gR gfX12_23 dX12_set_72 ev12 ?_
        refine kw_bipush (v := nI 40) dX12_set_75 (by decide) ?_
        refine kw_iload_n dX12_set_77 rfl ?_
        refine kw_imul dX12_set_78 ?_
        refine kw_iload_n dX12_set_79 rfl ?_
        refine kw_iadd dX12_set_80 ?_
        obtain ⟨v13, ev13, h⟩ := Option.bind_eq_some_iff.mp h
        refine kv_ldI dX12_set_81 ev13 ?_
        obtain ⟨r14, er14, h⟩ := Option.bind_eq_some_iff.mp h
        obtain ⟨ur14, eur14, er14⟩ := Option.bind_eq_some_iff.mp er14
        obtain ⟨fsr14, hor14⟩ := kp_ob_inv eur14
        refine kw_callV (As := [.int v13]) (S := []) kcX12 cbX12_set_X12_well lkX12_57 imX12_well seX12_X12_well_X12_well rfl rfl (Nat.le_of_ble_eq_true rfl) dX12_set_82 hor14 (X12_well_c G hp11 x0 v13 _ er14) (fun vv hh hq => ?_)
        rw [hq.1, hq.2]
        show kw_V G mX12_set 85 [some (.ref x0), some (.int x1), some (.int x2), some (.int x3)] [.int r14.1] r14.2 Q
        have h := Option.some.inj h
        subst h
        exact kw_iret rfl dX12_set_85 hK
      · have h := (if_pos c16).symm.trans h
        refine kw_aload_n dX12_set_43 rfl ?_
        refine kw_iconst (v := nI 2) dX12_set_44 (by decide) ?_
        obtain ⟨r15, er15, h⟩ := Option.bind_eq_some_iff.mp h
        obtain ⟨ur15, eur15, er15⟩ := Option.bind_eq_some_iff.mp er15
        obtain ⟨fsr15, hor15⟩ := kp_ob_inv eur15
        refine kw_callV (As := [.int (nI 2)]) (S := []) kcX12 cbX12_set_X12_find lkX12_53 imX12_find seX12_X12_find_X12_find rfl rfl (Nat.le_of_ble_eq_true rfl) dX12_set_45 hor15 (X12_find_c G hp x0 (nI 2) _ er15) (fun vv hh hq => ?_)
        rw [hq.1, hq.2]
        show kw_V G mX12_set 48 [some (.ref x0), some (.int x1), some (.int x2), some (.int x3)] [.int r15.1] r15.2 Q
        have h := Option.some.inj h
        subst h
        exact kw_iret rfl dX12_set_48 hK
    · have h := (if_neg c18).symm.trans h
      refine kw_aload_n dX12_set_19 rfl ?_
      refine kw_iconst (v := nI 1) dX12_set_20 (by decide) ?_
      obtain ⟨r17, er17, h⟩ := Option.bind_eq_some_iff.mp h
      obtain ⟨ur17, eur17, er17⟩ := Option.bind_eq_some_iff.mp er17
      obtain ⟨fsr17, hor17⟩ := kp_ob_inv eur17
      refine kw_callV (As := [.int (nI 1)]) (S := []) kcX12 cbX12_set_X12_find lkX12_53 imX12_find seX12_X12_find_X12_find rfl rfl (Nat.le_of_ble_eq_true rfl) dX12_set_21 hor17 (X12_find_c G hp x0 (nI 1) _ er17) (fun vv hh hq => ?_)
      rw [hq.1, hq.2]
      show kw_V G mX12_set 24 [some (.ref x0), some (.int x1), some (.int x2), some (.int x3)] [.int r17.1] r17.2 Q
      have h := Option.some.inj h
      subst h
      exact kw_iret rfl dX12_set_24 hK
  · have h := (if_pos c19).symm.trans h
    refine kw_ldc (v := (-1000001)) dX12_set_7 ckX12_52 ?_
    have h := Option.some.inj h
    subst h
    exact kw_iret rfl dX12_set_9 hK
/-! KitchenWheelsModel.isSpan(III)Z -/
def X12_isSpan_F (hp : kw_H) (x0 : Nat) (x1 : Int32) (x2 : Int32) (x3 : Int32) : Option (Int32) :=
  (if x2 < 0 then
  some (nI 0)
else
  (if x3 < 0 then
  some (nI 0)
else
  (kp_gR hp x0 [11] 5).bind fun v1 =>
  (kp_ldI hp v1 x1).bind fun v2 =>
  (if 0 < (lg_cmp ((Int32.toInt64 x2) + (Int32.toInt64 x3)) (Int32.toInt64 v2)) then
  some (nI 0)
else
  some (nI 1))))
set_option maxRecDepth 100000 in
set_option maxHeartbeats 4000000 in
theorem X12_isSpan_c (G : kw_G) (hp : kw_H) (x0 : Nat) (x1 : Int32) (x2 : Int32) (x3 : Int32) (r : Int32) (h : X12_isSpan_F hp x0 x1 x2 x3 = some r) : kw_Met G mX12_isSpan [.ref x0, .int x1, .int x2, .int x3] hp (fun v h2 => v = some (.int r) ∧ h2 = hp) := by
  refine kw_met (L := [some (.ref x0), some (.int x1), some (.int x2), some (.int x3)]) (r := 0) (by decide +kernel) (Nat.le_of_ble_eq_true rfl) rfl ?_
  unfold X12_isSpan_F at h
  obtain ⟨Q, hQ⟩ : ∃ Q : Option Value → kw_H → Prop, Q = (fun v h2 => v = some (.int r) ∧ h2 = hp) := ⟨_, rfl⟩
  have hK : Q (some (.int r)) hp := by rw [hQ]; exact ⟨rfl, rfl⟩
  rw [← hQ]
  clear hQ
  refine kw_iload_n dX12_isSpan_0 rfl ?_
  refine kw_if_lt 28 dX12_isSpan_1 (by decide) (fun c5 => ?_) (fun c5 => ?_)
  · have h := (if_pos c5).symm.trans h
    refine kw_iconst (v := nI 0) dX12_isSpan_28 (by decide) ?_
    have h := Option.some.inj h
    subst h
    exact kw_zret rfl (Or.inl rfl) dX12_isSpan_29 hK
  · have h := (if_neg c5).symm.trans h
    refine kw_iload_n dX12_isSpan_4 rfl ?_
    refine kw_if_lt 28 dX12_isSpan_5 (by decide) (fun c4 => ?_) (fun c4 => ?_)
    · have h := (if_pos c4).symm.trans h
      refine kw_iconst (v := nI 0) dX12_isSpan_28 (by decide) ?_
      have h := Option.some.inj h
      subst h
      exact kw_zret rfl (Or.inl rfl) dX12_isSpan_29 hK
    · have h := (if_neg c4).symm.trans h
      refine kw_iload_n dX12_isSpan_8 rfl ?_
      refine kw_i2l dX12_isSpan_9 ?_
      refine kw_iload_n dX12_isSpan_10 rfl ?_
      refine kw_i2l dX12_isSpan_11 ?_
      refine kw_ladd dX12_isSpan_12 ?_
      refine kw_aload_n dX12_isSpan_13 rfl ?_
      obtain ⟨v1, ev1, h⟩ := Option.bind_eq_some_iff.mp h
      refine kv_gR gfX12_20 dX12_isSpan_14 ev1 ?_
      refine kw_iload_n dX12_isSpan_17 rfl ?_
      obtain ⟨v2, ev2, h⟩ := Option.bind_eq_some_iff.mp h
      refine kv_ldI dX12_isSpan_18 ev2 ?_
      refine kw_i2l dX12_isSpan_19 ?_
      refine kw_lcmp dX12_isSpan_20 ?_
      refine kw_if_gt 28 dX12_isSpan_21 (by decide) (fun c3 => ?_) (fun c3 => ?_)
      · have h := (if_pos c3).symm.trans h
        refine kw_iconst (v := nI 0) dX12_isSpan_28 (by decide) ?_
        have h := Option.some.inj h
        subst h
        exact kw_zret rfl (Or.inl rfl) dX12_isSpan_29 hK
      · have h := (if_neg c3).symm.trans h
        refine kw_iconst (v := nI 1) dX12_isSpan_24 (by decide) ?_
        refine kw_goto 29 dX12_isSpan_25 (by decide) ?_
        have h := Option.some.inj h
        subst h
        exact kw_zret rfl (Or.inr rfl) dX12_isSpan_29 hK
/-! KitchenWheelsModel.copy(IIIII)I -/
def X12_copy_J35 (hp : kw_H) (x0 : Nat) : Option (Int32 × kw_H) :=
  ((kp_ob hp x0 11).bind fun _ => X12_find_F hp x0 (nI 1)).bind fun r5 =>
  some ((r5.1, r5.2))
set_option maxRecDepth 100000 in
set_option maxHeartbeats 4000000 in
theorem X12_copy_J35_t (G : kw_G) (Q : Option Value → kw_H → Prop) (hp : kw_H) (x0 : Nat) (r : Int32 × kw_H) (h : X12_copy_J35 hp x0 = some r) (hK : Q (some (.int r.1)) r.2) : kw_V G mX12_copy 35 [some (.ref x0), none, none, none, none, none, none, none, none] [] hp Q := by
  unfold X12_copy_J35 at h
  refine kw_aload_n dX12_copy_35 rfl ?_
  refine kw_iconst (v := nI 1) dX12_copy_36 (by decide) ?_
  obtain ⟨r5, er5, h⟩ := Option.bind_eq_some_iff.mp h
  obtain ⟨ur5, eur5, er5⟩ := Option.bind_eq_some_iff.mp er5
  obtain ⟨fsr5, hor5⟩ := kp_ob_inv eur5
  refine kw_callV (As := [.int (nI 1)]) (S := []) kcX12 cbX12_copy_X12_find lkX12_53 imX12_find seX12_X12_find_X12_find rfl rfl (Nat.le_of_ble_eq_true rfl) dX12_copy_37 hor5 (X12_find_c G hp x0 (nI 1) _ er5) (fun vv hh hq => ?_)
  rw [hq.1, hq.2]
  show kw_V G mX12_copy 40 [some (.ref x0), none, none, none, none, none, none, none, none] [.int r5.1] r5.2 Q
  have h := Option.some.inj h
  subst h
  exact kw_iret rfl dX12_copy_40 hK
def X12_copy_J85 (hp : kw_H) (x0 : Nat) : Option (Int32 × kw_H) :=
  ((kp_ob hp x0 11).bind fun _ => X12_find_F hp x0 (nI 2)).bind fun r13 =>
  some ((r13.1, r13.2))
set_option maxRecDepth 100000 in
set_option maxHeartbeats 4000000 in
theorem X12_copy_J85_t (G : kw_G) (Q : Option Value → kw_H → Prop) (hp : kw_H) (x0 : Nat) (r : Int32 × kw_H) (h : X12_copy_J85 hp x0 = some r) (hK : Q (some (.int r.1)) r.2) : kw_V G mX12_copy 85 [some (.ref x0), none, none, none, none, none, none, none, none] [] hp Q := by
  unfold X12_copy_J85 at h
  refine kw_aload_n dX12_copy_85 rfl ?_
  refine kw_iconst (v := nI 2) dX12_copy_86 (by decide) ?_
  obtain ⟨r13, er13, h⟩ := Option.bind_eq_some_iff.mp h
  obtain ⟨ur13, eur13, er13⟩ := Option.bind_eq_some_iff.mp er13
  obtain ⟨fsr13, hor13⟩ := kp_ob_inv eur13
  refine kw_callV (As := [.int (nI 2)]) (S := []) kcX12 cbX12_copy_X12_find lkX12_53 imX12_find seX12_X12_find_X12_find rfl rfl (Nat.le_of_ble_eq_true rfl) dX12_copy_87 hor13 (X12_find_c G hp x0 (nI 2) _ er13) (fun vv hh hq => ?_)
  rw [hq.1, hq.2]
  show kw_V G mX12_copy 90 [some (.ref x0), none, none, none, none, none, none, none, none] [.int r13.1] r13.2 Q
  have h := Option.some.inj h
  subst h
  exact kw_iret rfl dX12_copy_90 hK
def X12_copy_K107 (G : kw_G) (Q : Option Value → kw_H → Prop) (x0 : Nat) (x1 : Int32) (x2 : Int32) (x3 : Int32) (x4 : Int32) (x5 : Int32) (x6 : Int32) (r : (Int32 × kw_H) ⊕ (Int32 × kw_H)) : Prop := match r with
  | .inl z => kw_V G mX12_copy 107 [some (.ref x0), some (.int x1), some (.int x2), some (.int x3), some (.int x4), some (.int x5), some (.int x6), some (.int z.1), none] [] z.2 Q
  | .inr r => Q (some (.int r.1)) r.2
def X12_copy_J168 (hp : kw_H) (x0 : Nat) (x5 : Int32) : Option (Int32 × kw_H) :=
  ((kp_ob hp x0 11).bind fun _ => X12_well_F hp x0 x5).bind fun r15 =>
  some ((r15.1, r15.2))
set_option maxRecDepth 100000 in
set_option maxHeartbeats 4000000 in
theorem X12_copy_J168_t (G : kw_G) (Q : Option Value → kw_H → Prop) (hp : kw_H) (x0 : Nat) (x5 : Int32) (r : Int32 × kw_H) (h : X12_copy_J168 hp x0 x5 = some r) (hK : Q (some (.int r.1)) r.2) : kw_V G mX12_copy 168 [some (.ref x0), none, none, none, none, some (.int x5), none, none, none] [] hp Q := by
  unfold X12_copy_J168 at h
  refine kw_aload_n dX12_copy_168 rfl ?_
  refine kw_iload dX12_copy_169 rfl ?_
  obtain ⟨r15, er15, h⟩ := Option.bind_eq_some_iff.mp h
  obtain ⟨ur15, eur15, er15⟩ := Option.bind_eq_some_iff.mp er15
  obtain ⟨fsr15, hor15⟩ := kp_ob_inv eur15
  refine kw_callV (As := [.int x5]) (S := []) kcX12 cbX12_copy_X12_well lkX12_57 imX12_well seX12_X12_well_X12_well rfl rfl (Nat.le_of_ble_eq_true rfl) dX12_copy_171 hor15 (X12_well_c G hp x0 x5 _ er15) (fun vv hh hq => ?_)
  rw [hq.1, hq.2]
  show kw_V G mX12_copy 174 [some (.ref x0), none, none, none, none, some (.int x5), none, none, none] [.int r15.1] r15.2 Q
  have h := Option.some.inj h
  subst h
  exact kw_iret rfl dX12_copy_174 hK
def X12_copy_J131 (hp : kw_H) (x0 : Nat) (x1 : Int32) (x2 : Int32) (x3 : Int32) (x4 : Int32) (x5 : Int32) (x6 : Int32) (x7 : Int32) (s0 : Int32) : Option (((Int32 × kw_H) ⊕ (Int32 × kw_H))) :=
  (kp_gR hp x0 [11] 6).bind fun v17 =>
  (kp_gR hp x0 [11] 6).bind fun v18 =>
  (kp_ldI hp v18 ((((nI 40) * x1) + x2) + s0)).bind fun v19 =>
  (kp_stI hp v17 ((((nI 40) * x3) + x4) + s0) v19).bind fun hp20 =>
  some (.inl (x7 + (nI 1), hp20))
set_option maxRecDepth 100000 in
set_option maxHeartbeats 4000000 in
theorem X12_copy_J131_t (G : kw_G) (Q : Option Value → kw_H → Prop) (hp : kw_H) (x0 : Nat) (x1 : Int32) (x2 : Int32) (x3 : Int32) (x4 : Int32) (x5 : Int32) (x6 : Int32) (x7 : Int32) (s0 : Int32) (r : ((Int32 × kw_H) ⊕ (Int32 × kw_H))) (h : X12_copy_J131 hp x0 x1 x2 x3 x4 x5 x6 x7 s0 = some r) (hK : X12_copy_K107 G Q x0 x1 x2 x3 x4 x5 x6 r) : kw_V G mX12_copy 131 [some (.ref x0), some (.int x1), some (.int x2), some (.int x3), some (.int x4), some (.int x5), some (.int x6), some (.int x7), none] [.int s0] hp Q := by
  unfold X12_copy_J131 at h
  refine kw_istore (L' := [some (.ref x0), some (.int x1), some (.int x2), some (.int x3), some (.int x4), some (.int x5), some (.int x6), some (.int x7), some (.int s0)]) dX12_copy_131 (by decide) rfl ?_
  refine kw_aload_n dX12_copy_133 rfl ?_
  obtain ⟨v17, ev17, h⟩ := Option.bind_eq_some_iff.mp h
  refine kv_gR gfX12_23 dX12_copy_134 ev17 ?_
  refine kw_bipush (v := nI 40) dX12_copy_137 (by decide) ?_
  refine kw_iload_n dX12_copy_139 rfl ?_
  refine kw_imul dX12_copy_140 ?_
  refine kw_iload dX12_copy_141 rfl ?_
  refine kw_iadd dX12_copy_143 ?_
  refine kw_iload dX12_copy_144 rfl ?_
  refine kw_iadd dX12_copy_146 ?_
  refine kw_aload_n dX12_copy_147 rfl ?_
  obtain ⟨v18, ev18, h⟩ := Option.bind_eq_some_iff.mp h
  refine kv_gR gfX12_23 dX12_copy_148 ev18 ?_
  refine kw_bipush (v := nI 40) dX12_copy_151 (by decide) ?_
  refine kw_iload_n dX12_copy_153 rfl ?_
  refine kw_imul dX12_copy_154 ?_
  refine kw_iload_n dX12_copy_155 rfl ?_
  refine kw_iadd dX12_copy_156 ?_
  refine kw_iload dX12_copy_157 rfl ?_
  refine kw_iadd dX12_copy_159 ?_
  obtain ⟨v19, ev19, h⟩ := Option.bind_eq_some_iff.mp h
  refine kv_ldI dX12_copy_160 ev19 ?_
  obtain ⟨hp20, ehp20, h⟩ := Option.bind_eq_some_iff.mp h
  refine kv_stI dX12_copy_161 ehp20 ?_
  refine kv_iinc (w := nI 1) (L' := [some (.ref x0), some (.int x1), some (.int x2), some (.int x3), some (.int x4), some (.int x5), some (.int x6), some (.int (x7 + (nI 1))), some (.int s0)]) dX12_copy_162 (by decide) rfl (by decide) rfl ?_
  refine kw_goto 107 dX12_copy_165 (by decide) ?_
  refine kw_mask [true, true, true, true, true, true, true, true, false] (L' := [some (.ref x0), some (.int x1), some (.int x2), some (.int x3), some (.int x4), some (.int x5), some (.int x6), some (.int (x7 + (nI 1))), none]) rfl ?_
  have h := Option.some.inj h
  subst h
  exact hK
def X12_copy_b107 (x0 : Nat) (x1 : Int32) (x2 : Int32) (x3 : Int32) (x4 : Int32) (x5 : Int32) (x6 : Int32) (x7 : Int32) (hp : kw_H) : Option (((Int32 × kw_H) ⊕ (Int32 × kw_H))) :=
  (if x5 ≤ x7 then
  (X12_copy_J168 hp x0 x5).map (fun r => .inr (r))
else
  (if x6 = 0 then
  X12_copy_J131 hp x0 x1 x2 x3 x4 x5 x6 x7 x7
else
  X12_copy_J131 hp x0 x1 x2 x3 x4 x5 x6 x7 ((x5 - (nI 1)) - x7)))
set_option maxRecDepth 100000 in
set_option maxHeartbeats 4000000 in
theorem X12_copy_b107_t (G : kw_G) (Q : Option Value → kw_H → Prop) (x0 : Nat) (x1 : Int32) (x2 : Int32) (x3 : Int32) (x4 : Int32) (x5 : Int32) (x6 : Int32) (x7 : Int32) (hp : kw_H) (r : ((Int32 × kw_H) ⊕ (Int32 × kw_H))) (h : X12_copy_b107 x0 x1 x2 x3 x4 x5 x6 x7 hp = some r) (hK : X12_copy_K107 G Q x0 x1 x2 x3 x4 x5 x6 r) : kw_V G mX12_copy 107 [some (.ref x0), some (.int x1), some (.int x2), some (.int x3), some (.int x4), some (.int x5), some (.int x6), some (.int x7), none] [] hp Q := by
  unfold X12_copy_b107 at h
  refine kw_iload dX12_copy_107 rfl ?_
  refine kw_iload dX12_copy_109 rfl ?_
  refine kw_icmp_ge 168 dX12_copy_111 (by decide) (fun c22 => ?_) (fun c22 => ?_)
  · have h := (if_pos c22).symm.trans h
    refine kw_mask [true, false, false, false, false, true, false, false, true] (L' := [some (.ref x0), none, none, none, none, some (.int x5), none, none, none]) rfl ?_
    obtain ⟨r16, hr16, hrr16⟩ := Option.map_eq_some_iff.mp h
    subst hrr16
    exact X12_copy_J168_t G Q hp x0 x5 r16 hr16 hK
  · have h := (if_neg c22).symm.trans h
    refine kw_iload dX12_copy_114 rfl ?_
    refine kw_if_eq 129 dX12_copy_116 (by decide) (fun c21 => ?_) (fun c21 => ?_)
    · have h := (if_pos c21).symm.trans h
      refine kw_iload dX12_copy_129 rfl ?_
      exact X12_copy_J131_t G Q hp x0 x1 x2 x3 x4 x5 x6 x7 x7 _ h hK
    · have h := (if_neg c21).symm.trans h
      refine kw_iload dX12_copy_119 rfl ?_
      refine kw_iconst (v := nI 1) dX12_copy_121 (by decide) ?_
      refine kw_isub dX12_copy_122 ?_
      refine kw_iload dX12_copy_123 rfl ?_
      refine kw_isub dX12_copy_125 ?_
      refine kw_goto 131 dX12_copy_126 (by decide) ?_
      exact X12_copy_J131_t G Q hp x0 x1 x2 x3 x4 x5 x6 x7 ((x5 - (nI 1)) - x7) _ h hK
def X12_copy_B107 (x0 : Nat) (x1 : Int32) (x2 : Int32) (x3 : Int32) (x4 : Int32) (x5 : Int32) (x6 : Int32) (z : Int32 × kw_H) : Option (((Int32 × kw_H) ⊕ (Int32 × kw_H))) := X12_copy_b107 x0 x1 x2 x3 x4 x5 x6 z.1 z.2
theorem X12_copy_L107_t (G : kw_G) (Q : Option Value → kw_H → Prop) (x0 : Nat) (x1 : Int32) (x2 : Int32) (x3 : Int32) (x4 : Int32) (x5 : Int32) (x6 : Int32) (n : Nat) (z : Int32 × kw_H) (r : Int32 × kw_H) (h : kp_lp (X12_copy_B107 x0 x1 x2 x3 x4 x5 x6) n z = some r) (hK : Q (some (.int r.1)) r.2) : kw_V G mX12_copy 107 [some (.ref x0), some (.int x1), some (.int x2), some (.int x3), some (.int x4), some (.int x5), some (.int x6), some (.int z.1), none] [] z.2 Q :=
  kv_lp _ (fun z => kw_V G mX12_copy 107 [some (.ref x0), some (.int x1), some (.int x2), some (.int x3), some (.int x4), some (.int x5), some (.int x6), some (.int z.1), none] [] z.2 Q) (fun r => Q (some (.int r.1)) r.2) (fun z x hb hx => X12_copy_b107_t G Q x0 x1 x2 x3 x4 x5 x6 z.1 z.2 x hb (by cases x <;> exact hx)) n z r h hK
def X12_copy_J102 (hp : kw_H) (x0 : Nat) (x1 : Int32) (x2 : Int32) (x3 : Int32) (x4 : Int32) (x5 : Int32) (s0 : Int32) : Option (Int32 × kw_H) :=
  kp_lp (X12_copy_B107 x0 x1 x2 x3 x4 x5 s0) 2000 (nI 0, hp)
set_option maxRecDepth 100000 in
set_option maxHeartbeats 4000000 in
theorem X12_copy_J102_t (G : kw_G) (Q : Option Value → kw_H → Prop) (hp : kw_H) (x0 : Nat) (x1 : Int32) (x2 : Int32) (x3 : Int32) (x4 : Int32) (x5 : Int32) (s0 : Int32) (r : Int32 × kw_H) (h : X12_copy_J102 hp x0 x1 x2 x3 x4 x5 s0 = some r) (hK : Q (some (.int r.1)) r.2) : kw_V G mX12_copy 102 [some (.ref x0), some (.int x1), some (.int x2), some (.int x3), some (.int x4), some (.int x5), none, none, none] [.int s0] hp Q := by
  unfold X12_copy_J102 at h
  refine kw_istore (L' := [some (.ref x0), some (.int x1), some (.int x2), some (.int x3), some (.int x4), some (.int x5), some (.int s0), none, none]) dX12_copy_102 (by decide) rfl ?_
  refine kw_iconst (v := nI 0) dX12_copy_104 (by decide) ?_
  refine kw_istore (L' := [some (.ref x0), some (.int x1), some (.int x2), some (.int x3), some (.int x4), some (.int x5), some (.int s0), some (.int (nI 0)), none]) dX12_copy_105 (by decide) rfl ?_
  exact X12_copy_L107_t G Q x0 x1 x2 x3 x4 x5 s0 _ (nI 0, hp) _ h hK
def X12_copy_F (hp : kw_H) (x0 : Nat) (x1 : Int32) (x2 : Int32) (x3 : Int32) (x4 : Int32) (x5 : Int32) : Option (Int32 × kw_H) :=
  (X12_isRow_F hp x1).bind fun r1 =>
  (if r1 = 0 then
  some (((-1000001), hp))
else
  (X12_isRow_F hp x3).bind fun r2 =>
  (if r2 = 0 then
  some (((-1000001), hp))
else
  (kp_gR hp x0 [11] 5).bind fun v3 =>
  (kp_ldI hp v3 x1).bind fun v4 =>
  (if v4 < 0 then
  X12_copy_J35 hp x0
else
  (kp_gR hp x0 [11] 5).bind fun v6 =>
  (kp_ldI hp v6 x3).bind fun v7 =>
  (if 0 ≤ v7 then
  (kp_gR hp x0 [11] 4).bind fun v8 =>
  (kp_ldI hp v8 x1).bind fun v9 =>
  (kp_gR hp x0 [11] 4).bind fun v10 =>
  (kp_ldI hp v10 x3).bind fun v11 =>
  (if v9 = v11 then
  ((kp_ob hp x0 11).bind fun _ => X12_isSpan_F hp x0 x1 x2 x5).bind fun r12 =>
  (if r12 = 0 then
  X12_copy_J85 hp x0
else
  ((kp_ob hp x0 11).bind fun _ => X12_isSpan_F hp x0 x3 x4 x5).bind fun r14 =>
  (if r14 = 0 then
  X12_copy_J85 hp x0
else
  (if x4 ≤ x2 then
  X12_copy_J102 hp x0 x1 x2 x3 x4 x5 (nI 0)
else
  X12_copy_J102 hp x0 x1 x2 x3 x4 x5 (nI 1))))
else
  ((kp_ob hp x0 11).bind fun _ => X12_find_F hp x0 (nI 5)).bind fun r26 =>
  some ((r26.1, r26.2)))
else
  X12_copy_J35 hp x0))))
set_option maxRecDepth 100000 in
set_option maxHeartbeats 4000000 in
theorem X12_copy_c (G : kw_G) (hp : kw_H) (x0 : Nat) (x1 : Int32) (x2 : Int32) (x3 : Int32) (x4 : Int32) (x5 : Int32) (r : Int32 × kw_H) (h : X12_copy_F hp x0 x1 x2 x3 x4 x5 = some r) : kw_Met G mX12_copy [.ref x0, .int x1, .int x2, .int x3, .int x4, .int x5] hp (fun v h2 => v = some (.int r.1) ∧ h2 = r.2) := by
  refine kw_met (L := [some (.ref x0), some (.int x1), some (.int x2), some (.int x3), some (.int x4), some (.int x5), none, none, none]) (r := 3) (by decide +kernel) (Nat.le_of_ble_eq_true rfl) rfl ?_
  unfold X12_copy_F at h
  obtain ⟨Q, hQ⟩ : ∃ Q : Option Value → kw_H → Prop, Q = (fun v h2 => v = some (.int r.1) ∧ h2 = r.2) := ⟨_, rfl⟩
  have hK : Q (some (.int r.1)) r.2 := by rw [hQ]; exact ⟨rfl, rfl⟩
  rw [← hQ]
  clear hQ
  refine kw_iload_n dX12_copy_0 rfl ?_
  obtain ⟨r1, er1, h⟩ := Option.bind_eq_some_iff.mp h
  refine kw_callS (As := [.int x1]) (S := []) cbX12_copy_X12_isRow lkX12_46 stX12_isRow rfl rfl (Nat.le_of_ble_eq_true rfl) dX12_copy_1 (X12_isRow_c G hp x1 _ er1) (fun vv hh hq => ?_)
  rw [hq.1, hq.2]
  show kw_V G mX12_copy 4 [some (.ref x0), some (.int x1), some (.int x2), some (.int x3), some (.int x4), some (.int x5), none, none, none] [.int r1] hp Q
  refine kw_if_eq 14 dX12_copy_4 (by decide) (fun c31 => ?_) (fun c31 => ?_)
  · have h := (if_pos c31).symm.trans h
    refine kw_ldc (v := (-1000001)) dX12_copy_14 ckX12_52 ?_
    have h := Option.some.inj h
    subst h
    exact kw_iret rfl dX12_copy_16 hK
  · have h := (if_neg c31).symm.trans h
    refine kw_iload_n dX12_copy_7 rfl ?_
    obtain ⟨r2, er2, h⟩ := Option.bind_eq_some_iff.mp h
    refine kw_callS (As := [.int x3]) (S := []) cbX12_copy_X12_isRow lkX12_46 stX12_isRow rfl rfl (Nat.le_of_ble_eq_true rfl) dX12_copy_8 (X12_isRow_c G hp x3 _ er2) (fun vv hh hq => ?_)
    rw [hq.1, hq.2]
    show kw_V G mX12_copy 11 [some (.ref x0), some (.int x1), some (.int x2), some (.int x3), some (.int x4), some (.int x5), none, none, none] [.int r2] hp Q
    refine kw_if_ne 17 dX12_copy_11 (by decide) (fun c30 => ?_) (fun c30 => ?_)
    · have h := (if_neg c30).symm.trans h
      refine kw_aload_n dX12_copy_17 rfl ?_
      obtain ⟨v3, ev3, h⟩ := Option.bind_eq_some_iff.mp h
      refine kv_gR gfX12_20 dX12_copy_18 ev3 ?_
      refine kw_iload_n dX12_copy_21 rfl ?_
      obtain ⟨v4, ev4, h⟩ := Option.bind_eq_some_iff.mp h
      refine kv_ldI dX12_copy_22 ev4 ?_
      refine kw_if_lt 35 dX12_copy_23 (by decide) (fun c29 => ?_) (fun c29 => ?_)
      · have h := (if_pos c29).symm.trans h
        refine kw_mask [true, false, false, false, false, false, true, true, true] (L' := [some (.ref x0), none, none, none, none, none, none, none, none]) rfl ?_
        exact X12_copy_J35_t G Q hp x0 _ h hK
      · have h := (if_neg c29).symm.trans h
        refine kw_aload_n dX12_copy_26 rfl ?_
        obtain ⟨v6, ev6, h⟩ := Option.bind_eq_some_iff.mp h
        refine kv_gR gfX12_20 dX12_copy_27 ev6 ?_
        refine kw_iload_n dX12_copy_30 rfl ?_
        obtain ⟨v7, ev7, h⟩ := Option.bind_eq_some_iff.mp h
        refine kv_ldI dX12_copy_31 ev7 ?_
        refine kw_if_ge 41 dX12_copy_32 (by decide) (fun c28 => ?_) (fun c28 => ?_)
        · have h := (if_pos c28).symm.trans h
          refine kw_aload_n dX12_copy_41 rfl ?_
          obtain ⟨v8, ev8, h⟩ := Option.bind_eq_some_iff.mp h
          refine kv_gR gfX12_17 dX12_copy_42 ev8 ?_
          refine kw_iload_n dX12_copy_45 rfl ?_
          obtain ⟨v9, ev9, h⟩ := Option.bind_eq_some_iff.mp h
          refine kv_ldI dX12_copy_46 ev9 ?_
          refine kw_aload_n dX12_copy_47 rfl ?_
          obtain ⟨v10, ev10, h⟩ := Option.bind_eq_some_iff.mp h
          refine kv_gR gfX12_17 dX12_copy_48 ev10 ?_
          refine kw_iload_n dX12_copy_51 rfl ?_
          obtain ⟨v11, ev11, h⟩ := Option.bind_eq_some_iff.mp h
          refine kv_ldI dX12_copy_52 ev11 ?_
          refine kw_icmp_eq 62 dX12_copy_53 (by decide) (fun c27 => ?_) (fun c27 => ?_)
          · have h := (if_pos c27).symm.trans h
            refine kw_aload_n dX12_copy_62 rfl ?_
            refine kw_iload_n dX12_copy_63 rfl ?_
            refine kw_iload_n dX12_copy_64 rfl ?_
            refine kw_iload dX12_copy_65 rfl ?_
            obtain ⟨r12, er12, h⟩ := Option.bind_eq_some_iff.mp h
            obtain ⟨ur12, eur12, er12⟩ := Option.bind_eq_some_iff.mp er12
            obtain ⟨fsr12, hor12⟩ := kp_ob_inv eur12
            refine kw_callV (As := [.int x1, .int x2, .int x5]) (S := []) kcX12 cbX12_copy_X12_isSpan lkX12_64 imX12_isSpan seX12_X12_isSpan_X12_isSpan rfl rfl (Nat.le_of_ble_eq_true rfl) dX12_copy_67 hor12 (X12_isSpan_c G hp x0 x1 x2 x5 _ er12) (fun vv hh hq => ?_)
            rw [hq.1, hq.2]
            show kw_V G mX12_copy 70 [some (.ref x0), some (.int x1), some (.int x2), some (.int x3), some (.int x4), some (.int x5), none, none, none] [.int r12] hp Q
            refine kw_if_eq 85 dX12_copy_70 (by decide) (fun c25 => ?_) (fun c25 => ?_)
            · have h := (if_pos c25).symm.trans h
              refine kw_mask [true, false, false, false, false, false, true, true, true] (L' := [some (.ref x0), none, none, none, none, none, none, none, none]) rfl ?_
              exact X12_copy_J85_t G Q hp x0 _ h hK
            · have h := (if_neg c25).symm.trans h
              refine kw_aload_n dX12_copy_73 rfl ?_
              refine kw_iload_n dX12_copy_74 rfl ?_
              refine kw_iload dX12_copy_75 rfl ?_
              refine kw_iload dX12_copy_77 rfl ?_
              obtain ⟨r14, er14, h⟩ := Option.bind_eq_some_iff.mp h
              obtain ⟨ur14, eur14, er14⟩ := Option.bind_eq_some_iff.mp er14
              obtain ⟨fsr14, hor14⟩ := kp_ob_inv eur14
              refine kw_callV (As := [.int x3, .int x4, .int x5]) (S := []) kcX12 cbX12_copy_X12_isSpan lkX12_64 imX12_isSpan seX12_X12_isSpan_X12_isSpan rfl rfl (Nat.le_of_ble_eq_true rfl) dX12_copy_79 hor14 (X12_isSpan_c G hp x0 x3 x4 x5 _ er14) (fun vv hh hq => ?_)
              rw [hq.1, hq.2]
              show kw_V G mX12_copy 82 [some (.ref x0), some (.int x1), some (.int x2), some (.int x3), some (.int x4), some (.int x5), none, none, none] [.int r14] hp Q
              refine kw_if_ne 91 dX12_copy_82 (by decide) (fun c24 => ?_) (fun c24 => ?_)
              · have h := (if_neg c24).symm.trans h
                refine kw_iload_n dX12_copy_91 rfl ?_
                refine kw_iload dX12_copy_92 rfl ?_
                refine kw_icmp_ge 101 dX12_copy_94 (by decide) (fun c23 => ?_) (fun c23 => ?_)
                · have h := (if_pos c23).symm.trans h
                  refine kw_iconst (v := nI 0) dX12_copy_101 (by decide) ?_
                  exact X12_copy_J102_t G Q hp x0 x1 x2 x3 x4 x5 (nI 0) _ h hK
                · have h := (if_neg c23).symm.trans h
                  refine kw_iconst (v := nI 1) dX12_copy_97 (by decide) ?_
                  refine kw_goto 102 dX12_copy_98 (by decide) ?_
                  exact X12_copy_J102_t G Q hp x0 x1 x2 x3 x4 x5 (nI 1) _ h hK
              · have h := (if_pos c24).symm.trans h
                refine kw_mask [true, false, false, false, false, false, true, true, true] (L' := [some (.ref x0), none, none, none, none, none, none, none, none]) rfl ?_
                exact X12_copy_J85_t G Q hp x0 _ h hK
          · have h := (if_neg c27).symm.trans h
            refine kw_aload_n dX12_copy_56 rfl ?_
            refine kw_iconst (v := nI 5) dX12_copy_57 (by decide) ?_
            obtain ⟨r26, er26, h⟩ := Option.bind_eq_some_iff.mp h
            obtain ⟨ur26, eur26, er26⟩ := Option.bind_eq_some_iff.mp er26
            obtain ⟨fsr26, hor26⟩ := kp_ob_inv eur26
            refine kw_callV (As := [.int (nI 5)]) (S := []) kcX12 cbX12_copy_X12_find lkX12_53 imX12_find seX12_X12_find_X12_find rfl rfl (Nat.le_of_ble_eq_true rfl) dX12_copy_58 hor26 (X12_find_c G hp x0 (nI 5) _ er26) (fun vv hh hq => ?_)
            rw [hq.1, hq.2]
            show kw_V G mX12_copy 61 [some (.ref x0), some (.int x1), some (.int x2), some (.int x3), some (.int x4), some (.int x5), none, none, none] [.int r26.1] r26.2 Q
            have h := Option.some.inj h
            subst h
            exact kw_iret rfl dX12_copy_61 hK
        · have h := (if_neg c28).symm.trans h
          refine kw_mask [true, false, false, false, false, false, true, true, true] (L' := [some (.ref x0), none, none, none, none, none, none, none, none]) rfl ?_
          exact X12_copy_J35_t G Q hp x0 _ h hK
    · have h := (if_pos c30).symm.trans h
      refine kw_ldc (v := (-1000001)) dX12_copy_14 ckX12_52 ?_
      have h := Option.some.inj h
      subst h
      exact kw_iret rfl dX12_copy_16 hK
