/-! KitchenWheels.copy(IIIII)I -/
def X11_copy_J39 (hp : kw_H) (x0 : Nat) : Option (Int32 × kw_H) :=
  ((kp_ob hp x0 10).bind fun _ => X11_finding_F hp x0 (nI 1)).bind fun r5 =>
  some ((r5.1, r5.2))
set_option maxRecDepth 100000 in
set_option maxHeartbeats 4000000 in
theorem X11_copy_J39_t (G : kw_G) (Q : Option Value → kw_H → Prop) (hp : kw_H) (x0 : Nat) (r : Int32 × kw_H) (h : X11_copy_J39 hp x0 = some r) (hK : Q (some (.int r.1)) r.2) : kw_V G mX11_copy 39 [some (.ref x0), none, none, none, none, none] [] hp Q := by
  unfold X11_copy_J39 at h
  refine kw_aload_n dX11_copy_39 rfl ?_
  refine kw_iconst (v := nI 1) dX11_copy_40 (by decide) ?_
  obtain ⟨r5, er5, h⟩ := Option.bind_eq_some_iff.mp h
  obtain ⟨ur5, eur5, er5⟩ := Option.bind_eq_some_iff.mp er5
  obtain ⟨fsr5, hor5⟩ := kp_ob_inv eur5
  refine kw_callV (As := [.int (nI 1)]) (S := []) kcX11 cbX11_copy_X11_finding lkX11_60 imX11_finding seX11_X11_finding_X11_finding rfl rfl (Nat.le_of_ble_eq_true rfl) dX11_copy_41 hor5 (X11_finding_c G hp x0 (nI 1) _ er5) (fun vv hh hq => ?_)
  rw [hq.1, hq.2]
  show kw_V G mX11_copy 44 [some (.ref x0), none, none, none, none, none] [.int r5.1] r5.2 Q
  have h := Option.some.inj h
  subst h
  exact kw_iret rfl dX11_copy_44 hK
def X11_copy_J99 (hp : kw_H) (x0 : Nat) : Option (Int32 × kw_H) :=
  ((kp_ob hp x0 10).bind fun _ => X11_finding_F hp x0 (nI 2)).bind fun r14 =>
  some ((r14.1, r14.2))
set_option maxRecDepth 100000 in
set_option maxHeartbeats 4000000 in
theorem X11_copy_J99_t (G : kw_G) (Q : Option Value → kw_H → Prop) (hp : kw_H) (x0 : Nat) (r : Int32 × kw_H) (h : X11_copy_J99 hp x0 = some r) (hK : Q (some (.int r.1)) r.2) : kw_V G mX11_copy 99 [some (.ref x0), none, none, none, none, none] [] hp Q := by
  unfold X11_copy_J99 at h
  refine kw_aload_n dX11_copy_99 rfl ?_
  refine kw_iconst (v := nI 2) dX11_copy_100 (by decide) ?_
  obtain ⟨r14, er14, h⟩ := Option.bind_eq_some_iff.mp h
  obtain ⟨ur14, eur14, er14⟩ := Option.bind_eq_some_iff.mp er14
  obtain ⟨fsr14, hor14⟩ := kp_ob_inv eur14
  refine kw_callV (As := [.int (nI 2)]) (S := []) kcX11 cbX11_copy_X11_finding lkX11_60 imX11_finding seX11_X11_finding_X11_finding rfl rfl (Nat.le_of_ble_eq_true rfl) dX11_copy_101 hor14 (X11_finding_c G hp x0 (nI 2) _ er14) (fun vv hh hq => ?_)
  rw [hq.1, hq.2]
  show kw_V G mX11_copy 104 [some (.ref x0), none, none, none, none, none] [.int r14.1] r14.2 Q
  have h := Option.some.inj h
  subst h
  exact kw_iret rfl dX11_copy_104 hK
def X11_copy_F (hp : kw_H) (x0 : Nat) (x1 : Int32) (x2 : Int32) (x3 : Int32) (x4 : Int32) (x5 : Int32) : Option (Int32 × kw_H) :=
  (X6_isRow_F hp x1).bind fun r1 =>
  (if r1 = 0 then
  some (((-1000001), hp))
else
  (X6_isRow_F hp x3).bind fun r2 =>
  (if r2 = 0 then
  some (((-1000001), hp))
else
  (kp_gR hp x0 [10] 0).bind fun v3 =>
  ((kp_ob hp v3 6).bind fun _ => X6_isMissing_F hp v3 x1).bind fun r4 =>
  (if r4 = 0 then
  (kp_gR hp x0 [10] 0).bind fun v6 =>
  ((kp_ob hp v6 6).bind fun _ => X6_isMissing_F hp v6 x3).bind fun r7 =>
  (if r7 = 0 then
  (kp_gR hp x0 [10] 0).bind fun v8 =>
  ((kp_ob hp v8 6).bind fun _ => X6_laneOf_F hp v8 x1).bind fun r9 =>
  (kp_gR hp x0 [10] 0).bind fun v10 =>
  ((kp_ob hp v10 6).bind fun _ => X6_laneOf_F hp v10 x3).bind fun r11 =>
  (if r9 = r11 then
  (kp_gR hp x0 [10] 0).bind fun v12 =>
  ((kp_ob hp v12 6).bind fun _ => X6_findingAt_F hp v12 x1 x2 x5).bind fun r13 =>
  (if r13 = 0 then
  (kp_gR hp x0 [10] 0).bind fun v15 =>
  ((kp_ob hp v15 6).bind fun _ => X6_findingAt_F hp v15 x3 x4 x5).bind fun r16 =>
  (if r16 = 0 then
  (kp_gR hp x0 [10] 0).bind fun v17 =>
  ((kp_ob hp v17 6).bind fun _ => X6_move_F hp v17 x1 x2 x3 x4 x5).bind fun r18 =>
  ((kp_ob r18 x0 10).bind fun _ => X11_unfound_F r18 x0 x5).bind fun r19 =>
  some ((r19.1, r19.2))
else
  X11_copy_J99 hp x0)
else
  X11_copy_J99 hp x0)
else
  ((kp_ob hp x0 10).bind fun _ => X11_finding_F hp x0 (nI 5)).bind fun r22 =>
  some ((r22.1, r22.2)))
else
  X11_copy_J39 hp x0)
else
  X11_copy_J39 hp x0)))
set_option maxRecDepth 100000 in
set_option maxHeartbeats 4000000 in
theorem X11_copy_c (G : kw_G) (hp : kw_H) (x0 : Nat) (x1 : Int32) (x2 : Int32) (x3 : Int32) (x4 : Int32) (x5 : Int32) (r : Int32 × kw_H) (h : X11_copy_F hp x0 x1 x2 x3 x4 x5 = some r) : kw_Met G mX11_copy [.ref x0, .int x1, .int x2, .int x3, .int x4, .int x5] hp (fun v h2 => v = some (.int r.1) ∧ h2 = r.2) := by
  refine kw_met (L := [some (.ref x0), some (.int x1), some (.int x2), some (.int x3), some (.int x4), some (.int x5)]) (r := 0) (by decide +kernel) (Nat.le_of_ble_eq_true rfl) rfl ?_
  unfold X11_copy_F at h
  obtain ⟨Q, hQ⟩ : ∃ Q : Option Value → kw_H → Prop, Q = (fun v h2 => v = some (.int r.1) ∧ h2 = r.2) := ⟨_, rfl⟩
  have hK : Q (some (.int r.1)) r.2 := by rw [hQ]; exact ⟨rfl, rfl⟩
  rw [← hQ]
  clear hQ
  refine kw_iload_n dX11_copy_0 rfl ?_
  obtain ⟨r1, er1, h⟩ := Option.bind_eq_some_iff.mp h
  refine kw_callS (As := [.int x1]) (S := []) cbX11_copy_X6_isRow lkX11_51 stX6_isRow rfl rfl (Nat.le_of_ble_eq_true rfl) dX11_copy_1 (X6_isRow_c G hp x1 _ er1) (fun vv hh hq => ?_)
  rw [hq.1, hq.2]
  show kw_V G mX11_copy 4 [some (.ref x0), some (.int x1), some (.int x2), some (.int x3), some (.int x4), some (.int x5)] [.int r1] hp Q
  refine kw_if_eq 14 dX11_copy_4 (by decide) (fun c27 => ?_) (fun c27 => ?_)
  · have h := (if_pos c27).symm.trans h
    refine kw_ldc (v := (-1000001)) dX11_copy_14 ckX11_59 ?_
    have h := Option.some.inj h
    subst h
    exact kw_iret rfl dX11_copy_16 hK
  · have h := (if_neg c27).symm.trans h
    refine kw_iload_n dX11_copy_7 rfl ?_
    obtain ⟨r2, er2, h⟩ := Option.bind_eq_some_iff.mp h
    refine kw_callS (As := [.int x3]) (S := []) cbX11_copy_X6_isRow lkX11_51 stX6_isRow rfl rfl (Nat.le_of_ble_eq_true rfl) dX11_copy_8 (X6_isRow_c G hp x3 _ er2) (fun vv hh hq => ?_)
    rw [hq.1, hq.2]
    show kw_V G mX11_copy 11 [some (.ref x0), some (.int x1), some (.int x2), some (.int x3), some (.int x4), some (.int x5)] [.int r2] hp Q
    refine kw_if_ne 17 dX11_copy_11 (by decide) (fun c26 => ?_) (fun c26 => ?_)
    · have h := (if_neg c26).symm.trans h
      refine kw_aload_n dX11_copy_17 rfl ?_
      obtain ⟨v3, ev3, h⟩ := Option.bind_eq_some_iff.mp h
      refine kv_gR gfX11_10 dX11_copy_18 ev3 ?_
      refine kw_iload_n dX11_copy_21 rfl ?_
      obtain ⟨r4, er4, h⟩ := Option.bind_eq_some_iff.mp h
      obtain ⟨ur4, eur4, er4⟩ := Option.bind_eq_some_iff.mp er4
      obtain ⟨fsr4, hor4⟩ := kp_ob_inv eur4
      refine kw_callV (As := [.int x1]) (S := []) kcX6 cbX11_copy_X6_isMissing lkX11_78 imX6_isMissing seX6_X6_isMissing_X6_isMissing rfl rfl (Nat.le_of_ble_eq_true rfl) dX11_copy_22 hor4 (X6_isMissing_c G hp v3 x1 _ er4) (fun vv hh hq => ?_)
      rw [hq.1, hq.2]
      show kw_V G mX11_copy 25 [some (.ref x0), some (.int x1), some (.int x2), some (.int x3), some (.int x4), some (.int x5)] [.int r4] hp Q
      refine kw_if_ne 39 dX11_copy_25 (by decide) (fun c25 => ?_) (fun c25 => ?_)
      · have h := (if_neg c25).symm.trans h
        refine kw_mask [true, false, false, false, false, false] (L' := [some (.ref x0), none, none, none, none, none]) rfl ?_
        exact X11_copy_J39_t G Q hp x0 _ h hK
      · have h := (if_pos c25).symm.trans h
        refine kw_aload_n dX11_copy_28 rfl ?_
        obtain ⟨v6, ev6, h⟩ := Option.bind_eq_some_iff.mp h
        refine kv_gR gfX11_10 dX11_copy_29 ev6 ?_
        refine kw_iload_n dX11_copy_32 rfl ?_
        obtain ⟨r7, er7, h⟩ := Option.bind_eq_some_iff.mp h
        obtain ⟨ur7, eur7, er7⟩ := Option.bind_eq_some_iff.mp er7
        obtain ⟨fsr7, hor7⟩ := kp_ob_inv eur7
        refine kw_callV (As := [.int x3]) (S := []) kcX6 cbX11_copy_X6_isMissing lkX11_78 imX6_isMissing seX6_X6_isMissing_X6_isMissing rfl rfl (Nat.le_of_ble_eq_true rfl) dX11_copy_33 hor7 (X6_isMissing_c G hp v6 x3 _ er7) (fun vv hh hq => ?_)
        rw [hq.1, hq.2]
        show kw_V G mX11_copy 36 [some (.ref x0), some (.int x1), some (.int x2), some (.int x3), some (.int x4), some (.int x5)] [.int r7] hp Q
        refine kw_if_eq 45 dX11_copy_36 (by decide) (fun c24 => ?_) (fun c24 => ?_)
        · have h := (if_pos c24).symm.trans h
          refine kw_aload_n dX11_copy_45 rfl ?_
          obtain ⟨v8, ev8, h⟩ := Option.bind_eq_some_iff.mp h
          refine kv_gR gfX11_10 dX11_copy_46 ev8 ?_
          refine kw_iload_n dX11_copy_49 rfl ?_
          obtain ⟨r9, er9, h⟩ := Option.bind_eq_some_iff.mp h
          obtain ⟨ur9, eur9, er9⟩ := Option.bind_eq_some_iff.mp er9
          obtain ⟨fsr9, hor9⟩ := kp_ob_inv eur9
          refine kw_callV (As := [.int x1]) (S := []) kcX6 cbX11_copy_X6_laneOf lkX11_81 imX6_laneOf seX6_X6_laneOf_X6_laneOf rfl rfl (Nat.le_of_ble_eq_true rfl) dX11_copy_50 hor9 (X6_laneOf_c G hp v8 x1 _ er9) (fun vv hh hq => ?_)
          rw [hq.1, hq.2]
          show kw_V G mX11_copy 53 [some (.ref x0), some (.int x1), some (.int x2), some (.int x3), some (.int x4), some (.int x5)] [.int r9] hp Q
          refine kw_aload_n dX11_copy_53 rfl ?_
          obtain ⟨v10, ev10, h⟩ := Option.bind_eq_some_iff.mp h
          refine kv_gR gfX11_10 dX11_copy_54 ev10 ?_
          refine kw_iload_n dX11_copy_57 rfl ?_
          obtain ⟨r11, er11, h⟩ := Option.bind_eq_some_iff.mp h
          obtain ⟨ur11, eur11, er11⟩ := Option.bind_eq_some_iff.mp er11
          obtain ⟨fsr11, hor11⟩ := kp_ob_inv eur11
          refine kw_callV (As := [.int x3]) (S := [.int r9]) kcX6 cbX11_copy_X6_laneOf lkX11_81 imX6_laneOf seX6_X6_laneOf_X6_laneOf rfl rfl (Nat.le_of_ble_eq_true rfl) dX11_copy_58 hor11 (X6_laneOf_c G hp v10 x3 _ er11) (fun vv hh hq => ?_)
          rw [hq.1, hq.2]
          show kw_V G mX11_copy 61 [some (.ref x0), some (.int x1), some (.int x2), some (.int x3), some (.int x4), some (.int x5)] [.int r11, .int r9] hp Q
          refine kw_icmp_eq 70 dX11_copy_61 (by decide) (fun c23 => ?_) (fun c23 => ?_)
          · have h := (if_pos c23).symm.trans h
            refine kw_aload_n dX11_copy_70 rfl ?_
            obtain ⟨v12, ev12, h⟩ := Option.bind_eq_some_iff.mp h
            refine kv_gR gfX11_10 dX11_copy_71 ev12 ?_
            refine kw_iload_n dX11_copy_74 rfl ?_
            refine kw_iload_n dX11_copy_75 rfl ?_
            refine kw_iload dX11_copy_76 rfl ?_
            obtain ⟨r13, er13, h⟩ := Option.bind_eq_some_iff.mp h
            obtain ⟨ur13, eur13, er13⟩ := Option.bind_eq_some_iff.mp er13
            obtain ⟨fsr13, hor13⟩ := kp_ob_inv eur13
            refine kw_callV (As := [.int x1, .int x2, .int x5]) (S := []) kcX6 cbX11_copy_X6_findingAt lkX11_71 imX6_findingAt seX6_X6_findingAt_X6_findingAt rfl rfl (Nat.le_of_ble_eq_true rfl) dX11_copy_78 hor13 (X6_findingAt_c G hp v12 x1 x2 x5 _ er13) (fun vv hh hq => ?_)
            rw [hq.1, hq.2]
            show kw_V G mX11_copy 81 [some (.ref x0), some (.int x1), some (.int x2), some (.int x3), some (.int x4), some (.int x5)] [.int r13] hp Q
            refine kw_if_ne 99 dX11_copy_81 (by decide) (fun c21 => ?_) (fun c21 => ?_)
            · have h := (if_neg c21).symm.trans h
              refine kw_mask [true, false, false, false, false, false] (L' := [some (.ref x0), none, none, none, none, none]) rfl ?_
              exact X11_copy_J99_t G Q hp x0 _ h hK
            · have h := (if_pos c21).symm.trans h
              refine kw_aload_n dX11_copy_84 rfl ?_
              obtain ⟨v15, ev15, h⟩ := Option.bind_eq_some_iff.mp h
              refine kv_gR gfX11_10 dX11_copy_85 ev15 ?_
              refine kw_iload_n dX11_copy_88 rfl ?_
              refine kw_iload dX11_copy_89 rfl ?_
              refine kw_iload dX11_copy_91 rfl ?_
              obtain ⟨r16, er16, h⟩ := Option.bind_eq_some_iff.mp h
              obtain ⟨ur16, eur16, er16⟩ := Option.bind_eq_some_iff.mp er16
              obtain ⟨fsr16, hor16⟩ := kp_ob_inv eur16
              refine kw_callV (As := [.int x3, .int x4, .int x5]) (S := []) kcX6 cbX11_copy_X6_findingAt lkX11_71 imX6_findingAt seX6_X6_findingAt_X6_findingAt rfl rfl (Nat.le_of_ble_eq_true rfl) dX11_copy_93 hor16 (X6_findingAt_c G hp v15 x3 x4 x5 _ er16) (fun vv hh hq => ?_)
              rw [hq.1, hq.2]
              show kw_V G mX11_copy 96 [some (.ref x0), some (.int x1), some (.int x2), some (.int x3), some (.int x4), some (.int x5)] [.int r16] hp Q
              refine kw_if_eq 105 dX11_copy_96 (by decide) (fun c20 => ?_) (fun c20 => ?_)
              · have h := (if_pos c20).symm.trans h
                refine kw_aload_n dX11_copy_105 rfl ?_
                obtain ⟨v17, ev17, h⟩ := Option.bind_eq_some_iff.mp h
                refine kv_gR gfX11_10 dX11_copy_106 ev17 ?_
                refine kw_iload_n dX11_copy_109 rfl ?_
                refine kw_iload_n dX11_copy_110 rfl ?_
                refine kw_iload_n dX11_copy_111 rfl ?_
                refine kw_iload dX11_copy_112 rfl ?_
                refine kw_iload dX11_copy_114 rfl ?_
                obtain ⟨r18, er18, h⟩ := Option.bind_eq_some_iff.mp h
                obtain ⟨ur18, eur18, er18⟩ := Option.bind_eq_some_iff.mp er18
                obtain ⟨fsr18, hor18⟩ := kp_ob_inv eur18
                refine kw_callV (As := [.int x1, .int x2, .int x3, .int x4, .int x5]) (S := []) kcX6 cbX11_copy_X6_move lkX11_84 imX6_move seX6_X6_move_X6_move rfl rfl (Nat.le_of_ble_eq_true rfl) dX11_copy_116 hor18 (X6_move_c G hp v17 x1 x2 x3 x4 x5 _ er18) (fun vv hh hq => ?_)
                rw [hq.1, hq.2]
                show kw_V G mX11_copy 119 [some (.ref x0), some (.int x1), some (.int x2), some (.int x3), some (.int x4), some (.int x5)] [] r18 Q
                refine kw_aload_n dX11_copy_119 rfl ?_
                refine kw_iload dX11_copy_120 rfl ?_
                obtain ⟨r19, er19, h⟩ := Option.bind_eq_some_iff.mp h
                obtain ⟨ur19, eur19, er19⟩ := Option.bind_eq_some_iff.mp er19
                obtain ⟨fsr19, hor19⟩ := kp_ob_inv eur19
                refine kw_callV (As := [.int x5]) (S := []) kcX11 cbX11_copy_X11_unfound lkX11_68 imX11_unfound seX11_X11_unfound_X11_unfound rfl rfl (Nat.le_of_ble_eq_true rfl) dX11_copy_122 hor19 (X11_unfound_c G r18 x0 x5 _ er19) (fun vv hh hq => ?_)
                rw [hq.1, hq.2]
                show kw_V G mX11_copy 125 [some (.ref x0), some (.int x1), some (.int x2), some (.int x3), some (.int x4), some (.int x5)] [.int r19.1] r19.2 Q
                have h := Option.some.inj h
                subst h
                exact kw_iret rfl dX11_copy_125 hK
              · have h := (if_neg c20).symm.trans h
                refine kw_mask [true, false, false, false, false, false] (L' := [some (.ref x0), none, none, none, none, none]) rfl ?_
                exact X11_copy_J99_t G Q hp x0 _ h hK
          · have h := (if_neg c23).symm.trans h
            refine kw_aload_n dX11_copy_64 rfl ?_
            refine kw_iconst (v := nI 5) dX11_copy_65 (by decide) ?_
            obtain ⟨r22, er22, h⟩ := Option.bind_eq_some_iff.mp h
            obtain ⟨ur22, eur22, er22⟩ := Option.bind_eq_some_iff.mp er22
            obtain ⟨fsr22, hor22⟩ := kp_ob_inv eur22
            refine kw_callV (As := [.int (nI 5)]) (S := []) kcX11 cbX11_copy_X11_finding lkX11_60 imX11_finding seX11_X11_finding_X11_finding rfl rfl (Nat.le_of_ble_eq_true rfl) dX11_copy_66 hor22 (X11_finding_c G hp x0 (nI 5) _ er22) (fun vv hh hq => ?_)
            rw [hq.1, hq.2]
            show kw_V G mX11_copy 69 [some (.ref x0), some (.int x1), some (.int x2), some (.int x3), some (.int x4), some (.int x5)] [.int r22.1] r22.2 Q
            have h := Option.some.inj h
            subst h
            exact kw_iret rfl dX11_copy_69 hK
        · have h := (if_neg c24).symm.trans h
          refine kw_mask [true, false, false, false, false, false] (L' := [some (.ref x0), none, none, none, none, none]) rfl ?_
          exact X11_copy_J39_t G Q hp x0 _ h hK
    · have h := (if_pos c26).symm.trans h
      refine kw_ldc (v := (-1000001)) dX11_copy_14 ckX11_59 ?_
      have h := Option.some.inj h
      subst h
      exact kw_iret rfl dX11_copy_16 hK
/-! KitchenWheels.drop(I)I -/
def X11_drop_F (hp : kw_H) (x0 : Nat) (x1 : Int32) : Option (Int32 × kw_H) :=
  (X6_isRow_F hp x1).bind fun r1 =>
  (if r1 = 0 then
  some (((-1000001), hp))
else
  (kp_gR hp x0 [10] 0).bind fun v2 =>
  ((kp_ob hp v2 6).bind fun _ => X6_isMissing_F hp v2 x1).bind fun r3 =>
  (if r3 = 0 then
  (kp_gR hp x0 [10] 0).bind fun v4 =>
  ((kp_ob hp v4 6).bind fun _ => X6_lose_F hp v4 x1).bind fun r5 =>
  ((kp_ob r5.2 x0 10).bind fun _ => X11_unfound_F r5.2 x0 r5.1).bind fun r6 =>
  some ((r6.1, r6.2))
else
  ((kp_ob hp x0 10).bind fun _ => X11_finding_F hp x0 (nI 1)).bind fun r7 =>
  some ((r7.1, r7.2))))
set_option maxRecDepth 100000 in
set_option maxHeartbeats 4000000 in
theorem X11_drop_c (G : kw_G) (hp : kw_H) (x0 : Nat) (x1 : Int32) (r : Int32 × kw_H) (h : X11_drop_F hp x0 x1 = some r) : kw_Met G mX11_drop [.ref x0, .int x1] hp (fun v h2 => v = some (.int r.1) ∧ h2 = r.2) := by
  refine kw_met (L := [some (.ref x0), some (.int x1)]) (r := 0) (by decide +kernel) (Nat.le_of_ble_eq_true rfl) rfl ?_
  unfold X11_drop_F at h
  obtain ⟨Q, hQ⟩ : ∃ Q : Option Value → kw_H → Prop, Q = (fun v h2 => v = some (.int r.1) ∧ h2 = r.2) := ⟨_, rfl⟩
  have hK : Q (some (.int r.1)) r.2 := by rw [hQ]; exact ⟨rfl, rfl⟩
  rw [← hQ]
  clear hQ
  refine kw_iload_n dX11_drop_0 rfl ?_
  obtain ⟨r1, er1, h⟩ := Option.bind_eq_some_iff.mp h
  refine kw_callS (As := [.int x1]) (S := []) cbX11_drop_X6_isRow lkX11_51 stX6_isRow rfl rfl (Nat.le_of_ble_eq_true rfl) dX11_drop_1 (X6_isRow_c G hp x1 _ er1) (fun vv hh hq => ?_)
  rw [hq.1, hq.2]
  show kw_V G mX11_drop 4 [some (.ref x0), some (.int x1)] [.int r1] hp Q
  refine kw_if_ne 10 dX11_drop_4 (by decide) (fun c9 => ?_) (fun c9 => ?_)
  · have h := (if_neg c9).symm.trans h
    refine kw_aload_n dX11_drop_10 rfl ?_
    obtain ⟨v2, ev2, h⟩ := Option.bind_eq_some_iff.mp h
    refine kv_gR gfX11_10 dX11_drop_11 ev2 ?_
    refine kw_iload_n dX11_drop_14 rfl ?_
    obtain ⟨r3, er3, h⟩ := Option.bind_eq_some_iff.mp h
    obtain ⟨ur3, eur3, er3⟩ := Option.bind_eq_some_iff.mp er3
    obtain ⟨fsr3, hor3⟩ := kp_ob_inv eur3
    refine kw_callV (As := [.int x1]) (S := []) kcX6 cbX11_drop_X6_isMissing lkX11_78 imX6_isMissing seX6_X6_isMissing_X6_isMissing rfl rfl (Nat.le_of_ble_eq_true rfl) dX11_drop_15 hor3 (X6_isMissing_c G hp v2 x1 _ er3) (fun vv hh hq => ?_)
    rw [hq.1, hq.2]
    show kw_V G mX11_drop 18 [some (.ref x0), some (.int x1)] [.int r3] hp Q
    refine kw_if_eq 29 dX11_drop_18 (by decide) (fun c8 => ?_) (fun c8 => ?_)
    · have h := (if_pos c8).symm.trans h
      refine kw_aload_n dX11_drop_29 rfl ?_
      refine kw_aload_n dX11_drop_30 rfl ?_
      obtain ⟨v4, ev4, h⟩ := Option.bind_eq_some_iff.mp h
      refine kv_gR gfX11_10 dX11_drop_31 ev4 ?_
      refine kw_iload_n dX11_drop_34 rfl ?_
      obtain ⟨r5, er5, h⟩ := Option.bind_eq_some_iff.mp h
      obtain ⟨ur5, eur5, er5⟩ := Option.bind_eq_some_iff.mp er5
      obtain ⟨fsr5, hor5⟩ := kp_ob_inv eur5
      refine kw_callV (As := [.int x1]) (S := [.ref x0]) kcX6 cbX11_drop_X6_lose lkX11_88 imX6_lose seX6_X6_lose_X6_lose rfl rfl (Nat.le_of_ble_eq_true rfl) dX11_drop_35 hor5 (X6_lose_c G hp v4 x1 _ er5) (fun vv hh hq => ?_)
      rw [hq.1, hq.2]
      show kw_V G mX11_drop 38 [some (.ref x0), some (.int x1)] [.int r5.1, .ref x0] r5.2 Q
      obtain ⟨r6, er6, h⟩ := Option.bind_eq_some_iff.mp h
      obtain ⟨ur6, eur6, er6⟩ := Option.bind_eq_some_iff.mp er6
      obtain ⟨fsr6, hor6⟩ := kp_ob_inv eur6
      refine kw_callV (As := [.int r5.1]) (S := []) kcX11 cbX11_drop_X11_unfound lkX11_68 imX11_unfound seX11_X11_unfound_X11_unfound rfl rfl (Nat.le_of_ble_eq_true rfl) dX11_drop_38 hor6 (X11_unfound_c G r5.2 x0 r5.1 _ er6) (fun vv hh hq => ?_)
      rw [hq.1, hq.2]
      show kw_V G mX11_drop 41 [some (.ref x0), some (.int x1)] [.int r6.1] r6.2 Q
      have h := Option.some.inj h
      subst h
      exact kw_iret rfl dX11_drop_41 hK
    · have h := (if_neg c8).symm.trans h
      refine kw_aload_n dX11_drop_21 rfl ?_
      refine kw_iconst (v := nI 1) dX11_drop_22 (by decide) ?_
      obtain ⟨r7, er7, h⟩ := Option.bind_eq_some_iff.mp h
      obtain ⟨ur7, eur7, er7⟩ := Option.bind_eq_some_iff.mp er7
      obtain ⟨fsr7, hor7⟩ := kp_ob_inv eur7
      refine kw_callV (As := [.int (nI 1)]) (S := []) kcX11 cbX11_drop_X11_finding lkX11_60 imX11_finding seX11_X11_finding_X11_finding rfl rfl (Nat.le_of_ble_eq_true rfl) dX11_drop_23 hor7 (X11_finding_c G hp x0 (nI 1) _ er7) (fun vv hh hq => ?_)
      rw [hq.1, hq.2]
      show kw_V G mX11_drop 26 [some (.ref x0), some (.int x1)] [.int r7.1] r7.2 Q
      refine kw_goto 41 dX11_drop_26 (by decide) ?_
      have h := Option.some.inj h
      subst h
      exact kw_iret rfl dX11_drop_41 hK
  · have h := (if_pos c9).symm.trans h
    refine kw_ldc (v := (-1000001)) dX11_drop_7 ckX11_59 ?_
    have h := Option.some.inj h
    subst h
    exact kw_iret rfl dX11_drop_9 hK
/-! KitchenWheels.feed(I)I -/
def X11_feed_F (hp : kw_H) (x0 : Nat) (x1 : Int32) : Option (Int32 × kw_H) :=
  (X11_within_F hp x1 (nI 0) (nI 255)).bind fun r1 =>
  (if r1 = 0 then
  some (((-1000001), hp))
else
  (kp_gR hp x0 [10] 1).bind fun v2 =>
  ((kp_ob hp v2 8).bind fun _ => X8_take_F hp v2 x1).bind fun r3 =>
  (if r3.1 = 0 then
  some (((-1000003), r3.2))
else
  (kp_gR r3.2 x0 [10] 1).bind fun v4 =>
  (kp_gI r3.2 v4 [8] 1).bind fun v5 =>
  some ((v5, r3.2))))
set_option maxRecDepth 100000 in
set_option maxHeartbeats 4000000 in
theorem X11_feed_c (G : kw_G) (hp : kw_H) (x0 : Nat) (x1 : Int32) (r : Int32 × kw_H) (h : X11_feed_F hp x0 x1 = some r) : kw_Met G mX11_feed [.ref x0, .int x1] hp (fun v h2 => v = some (.int r.1) ∧ h2 = r.2) := by
  refine kw_met (L := [some (.ref x0), some (.int x1)]) (r := 0) (by decide +kernel) (Nat.le_of_ble_eq_true rfl) rfl ?_
  unfold X11_feed_F at h
  obtain ⟨Q, hQ⟩ : ∃ Q : Option Value → kw_H → Prop, Q = (fun v h2 => v = some (.int r.1) ∧ h2 = r.2) := ⟨_, rfl⟩
  have hK : Q (some (.int r.1)) r.2 := by rw [hQ]; exact ⟨rfl, rfl⟩
  rw [← hQ]
  clear hQ
  refine kw_iload_n dX11_feed_0 rfl ?_
  refine kw_iconst (v := nI 0) dX11_feed_1 (by decide) ?_
  refine kw_sipush (v := nI 255) dX11_feed_2 (by decide) ?_
  obtain ⟨r1, er1, h⟩ := Option.bind_eq_some_iff.mp h
  refine kw_callS (As := [.int x1, .int (nI 0), .int (nI 255)]) (S := []) cbX11_feed_X11_within lkX11_55 stX11_within rfl rfl (Nat.le_of_ble_eq_true rfl) dX11_feed_5 (X11_within_c G hp x1 (nI 0) (nI 255) _ er1) (fun vv hh hq => ?_)
  rw [hq.1, hq.2]
  show kw_V G mX11_feed 8 [some (.ref x0), some (.int x1)] [.int r1] hp Q
  refine kw_if_ne 14 dX11_feed_8 (by decide) (fun c7 => ?_) (fun c7 => ?_)
  · have h := (if_neg c7).symm.trans h
    refine kw_aload_n dX11_feed_14 rfl ?_
    obtain ⟨v2, ev2, h⟩ := Option.bind_eq_some_iff.mp h
    refine kv_gR gfX11_19 dX11_feed_15 ev2 ?_
    refine kw_iload_n dX11_feed_18 rfl ?_
    obtain ⟨r3, er3, h⟩ := Option.bind_eq_some_iff.mp h
    obtain ⟨ur3, eur3, er3⟩ := Option.bind_eq_some_iff.mp er3
    obtain ⟨fsr3, hor3⟩ := kp_ob_inv eur3
    refine kw_callV (As := [.int x1]) (S := []) kcX8 cbX11_feed_X8_take lkX11_91 imX8_take seX8_X8_take_X8_take rfl rfl (Nat.le_of_ble_eq_true rfl) dX11_feed_19 hor3 (X8_take_c G hp v2 x1 _ er3) (fun vv hh hq => ?_)
    rw [hq.1, hq.2]
    show kw_V G mX11_feed 22 [some (.ref x0), some (.int x1)] [.int r3.1] r3.2 Q
    refine kw_if_eq 35 dX11_feed_22 (by decide) (fun c6 => ?_) (fun c6 => ?_)
    · have h := (if_pos c6).symm.trans h
      refine kw_ldc (v := (-1000003)) dX11_feed_35 ckX11_98 ?_
      have h := Option.some.inj h
      subst h
      exact kw_iret rfl dX11_feed_37 hK
    · have h := (if_neg c6).symm.trans h
      refine kw_aload_n dX11_feed_25 rfl ?_
      obtain ⟨v4, ev4, h⟩ := Option.bind_eq_some_iff.mp h
      refine kv_gR gfX11_19 dX11_feed_26 ev4 ?_
      obtain ⟨v5, ev5, h⟩ := Option.bind_eq_some_iff.mp h
      refine kv_gI gfX11_94 dX11_feed_29 ev5 ?_
      refine kw_goto 37 dX11_feed_32 (by decide) ?_
      have h := Option.some.inj h
      subst h
      exact kw_iret rfl dX11_feed_37 hK
  · have h := (if_pos c7).symm.trans h
    refine kw_ldc (v := (-1000001)) dX11_feed_11 ckX11_59 ?_
    have h := Option.some.inj h
    subst h
    exact kw_iret rfl dX11_feed_13 hK
/-! KitchenWheels.forgetActs()V -/
def X11_forgetActs_F (hp : kw_H) (x0 : Nat) : Option (kw_H) :=
  (kp_put hp x0 [10] 7 (.int (nI 0))).bind fun hp1 =>
  (kp_put hp1 x0 [10] 8 (.int (nI 0))).bind fun hp2 =>
  some (hp2)
set_option maxRecDepth 100000 in
set_option maxHeartbeats 4000000 in
theorem X11_forgetActs_c (G : kw_G) (hp : kw_H) (x0 : Nat) (r : kw_H) (h : X11_forgetActs_F hp x0 = some r) : kw_Met G mX11_forgetActs [.ref x0] hp (fun v h2 => v = none ∧ h2 = r) := by
  refine kw_met (L := [some (.ref x0)]) (r := 0) (by decide +kernel) (Nat.le_of_ble_eq_true rfl) rfl ?_
  unfold X11_forgetActs_F at h
  obtain ⟨Q, hQ⟩ : ∃ Q : Option Value → kw_H → Prop, Q = (fun v h2 => v = none ∧ h2 = r) := ⟨_, rfl⟩
  have hK : Q none r := by rw [hQ]; exact ⟨rfl, rfl⟩
  rw [← hQ]
  clear hQ
  refine kw_aload_n dX11_forgetActs_0 rfl ?_
  refine kw_iconst (v := nI 0) dX11_forgetActs_1 (by decide) ?_
  obtain ⟨hp1, ehp1, h⟩ := Option.bind_eq_some_iff.mp h
  refine kv_put pfX11_forgetActs_130 (fun _ => ⟨rfl, rfl⟩) dX11_forgetActs_2 ehp1 ?_
  refine kw_aload_n dX11_forgetActs_5 rfl ?_
  refine kw_iconst (v := nI 0) dX11_forgetActs_6 (by decide) ?_
  obtain ⟨hp2, ehp2, h⟩ := Option.bind_eq_some_iff.mp h
  refine kv_put pfX11_forgetActs_126 (fun _ => ⟨rfl, rfl⟩) dX11_forgetActs_7 ehp2 ?_
  have h := Option.some.inj h
  subst h
  exact kw_vret rfl dX11_forgetActs_10 hK
/-! KitchenWheels.kitchen()I -/
def X11_kitchen_F (hp : kw_H) (x0 : Nat) : Option (Int32 × kw_H) :=
  (kp_gR hp x0 [10] 1).bind fun v1 =>
  ((kp_ob hp v1 8).bind fun _ => X8_read_F hp v1).bind fun r2 =>
  (kp_gR r2.2 x0 [10] 1).bind fun v3 =>
  (kp_put r2.2 v3 [8] 1 (.int (nI 0))).bind fun hp4 =>
  (if r2.1 = 0 then
  (kp_gR hp4 x0 [10] 1).bind fun v12 =>
  (kp_gI hp4 v12 [8] 3).bind fun v13 =>
  (kp_put hp4 x0 [10] 9 (.int v13)).bind fun hp14 =>
  (kp_gR hp14 x0 [10] 1).bind fun v15 =>
  (kp_gI hp14 v15 [8] 4).bind fun v16 =>
  some ((((-1000100)) - v16, hp14))
else
  (kp_gR hp4 x0 [10] 2).bind fun v5 =>
  (kp_gR hp4 x0 [10] 1).bind fun v6 =>
  (kp_gR hp4 v6 [8] 2).bind fun v7 =>
  ((kp_ob hp4 v5 2).bind fun _ => X2_become_F hp4 v5 v7).bind fun r8 =>
  ((kp_ob r8 x0 10).bind fun _ => X11_forgetActs_F r8 x0).bind fun r9 =>
  (kp_gR r9 x0 [10] 2).bind fun v10 =>
  (kp_gI r9 v10 [2] 6).bind fun v11 =>
  some ((v11, r9)))
set_option maxRecDepth 100000 in
set_option maxHeartbeats 4000000 in
theorem X11_kitchen_c (G : kw_G) (hp : kw_H) (x0 : Nat) (r : Int32 × kw_H) (h : X11_kitchen_F hp x0 = some r) : kw_Met G mX11_kitchen [.ref x0] hp (fun v h2 => v = some (.int r.1) ∧ h2 = r.2) := by
  refine kw_met (L := [some (.ref x0), none]) (r := 1) (by decide +kernel) (Nat.le_of_ble_eq_true rfl) rfl ?_
  unfold X11_kitchen_F at h
  obtain ⟨Q, hQ⟩ : ∃ Q : Option Value → kw_H → Prop, Q = (fun v h2 => v = some (.int r.1) ∧ h2 = r.2) := ⟨_, rfl⟩
  have hK : Q (some (.int r.1)) r.2 := by rw [hQ]; exact ⟨rfl, rfl⟩
  rw [← hQ]
  clear hQ
  refine kw_aload_n dX11_kitchen_0 rfl ?_
  obtain ⟨v1, ev1, h⟩ := Option.bind_eq_some_iff.mp h
  refine kv_gR gfX11_19 dX11_kitchen_1 ev1 ?_
  obtain ⟨r2, er2, h⟩ := Option.bind_eq_some_iff.mp h
  obtain ⟨ur2, eur2, er2⟩ := Option.bind_eq_some_iff.mp er2
  obtain ⟨fsr2, hor2⟩ := kp_ob_inv eur2
  refine kw_callV (As := []) (S := []) kcX8 cbX11_kitchen_X8_read lkX11_99 imX8_read seX8_X8_read_X8_read rfl rfl (Nat.le_of_ble_eq_true rfl) dX11_kitchen_4 hor2 (X8_read_c G hp v1 _ er2) (fun vv hh hq => ?_)
  rw [hq.1, hq.2]
  show kw_V G mX11_kitchen 7 [some (.ref x0), none] [.int r2.1] r2.2 Q
  refine kw_istore_n (L' := [some (.ref x0), some (.int r2.1)]) dX11_kitchen_7 (by decide) rfl ?_
  refine kw_aload_n dX11_kitchen_8 rfl ?_
  obtain ⟨v3, ev3, h⟩ := Option.bind_eq_some_iff.mp h
  refine kv_gR gfX11_19 dX11_kitchen_9 ev3 ?_
  refine kw_iconst (v := nI 0) dX11_kitchen_12 (by decide) ?_
  obtain ⟨hp4, ehp4, h⟩ := Option.bind_eq_some_iff.mp h
  refine kv_put pfX11_kitchen_94 (fun _ => ⟨rfl, rfl⟩) dX11_kitchen_13 ehp4 ?_
  refine kw_iload_n dX11_kitchen_16 rfl ?_
  refine kw_if_ne 42 dX11_kitchen_17 (by decide) (fun c17 => ?_) (fun c17 => ?_)
  · have h := (if_neg c17).symm.trans h
    refine kw_aload_n dX11_kitchen_42 rfl ?_
    obtain ⟨v5, ev5, h⟩ := Option.bind_eq_some_iff.mp h
    refine kv_gR gfX11_26 dX11_kitchen_43 ev5 ?_
    refine kw_aload_n dX11_kitchen_46 rfl ?_
    obtain ⟨v6, ev6, h⟩ := Option.bind_eq_some_iff.mp h
    refine kv_gR gfX11_19 dX11_kitchen_47 ev6 ?_
    obtain ⟨v7, ev7, h⟩ := Option.bind_eq_some_iff.mp h
    refine kv_gR gfX11_113 dX11_kitchen_50 ev7 ?_
    obtain ⟨r8, er8, h⟩ := Option.bind_eq_some_iff.mp h
    obtain ⟨ur8, eur8, er8⟩ := Option.bind_eq_some_iff.mp er8
    obtain ⟨fsr8, hor8⟩ := kp_ob_inv eur8
    refine kw_callV (As := [.ref v7]) (S := []) kcX2 cbX11_kitchen_X2_become lkX11_116 imX2_become seX2_X2_become_X2_become rfl rfl (Nat.le_of_ble_eq_true rfl) dX11_kitchen_53 hor8 (X2_become_c G hp4 v5 v7 _ er8) (fun vv hh hq => ?_)
    rw [hq.1, hq.2]
    show kw_V G mX11_kitchen 56 [some (.ref x0), some (.int r2.1)] [] r8 Q
    refine kw_aload_n dX11_kitchen_56 rfl ?_
    obtain ⟨r9, er9, h⟩ := Option.bind_eq_some_iff.mp h
    obtain ⟨ur9, eur9, er9⟩ := Option.bind_eq_some_iff.mp er9
    obtain ⟨fsr9, hor9⟩ := kp_ob_inv eur9
    refine kw_callV (As := []) (S := []) kcX11 cbX11_kitchen_X11_forgetActs lkX11_120 imX11_forgetActs seX11_X11_forgetActs_X11_forgetActs rfl rfl (Nat.le_of_ble_eq_true rfl) dX11_kitchen_57 hor9 (X11_forgetActs_c G r8 x0 _ er9) (fun vv hh hq => ?_)
    rw [hq.1, hq.2]
    show kw_V G mX11_kitchen 60 [some (.ref x0), some (.int r2.1)] [] r9 Q
    refine kw_aload_n dX11_kitchen_60 rfl ?_
    obtain ⟨v10, ev10, h⟩ := Option.bind_eq_some_iff.mp h
    refine kv_gR gfX11_26 dX11_kitchen_61 ev10 ?_
    obtain ⟨v11, ev11, h⟩ := Option.bind_eq_some_iff.mp h
    refine kv_gI gfX11_123 dX11_kitchen_64 ev11 ?_
    have h := Option.some.inj h
    subst h
    exact kw_iret rfl dX11_kitchen_67 hK
  · have h := (if_pos c17).symm.trans h
    refine kw_aload_n dX11_kitchen_20 rfl ?_
    refine kw_aload_n dX11_kitchen_21 rfl ?_
    obtain ⟨v12, ev12, h⟩ := Option.bind_eq_some_iff.mp h
    refine kv_gR gfX11_19 dX11_kitchen_22 ev12 ?_
    obtain ⟨v13, ev13, h⟩ := Option.bind_eq_some_iff.mp h
    refine kv_gI gfX11_103 dX11_kitchen_25 ev13 ?_
    obtain ⟨hp14, ehp14, h⟩ := Option.bind_eq_some_iff.mp h
    refine kv_put pfX11_kitchen_106 (fun _ => ⟨rfl, rfl⟩) dX11_kitchen_28 ehp14 ?_
    refine kw_ldc (v := (-1000100)) dX11_kitchen_31 ckX11_109 ?_
    refine kw_aload_n dX11_kitchen_33 rfl ?_
    obtain ⟨v15, ev15, h⟩ := Option.bind_eq_some_iff.mp h
    refine kv_gR gfX11_19 dX11_kitchen_34 ev15 ?_
    obtain ⟨v16, ev16, h⟩ := Option.bind_eq_some_iff.mp h
    refine kv_gI gfX11_110 dX11_kitchen_37 ev16 ?_
    refine kw_isub dX11_kitchen_40 ?_
    have h := Option.some.inj h
    subst h
    exact kw_iret rfl dX11_kitchen_41 hK
/-! KitchenWheels.fault()I -/
def X11_fault_F (hp : kw_H) (x0 : Nat) : Option (Int32) :=
  (kp_gI hp x0 [10] 9).bind fun v1 =>
  some (v1)
set_option maxRecDepth 100000 in
set_option maxHeartbeats 4000000 in
theorem X11_fault_c (G : kw_G) (hp : kw_H) (x0 : Nat) (r : Int32) (h : X11_fault_F hp x0 = some r) : kw_Met G mX11_fault [.ref x0] hp (fun v h2 => v = some (.int r) ∧ h2 = hp) := by
  refine kw_met (L := [some (.ref x0)]) (r := 0) (by decide +kernel) (Nat.le_of_ble_eq_true rfl) rfl ?_
  unfold X11_fault_F at h
  obtain ⟨Q, hQ⟩ : ∃ Q : Option Value → kw_H → Prop, Q = (fun v h2 => v = some (.int r) ∧ h2 = hp) := ⟨_, rfl⟩
  have hK : Q (some (.int r)) hp := by rw [hQ]; exact ⟨rfl, rfl⟩
  rw [← hQ]
  clear hQ
  refine kw_aload_n dX11_fault_0 rfl ?_
  obtain ⟨v1, ev1, h⟩ := Option.bind_eq_some_iff.mp h
  refine kv_gI gfX11_106 dX11_fault_1 ev1 ?_
  have h := Option.some.inj h
  subst h
  exact kw_iret rfl dX11_fault_4 hK
/-! KitchenWheels.undo()I -/
def X11_undo_F (hp : kw_H) (x0 : Nat) : Option (Int32 × kw_H) :=
  (kp_gI hp x0 [10] 8).bind fun v1 =>
  (if v1 = 0 then
  some (((-1000002), hp))
else
  (kp_gI hp x0 [10] 8).bind fun v2 =>
  (kp_put hp x0 [10] 8 (.int (v2 - (nI 1)))).bind fun hp3 =>
  (kp_gR hp3 x0 [10] 5).bind fun v4 =>
  (kp_gI hp3 x0 [10] 7).bind fun v5 =>
  (kp_gI hp3 x0 [10] 8).bind fun v6 =>
  (X11_rest_F hp3 (v5 + v6) (nI 24)).bind fun r7 =>
  (kp_ldR hp3 4 v4 r7).bind fun o8 =>
  kp_nu o8 ((kp_gI hp3 x0 [10] 8).bind fun v10 =>
  some ((v10, hp3))) (fun b9 =>
  (kp_gR hp3 x0 [10] 2).bind fun v11 =>
  ((kp_ob hp3 v11 2).bind fun _ => X2_become_F hp3 v11 b9).bind fun r12 =>
  (kp_gI r12 x0 [10] 8).bind fun v13 =>
  some ((v13, r12))))
set_option maxRecDepth 100000 in
set_option maxHeartbeats 4000000 in
theorem X11_undo_c (G : kw_G) (hp : kw_H) (x0 : Nat) (r : Int32 × kw_H) (h : X11_undo_F hp x0 = some r) : kw_Met G mX11_undo [.ref x0] hp (fun v h2 => v = some (.int r.1) ∧ h2 = r.2) := by
  refine kw_met (L := [some (.ref x0), none]) (r := 1) (by decide +kernel) (Nat.le_of_ble_eq_true rfl) rfl ?_
  unfold X11_undo_F at h
  obtain ⟨Q, hQ⟩ : ∃ Q : Option Value → kw_H → Prop, Q = (fun v h2 => v = some (.int r.1) ∧ h2 = r.2) := ⟨_, rfl⟩
  have hK : Q (some (.int r.1)) r.2 := by rw [hQ]; exact ⟨rfl, rfl⟩
  rw [← hQ]
  clear hQ
  refine kw_aload_n dX11_undo_0 rfl ?_
  obtain ⟨v1, ev1, h⟩ := Option.bind_eq_some_iff.mp h
  refine kv_gI gfX11_126 dX11_undo_1 ev1 ?_
  refine kw_if_ne 10 dX11_undo_4 (by decide) (fun c14 => ?_) (fun c14 => ?_)
  · have h := (if_neg c14).symm.trans h
    refine kw_aload_n dX11_undo_10 rfl ?_
    refine kw_dup dX11_undo_11 rfl ?_
    obtain ⟨v2, ev2, h⟩ := Option.bind_eq_some_iff.mp h
    refine kv_gI gfX11_126 dX11_undo_12 ev2 ?_
    refine kw_iconst (v := nI 1) dX11_undo_15 (by decide) ?_
    refine kw_isub dX11_undo_16 ?_
    obtain ⟨hp3, ehp3, h⟩ := Option.bind_eq_some_iff.mp h
    refine kv_put pfX11_undo_126 (fun _ => ⟨rfl, rfl⟩) dX11_undo_17 ehp3 ?_
    refine kw_aload_n dX11_undo_20 rfl ?_
    obtain ⟨v4, ev4, h⟩ := Option.bind_eq_some_iff.mp h
    refine kv_gR gfX11_44 dX11_undo_21 ev4 ?_
    refine kw_aload_n dX11_undo_24 rfl ?_
    obtain ⟨v5, ev5, h⟩ := Option.bind_eq_some_iff.mp h
    refine kv_gI gfX11_130 dX11_undo_25 ev5 ?_
    refine kw_aload_n dX11_undo_28 rfl ?_
    obtain ⟨v6, ev6, h⟩ := Option.bind_eq_some_iff.mp h
    refine kv_gI gfX11_126 dX11_undo_29 ev6 ?_
    refine kw_iadd dX11_undo_32 ?_
    refine kw_bipush (v := nI 24) dX11_undo_33 (by decide) ?_
    obtain ⟨r7, er7, h⟩ := Option.bind_eq_some_iff.mp h
    refine kw_callS (As := [.int (v5 + v6), .int (nI 24)]) (S := [.ref v4]) cbX11_undo_X11_rest lkX11_133 stX11_rest rfl rfl (Nat.le_of_ble_eq_true rfl) dX11_undo_35 (X11_rest_c G hp3 (v5 + v6) (nI 24) _ er7) (fun vv hh hq => ?_)
    rw [hq.1, hq.2]
    show kw_V G mX11_undo 38 [some (.ref x0), none] [.int r7, .ref v4] hp3 Q
    obtain ⟨o8, eo8, h⟩ := Option.bind_eq_some_iff.mp h
    refine kv_ldR (by decide) dX11_undo_38 eo8 ?_
    cases o8 with
    | none =>
      dsimp only [kp_nu, va_rf] at h ⊢
      refine kw_astore_nN (L' := [some (.ref x0), some (.null)]) dX11_undo_39 (by decide) rfl ?_
      refine kw_aload_nN dX11_undo_40 rfl ?_
      refine kw_ifnullN 52 dX11_undo_41 (by decide) ?_
      refine kw_aload_n dX11_undo_52 rfl ?_
      obtain ⟨v10, ev10, h⟩ := Option.bind_eq_some_iff.mp h
      refine kv_gI gfX11_126 dX11_undo_53 ev10 ?_
      have h := Option.some.inj h
      subst h
      exact kw_iret rfl dX11_undo_56 hK
    | some b9 =>
      dsimp only [kp_nu, va_rf] at h ⊢
      refine kw_astore_n (L' := [some (.ref x0), some (.ref b9)]) dX11_undo_39 (by decide) rfl ?_
      refine kw_aload_n dX11_undo_40 rfl ?_
      refine kw_ifnull dX11_undo_41 ?_
      refine kw_aload_n dX11_undo_44 rfl ?_
      obtain ⟨v11, ev11, h⟩ := Option.bind_eq_some_iff.mp h
      refine kv_gR gfX11_26 dX11_undo_45 ev11 ?_
      refine kw_aload_n dX11_undo_48 rfl ?_
      obtain ⟨r12, er12, h⟩ := Option.bind_eq_some_iff.mp h
      obtain ⟨ur12, eur12, er12⟩ := Option.bind_eq_some_iff.mp er12
      obtain ⟨fsr12, hor12⟩ := kp_ob_inv eur12
      refine kw_callV (As := [.ref b9]) (S := []) kcX2 cbX11_undo_X2_become lkX11_116 imX2_become seX2_X2_become_X2_become rfl rfl (Nat.le_of_ble_eq_true rfl) dX11_undo_49 hor12 (X2_become_c G hp3 v11 b9 _ er12) (fun vv hh hq => ?_)
      rw [hq.1, hq.2]
      show kw_V G mX11_undo 52 [some (.ref x0), some (.ref b9)] [] r12 Q
      refine kw_aload_n dX11_undo_52 rfl ?_
      obtain ⟨v13, ev13, h⟩ := Option.bind_eq_some_iff.mp h
      refine kv_gI gfX11_126 dX11_undo_53 ev13 ?_
      have h := Option.some.inj h
      subst h
      exact kw_iret rfl dX11_undo_56 hK
  · have h := (if_pos c14).symm.trans h
    refine kw_ldc (v := (-1000002)) dX11_undo_7 ckX11_129 ?_
    have h := Option.some.inj h
    subst h
    exact kw_iret rfl dX11_undo_9 hK
/-! KitchenWheels.keepIn([LKitchenWheels$Kitchen;I)V -/
def X11_keepIn_J31 (hp : kw_H) (x0 : Nat) (x3 : Nat) : Option (kw_H) :=
  (kp_gR hp x0 [10] 2).bind fun v7 =>
  ((kp_ob hp x3 2).bind fun _ => X2_become_F hp x3 v7).bind fun r8 =>
  some (r8)
set_option maxRecDepth 100000 in
set_option maxHeartbeats 4000000 in
theorem X11_keepIn_J31_t (G : kw_G) (Q : Option Value → kw_H → Prop) (hp : kw_H) (x0 : Nat) (x3 : Nat) (r : kw_H) (h : X11_keepIn_J31 hp x0 x3 = some r) (hK : Q none r) : kw_V G mX11_keepIn 31 [some (.ref x0), none, none, some (.ref x3)] [] hp Q := by
  unfold X11_keepIn_J31 at h
  refine kw_aload_n dX11_keepIn_31 rfl ?_
  refine kw_aload_n dX11_keepIn_32 rfl ?_
  obtain ⟨v7, ev7, h⟩ := Option.bind_eq_some_iff.mp h
  refine kv_gR gfX11_26 dX11_keepIn_33 ev7 ?_
  obtain ⟨r8, er8, h⟩ := Option.bind_eq_some_iff.mp h
  obtain ⟨ur8, eur8, er8⟩ := Option.bind_eq_some_iff.mp er8
  obtain ⟨fsr8, hor8⟩ := kp_ob_inv eur8
  refine kw_callV (As := [.ref v7]) (S := []) kcX2 cbX11_keepIn_X2_become lkX11_116 imX2_become seX2_X2_become_X2_become rfl rfl (Nat.le_of_ble_eq_true rfl) dX11_keepIn_36 hor8 (X2_become_c G hp x3 v7 _ er8) (fun vv hh hq => ?_)
  rw [hq.1, hq.2]
  show kw_V G mX11_keepIn 39 [some (.ref x0), none, none, some (.ref x3)] [] r8 Q
  have h := Option.some.inj h
  subst h
  exact kw_vret rfl dX11_keepIn_39 hK
def X11_keepIn_F (hp : kw_H) (x0 : Nat) (x1 : Nat) (x2 : Int32) : Option (kw_H) :=
  (if x2 < 0 then
  some (hp)
else
  (kp_len hp x1).bind fun v1 =>
  (if x2 < v1 then
  (kp_ldR hp 4 x1 x2).bind fun o2 =>
  kp_nu o2 ((kp_al hp [.inr (2, [.null, .null, .null, .null, .int 0, .int 0, .int 0, .int 0, .int 0, .int 0])]).bind fun hp4 =>
  (X2_init_F hp4 (List.length hp)).bind fun r5 =>
  (kp_stR r5 4 x1 x2 (some (List.length hp)) [2]).bind fun hp6 =>
  X11_keepIn_J31 hp6 x0 (List.length hp)) (fun b3 =>
  X11_keepIn_J31 hp x0 b3)
else
  some (hp)))
set_option maxRecDepth 100000 in
set_option maxHeartbeats 4000000 in
theorem X11_keepIn_c (G : kw_G) (hp : kw_H) (x0 : Nat) (x1 : Nat) (x2 : Int32) (r : kw_H) (h : X11_keepIn_F hp x0 x1 x2 = some r) : kw_Met G mX11_keepIn [.ref x0, .ref x1, .int x2] hp (fun v h2 => v = none ∧ h2 = r) := by
  refine kw_met (L := [some (.ref x0), some (.ref x1), some (.int x2), none]) (r := 1) (by decide +kernel) (Nat.le_of_ble_eq_true rfl) rfl ?_
  unfold X11_keepIn_F at h
  obtain ⟨Q, hQ⟩ : ∃ Q : Option Value → kw_H → Prop, Q = (fun v h2 => v = none ∧ h2 = r) := ⟨_, rfl⟩
  have hK : Q none r := by rw [hQ]; exact ⟨rfl, rfl⟩
  rw [← hQ]
  clear hQ
  refine kw_iload_n dX11_keepIn_0 rfl ?_
  refine kw_if_lt 10 dX11_keepIn_1 (by decide) (fun c10 => ?_) (fun c10 => ?_)
  · have h := (if_pos c10).symm.trans h
    have h := Option.some.inj h
    subst h
    exact kw_vret rfl dX11_keepIn_10 hK
  · have h := (if_neg c10).symm.trans h
    refine kw_iload_n dX11_keepIn_4 rfl ?_
    refine kw_aload_n dX11_keepIn_5 rfl ?_
    obtain ⟨v1, ev1, h⟩ := Option.bind_eq_some_iff.mp h
    refine kv_len dX11_keepIn_6 ev1 ?_
    refine kw_icmp_lt 11 dX11_keepIn_7 (by decide) (fun c9 => ?_) (fun c9 => ?_)
    · have h := (if_pos c9).symm.trans h
      refine kw_aload_n dX11_keepIn_11 rfl ?_
      refine kw_iload_n dX11_keepIn_12 rfl ?_
      obtain ⟨o2, eo2, h⟩ := Option.bind_eq_some_iff.mp h
      refine kv_ldR (by decide) dX11_keepIn_13 eo2 ?_
      cases o2 with
      | none =>
        dsimp only [kp_nu, va_rf] at h ⊢
        refine kw_astore_nN (L' := [some (.ref x0), some (.ref x1), some (.int x2), some (.null)]) dX11_keepIn_14 (by decide) rfl ?_
        refine kw_aload_nN dX11_keepIn_15 rfl ?_
        refine kw_ifnonnullN dX11_keepIn_16 ?_
        obtain ⟨hp4, ehp4, h⟩ := Option.bind_eq_some_iff.mp h
        refine kv_new (fs := [.null, .null, .null, .null, .int 0, .int 0, .int 0, .int 0, .int 0, .int 0]) kcX2 tyX2_ok (by decide) dfX2 clX11_23 iaX2 in_X2 dX11_keepIn_19 ehp4 ?_
        refine kw_dup dX11_keepIn_22 rfl ?_
        obtain ⟨r5, er5, h⟩ := Option.bind_eq_some_iff.mp h
        refine kw_callIN (As := []) (S := [.ref (List.length hp)]) cbX11_keepIn_X2_init rfl rfl lnX11_25 imX2_init rfl rfl (Nat.le_of_ble_eq_true rfl) dX11_keepIn_23 (X2_init_c G hp4 (List.length hp) _ er5) (fun vv hh hq => ?_)
        rw [hq.1, hq.2]
        show kw_V G mX11_keepIn 26 [some (.ref x0), some (.ref x1), some (.int x2), some (.null)] [.ref (List.length hp)] r5 Q
        refine kw_astore_n (L' := [some (.ref x0), some (.ref x1), some (.int x2), some (.ref (List.length hp))]) dX11_keepIn_26 (by decide) rfl ?_
        refine kw_aload_n dX11_keepIn_27 rfl ?_
        refine kw_iload_n dX11_keepIn_28 rfl ?_
        refine kw_aload_n dX11_keepIn_29 rfl ?_
        obtain ⟨hp6, ehp6, h⟩ := Option.bind_eq_some_iff.mp h
        refine kv_stR ao4 dX11_keepIn_30 ehp6 ?_
        refine kw_mask [true, false, false, true] (L' := [some (.ref x0), none, none, some (.ref (List.length hp))]) rfl ?_
        exact X11_keepIn_J31_t G Q hp6 x0 (List.length hp) _ h hK
      | some b3 =>
        dsimp only [kp_nu, va_rf] at h ⊢
        refine kw_astore_n (L' := [some (.ref x0), some (.ref x1), some (.int x2), some (.ref b3)]) dX11_keepIn_14 (by decide) rfl ?_
        refine kw_aload_n dX11_keepIn_15 rfl ?_
        refine kw_ifnonnull 31 dX11_keepIn_16 (by decide) ?_
        refine kw_mask [true, false, false, true] (L' := [some (.ref x0), none, none, some (.ref b3)]) rfl ?_
        exact X11_keepIn_J31_t G Q hp x0 b3 _ h hK
    · have h := (if_neg c9).symm.trans h
      have h := Option.some.inj h
      subst h
      exact kw_vret rfl dX11_keepIn_10 hK
/-! KitchenWheels.keepAct()V -/
def X11_keepAct_J34 (hp : kw_H) (x0 : Nat) : Option (kw_H) :=
  (kp_gR hp x0 [10] 5).bind fun v2 =>
  (kp_gI hp x0 [10] 7).bind fun v3 =>
  (kp_gI hp x0 [10] 8).bind fun v4 =>
  (X11_rest_F hp (v3 + v4) (nI 24)).bind fun r5 =>
  ((kp_ob hp x0 10).bind fun _ => X11_keepIn_F hp x0 v2 r5).bind fun r6 =>
  (kp_gI r6 x0 [10] 8).bind fun v7 =>
  (kp_put r6 x0 [10] 8 (.int (v7 + (nI 1)))).bind fun hp8 =>
  some (hp8)
set_option maxRecDepth 100000 in
set_option maxHeartbeats 4000000 in
theorem X11_keepAct_J34_t (G : kw_G) (Q : Option Value → kw_H → Prop) (hp : kw_H) (x0 : Nat) (r : kw_H) (h : X11_keepAct_J34 hp x0 = some r) (hK : Q none r) : kw_V G mX11_keepAct 34 [some (.ref x0)] [] hp Q := by
  unfold X11_keepAct_J34 at h
  refine kw_aload_n dX11_keepAct_34 rfl ?_
  refine kw_aload_n dX11_keepAct_35 rfl ?_
  obtain ⟨v2, ev2, h⟩ := Option.bind_eq_some_iff.mp h
  refine kv_gR gfX11_44 dX11_keepAct_36 ev2 ?_
  refine kw_aload_n dX11_keepAct_39 rfl ?_
  obtain ⟨v3, ev3, h⟩ := Option.bind_eq_some_iff.mp h
  refine kv_gI gfX11_130 dX11_keepAct_40 ev3 ?_
  refine kw_aload_n dX11_keepAct_43 rfl ?_
  obtain ⟨v4, ev4, h⟩ := Option.bind_eq_some_iff.mp h
  refine kv_gI gfX11_126 dX11_keepAct_44 ev4 ?_
  refine kw_iadd dX11_keepAct_47 ?_
  refine kw_bipush (v := nI 24) dX11_keepAct_48 (by decide) ?_
  obtain ⟨r5, er5, h⟩ := Option.bind_eq_some_iff.mp h
  refine kw_callS (As := [.int (v3 + v4), .int (nI 24)]) (S := [.ref v2, .ref x0]) cbX11_keepAct_X11_rest lkX11_133 stX11_rest rfl rfl (Nat.le_of_ble_eq_true rfl) dX11_keepAct_50 (X11_rest_c G hp (v3 + v4) (nI 24) _ er5) (fun vv hh hq => ?_)
  rw [hq.1, hq.2]
  show kw_V G mX11_keepAct 53 [some (.ref x0)] [.int r5, .ref v2, .ref x0] hp Q
  obtain ⟨r6, er6, h⟩ := Option.bind_eq_some_iff.mp h
  obtain ⟨ur6, eur6, er6⟩ := Option.bind_eq_some_iff.mp er6
  obtain ⟨fsr6, hor6⟩ := kp_ob_inv eur6
  refine kw_callV (As := [.ref v2, .int r5]) (S := []) kcX11 cbX11_keepAct_X11_keepIn lkX11_277 imX11_keepIn seX11_X11_keepIn_X11_keepIn rfl rfl (Nat.le_of_ble_eq_true rfl) dX11_keepAct_53 hor6 (X11_keepIn_c G hp x0 v2 r5 _ er6) (fun vv hh hq => ?_)
  rw [hq.1, hq.2]
  show kw_V G mX11_keepAct 56 [some (.ref x0)] [] r6 Q
  refine kw_aload_n dX11_keepAct_56 rfl ?_
  refine kw_dup dX11_keepAct_57 rfl ?_
  obtain ⟨v7, ev7, h⟩ := Option.bind_eq_some_iff.mp h
  refine kv_gI gfX11_126 dX11_keepAct_58 ev7 ?_
  refine kw_iconst (v := nI 1) dX11_keepAct_61 (by decide) ?_
  refine kw_iadd dX11_keepAct_62 ?_
  obtain ⟨hp8, ehp8, h⟩ := Option.bind_eq_some_iff.mp h
  refine kv_put pfX11_keepAct_126 (fun _ => ⟨rfl, rfl⟩) dX11_keepAct_63 ehp8 ?_
  have h := Option.some.inj h
  subst h
  exact kw_vret rfl dX11_keepAct_66 hK
def X11_keepAct_F (hp : kw_H) (x0 : Nat) : Option (kw_H) :=
  (kp_gI hp x0 [10] 8).bind fun v1 =>
  (if v1 = (nI 24) then
  (kp_gI hp x0 [10] 7).bind fun v9 =>
  (X11_rest_F hp (v9 + (nI 1)) (nI 24)).bind fun r10 =>
  (kp_put hp x0 [10] 7 (.int r10)).bind fun hp11 =>
  (kp_gI hp11 x0 [10] 8).bind fun v12 =>
  (kp_put hp11 x0 [10] 8 (.int (v12 - (nI 1)))).bind fun hp13 =>
  X11_keepAct_J34 hp13 x0
else
  X11_keepAct_J34 hp x0)
set_option maxRecDepth 100000 in
set_option maxHeartbeats 4000000 in
theorem X11_keepAct_c (G : kw_G) (hp : kw_H) (x0 : Nat) (r : kw_H) (h : X11_keepAct_F hp x0 = some r) : kw_Met G mX11_keepAct [.ref x0] hp (fun v h2 => v = none ∧ h2 = r) := by
  refine kw_met (L := [some (.ref x0)]) (r := 0) (by decide +kernel) (Nat.le_of_ble_eq_true rfl) rfl ?_
  unfold X11_keepAct_F at h
  obtain ⟨Q, hQ⟩ : ∃ Q : Option Value → kw_H → Prop, Q = (fun v h2 => v = none ∧ h2 = r) := ⟨_, rfl⟩
  have hK : Q none r := by rw [hQ]; exact ⟨rfl, rfl⟩
  rw [← hQ]
  clear hQ
  refine kw_aload_n dX11_keepAct_0 rfl ?_
  obtain ⟨v1, ev1, h⟩ := Option.bind_eq_some_iff.mp h
  refine kv_gI gfX11_126 dX11_keepAct_1 ev1 ?_
  refine kw_bipush (v := nI 24) dX11_keepAct_4 (by decide) ?_
  refine kw_icmp_ne 34 dX11_keepAct_6 (by decide) (fun c14 => ?_) (fun c14 => ?_)
  · have h := (if_neg c14).symm.trans h
    exact X11_keepAct_J34_t G Q hp x0 _ h hK
  · have h := (if_pos c14).symm.trans h
    refine kw_aload_n dX11_keepAct_9 rfl ?_
    refine kw_aload_n dX11_keepAct_10 rfl ?_
    obtain ⟨v9, ev9, h⟩ := Option.bind_eq_some_iff.mp h
    refine kv_gI gfX11_130 dX11_keepAct_11 ev9 ?_
    refine kw_iconst (v := nI 1) dX11_keepAct_14 (by decide) ?_
    refine kw_iadd dX11_keepAct_15 ?_
    refine kw_bipush (v := nI 24) dX11_keepAct_16 (by decide) ?_
    obtain ⟨r10, er10, h⟩ := Option.bind_eq_some_iff.mp h
    refine kw_callS (As := [.int (v9 + (nI 1)), .int (nI 24)]) (S := [.ref x0]) cbX11_keepAct_X11_rest lkX11_133 stX11_rest rfl rfl (Nat.le_of_ble_eq_true rfl) dX11_keepAct_18 (X11_rest_c G hp (v9 + (nI 1)) (nI 24) _ er10) (fun vv hh hq => ?_)
    rw [hq.1, hq.2]
    show kw_V G mX11_keepAct 21 [some (.ref x0)] [.int r10, .ref x0] hp Q
    obtain ⟨hp11, ehp11, h⟩ := Option.bind_eq_some_iff.mp h
    refine kv_put pfX11_keepAct_130 (fun _ => ⟨rfl, rfl⟩) dX11_keepAct_21 ehp11 ?_
    refine kw_aload_n dX11_keepAct_24 rfl ?_
    refine kw_dup dX11_keepAct_25 rfl ?_
    obtain ⟨v12, ev12, h⟩ := Option.bind_eq_some_iff.mp h
    refine kv_gI gfX11_126 dX11_keepAct_26 ev12 ?_
    refine kw_iconst (v := nI 1) dX11_keepAct_29 (by decide) ?_
    refine kw_isub dX11_keepAct_30 ?_
    obtain ⟨hp13, ehp13, h⟩ := Option.bind_eq_some_iff.mp h
    refine kv_put pfX11_keepAct_126 (fun _ => ⟨rfl, rfl⟩) dX11_keepAct_31 ehp13 ?_
    exact X11_keepAct_J34_t G Q hp13 x0 _ h hK
/-! KitchenWheels.weeks(I)I -/
def X11_weeks_K46 (G : kw_G) (Q : Option Value → kw_H → Prop) (x0 : Nat) (x1 : Int32) (r : (Int32 × kw_H) ⊕ (Int32 × kw_H)) : Prop := match r with
  | .inl z => kw_V G mX11_weeks 46 [some (.ref x0), some (.int x1), some (.int z.1)] [] z.2 Q
  | .inr r => Q (some (.int r.1)) r.2
def X11_weeks_J68 (hp : kw_H) (x0 : Nat) : Option (Int32 × kw_H) :=
  (kp_gR hp x0 [10] 2).bind fun v6 =>
  (kp_gI hp v6 [2] 8).bind fun v7 =>
  some ((v7, hp))
set_option maxRecDepth 100000 in
set_option maxHeartbeats 4000000 in
theorem X11_weeks_J68_t (G : kw_G) (Q : Option Value → kw_H → Prop) (hp : kw_H) (x0 : Nat) (r : Int32 × kw_H) (h : X11_weeks_J68 hp x0 = some r) (hK : Q (some (.int r.1)) r.2) : kw_V G mX11_weeks 68 [some (.ref x0), none, none] [] hp Q := by
  unfold X11_weeks_J68 at h
  refine kw_aload_n dX11_weeks_68 rfl ?_
  obtain ⟨v6, ev6, h⟩ := Option.bind_eq_some_iff.mp h
  refine kv_gR gfX11_26 dX11_weeks_69 ev6 ?_
  obtain ⟨v7, ev7, h⟩ := Option.bind_eq_some_iff.mp h
  refine kv_gI gfX11_149 dX11_weeks_72 ev7 ?_
  have h := Option.some.inj h
  subst h
  exact kw_iret rfl dX11_weeks_75 hK
def X11_weeks_b46 (x0 : Nat) (x1 : Int32) (x2 : Int32) (hp : kw_H) : Option (((Int32 × kw_H) ⊕ (Int32 × kw_H))) :=
  (if x1 ≤ x2 then
  (X11_weeks_J68 hp x0).map (fun r => .inr (r))
else
  ((kp_ob hp x0 10).bind fun _ => X11_keepAct_F hp x0).bind fun r9 =>
  (kp_gR r9 x0 [10] 2).bind fun v10 =>
  ((kp_ob r9 v10 2).bind fun _ => X2_passWeek_F r9 v10).bind fun r11 =>
  some (.inl (x2 + (nI 1), r11)))
set_option maxRecDepth 100000 in
set_option maxHeartbeats 4000000 in
theorem X11_weeks_b46_t (G : kw_G) (Q : Option Value → kw_H → Prop) (x0 : Nat) (x1 : Int32) (x2 : Int32) (hp : kw_H) (r : ((Int32 × kw_H) ⊕ (Int32 × kw_H))) (h : X11_weeks_b46 x0 x1 x2 hp = some r) (hK : X11_weeks_K46 G Q x0 x1 r) : kw_V G mX11_weeks 46 [some (.ref x0), some (.int x1), some (.int x2)] [] hp Q := by
  unfold X11_weeks_b46 at h
  refine kw_iload_n dX11_weeks_46 rfl ?_
  refine kw_iload_n dX11_weeks_47 rfl ?_
  refine kw_icmp_ge 68 dX11_weeks_48 (by decide) (fun c12 => ?_) (fun c12 => ?_)
  · have h := (if_pos c12).symm.trans h
    refine kw_mask [true, false, false] (L' := [some (.ref x0), none, none]) rfl ?_
    obtain ⟨r8, hr8, hrr8⟩ := Option.map_eq_some_iff.mp h
    subst hrr8
    exact X11_weeks_J68_t G Q hp x0 r8 hr8 hK
  · have h := (if_neg c12).symm.trans h
    refine kw_aload_n dX11_weeks_51 rfl ?_
    obtain ⟨r9, er9, h⟩ := Option.bind_eq_some_iff.mp h
    obtain ⟨ur9, eur9, er9⟩ := Option.bind_eq_some_iff.mp er9
    obtain ⟨fsr9, hor9⟩ := kp_ob_inv eur9
    refine kw_callV (As := []) (S := []) kcX11 cbX11_weeks_X11_keepAct lkX11_143 imX11_keepAct seX11_X11_keepAct_X11_keepAct rfl rfl (Nat.le_of_ble_eq_true rfl) dX11_weeks_52 hor9 (X11_keepAct_c G hp x0 _ er9) (fun vv hh hq => ?_)
    rw [hq.1, hq.2]
    show kw_V G mX11_weeks 55 [some (.ref x0), some (.int x1), some (.int x2)] [] r9 Q
    refine kw_aload_n dX11_weeks_55 rfl ?_
    obtain ⟨v10, ev10, h⟩ := Option.bind_eq_some_iff.mp h
    refine kv_gR gfX11_26 dX11_weeks_56 ev10 ?_
    obtain ⟨r11, er11, h⟩ := Option.bind_eq_some_iff.mp h
    obtain ⟨ur11, eur11, er11⟩ := Option.bind_eq_some_iff.mp er11
    obtain ⟨fsr11, hor11⟩ := kp_ob_inv eur11
    refine kw_callV (As := []) (S := []) kcX2 cbX11_weeks_X2_passWeek lkX11_146 imX2_passWeek seX2_X2_passWeek_X2_passWeek rfl rfl (Nat.le_of_ble_eq_true rfl) dX11_weeks_59 hor11 (X2_passWeek_c G r9 v10 _ er11) (fun vv hh hq => ?_)
    rw [hq.1, hq.2]
    show kw_V G mX11_weeks 62 [some (.ref x0), some (.int x1), some (.int x2)] [] r11 Q
    refine kv_iinc (w := nI 1) (L' := [some (.ref x0), some (.int x1), some (.int (x2 + (nI 1)))]) dX11_weeks_62 (by decide) rfl (by decide) rfl ?_
    refine kw_goto 46 dX11_weeks_65 (by decide) ?_
    have h := Option.some.inj h
    subst h
    exact hK
def X11_weeks_B46 (x0 : Nat) (x1 : Int32) (z : Int32 × kw_H) : Option (((Int32 × kw_H) ⊕ (Int32 × kw_H))) := X11_weeks_b46 x0 x1 z.1 z.2
theorem X11_weeks_L46_t (G : kw_G) (Q : Option Value → kw_H → Prop) (x0 : Nat) (x1 : Int32) (n : Nat) (z : Int32 × kw_H) (r : Int32 × kw_H) (h : kp_lp (X11_weeks_B46 x0 x1) n z = some r) (hK : Q (some (.int r.1)) r.2) : kw_V G mX11_weeks 46 [some (.ref x0), some (.int x1), some (.int z.1)] [] z.2 Q :=
  kv_lp _ (fun z => kw_V G mX11_weeks 46 [some (.ref x0), some (.int x1), some (.int z.1)] [] z.2 Q) (fun r => Q (some (.int r.1)) r.2) (fun z x hb hx => X11_weeks_b46_t G Q x0 x1 z.1 z.2 x hb (by cases x <;> exact hx)) n z r h hK
def X11_weeks_F (hp : kw_H) (x0 : Nat) (x1 : Int32) : Option (Int32 × kw_H) :=
  (kp_gR hp x0 [10] 2).bind fun v1 =>
  ((kp_ob hp v1 2).bind fun _ => X2_isThere_F hp v1).bind fun r2 =>
  (if r2 = 0 then
  some (((-1000002), hp))
else
  (X11_within_F hp x1 (nI 1) (nI 24)).bind fun r3 =>
  (if r3 = 0 then
  some (((-1000001), hp))
else
  (kp_gR hp x0 [10] 2).bind fun v4 =>
  (kp_gI hp v4 [2] 7).bind fun v5 =>
  (if (v5 + x1) ≤ (nI 999) then
  kp_lp (X11_weeks_B46 x0 x1) 2000 (nI 0, hp)
else
  some (((-1000003), hp)))))
set_option maxRecDepth 100000 in
set_option maxHeartbeats 4000000 in
theorem X11_weeks_c (G : kw_G) (hp : kw_H) (x0 : Nat) (x1 : Int32) (r : Int32 × kw_H) (h : X11_weeks_F hp x0 x1 = some r) : kw_Met G mX11_weeks [.ref x0, .int x1] hp (fun v h2 => v = some (.int r.1) ∧ h2 = r.2) := by
  refine kw_met (L := [some (.ref x0), some (.int x1), none]) (r := 1) (by decide +kernel) (Nat.le_of_ble_eq_true rfl) rfl ?_
  unfold X11_weeks_F at h
  obtain ⟨Q, hQ⟩ : ∃ Q : Option Value → kw_H → Prop, Q = (fun v h2 => v = some (.int r.1) ∧ h2 = r.2) := ⟨_, rfl⟩
  have hK : Q (some (.int r.1)) r.2 := by rw [hQ]; exact ⟨rfl, rfl⟩
  rw [← hQ]
  clear hQ
  refine kw_aload_n dX11_weeks_0 rfl ?_
  obtain ⟨v1, ev1, h⟩ := Option.bind_eq_some_iff.mp h
  refine kv_gR gfX11_26 dX11_weeks_1 ev1 ?_
  obtain ⟨r2, er2, h⟩ := Option.bind_eq_some_iff.mp h
  obtain ⟨ur2, eur2, er2⟩ := Option.bind_eq_some_iff.mp er2
  obtain ⟨fsr2, hor2⟩ := kp_ob_inv eur2
  refine kw_callV (As := []) (S := []) kcX2 cbX11_weeks_X2_isThere lkX11_137 imX2_isThere seX2_X2_isThere_X2_isThere rfl rfl (Nat.le_of_ble_eq_true rfl) dX11_weeks_4 hor2 (X2_isThere_c G hp v1 _ er2) (fun vv hh hq => ?_)
  rw [hq.1, hq.2]
  show kw_V G mX11_weeks 7 [some (.ref x0), some (.int x1), none] [.int r2] hp Q
  refine kw_if_ne 13 dX11_weeks_7 (by decide) (fun c15 => ?_) (fun c15 => ?_)
  · have h := (if_neg c15).symm.trans h
    refine kw_iload_n dX11_weeks_13 rfl ?_
    refine kw_iconst (v := nI 1) dX11_weeks_14 (by decide) ?_
    refine kw_bipush (v := nI 24) dX11_weeks_15 (by decide) ?_
    obtain ⟨r3, er3, h⟩ := Option.bind_eq_some_iff.mp h
    refine kw_callS (As := [.int x1, .int (nI 1), .int (nI 24)]) (S := []) cbX11_weeks_X11_within lkX11_55 stX11_within rfl rfl (Nat.le_of_ble_eq_true rfl) dX11_weeks_17 (X11_within_c G hp x1 (nI 1) (nI 24) _ er3) (fun vv hh hq => ?_)
    rw [hq.1, hq.2]
    show kw_V G mX11_weeks 20 [some (.ref x0), some (.int x1), none] [.int r3] hp Q
    refine kw_if_ne 26 dX11_weeks_20 (by decide) (fun c14 => ?_) (fun c14 => ?_)
    · have h := (if_neg c14).symm.trans h
      refine kw_aload_n dX11_weeks_26 rfl ?_
      obtain ⟨v4, ev4, h⟩ := Option.bind_eq_some_iff.mp h
      refine kv_gR gfX11_26 dX11_weeks_27 ev4 ?_
      obtain ⟨v5, ev5, h⟩ := Option.bind_eq_some_iff.mp h
      refine kv_gI gfX11_140 dX11_weeks_30 ev5 ?_
      refine kw_iload_n dX11_weeks_33 rfl ?_
      refine kw_iadd dX11_weeks_34 ?_
      refine kw_sipush (v := nI 999) dX11_weeks_35 (by decide) ?_
      refine kw_icmp_le 44 dX11_weeks_38 (by decide) (fun c13 => ?_) (fun c13 => ?_)
      · have h := (if_pos c13).symm.trans h
        refine kw_iconst (v := nI 0) dX11_weeks_44 (by decide) ?_
        refine kw_istore_n (L' := [some (.ref x0), some (.int x1), some (.int (nI 0))]) dX11_weeks_45 (by decide) rfl ?_
        exact X11_weeks_L46_t G Q x0 x1 _ (nI 0, hp) _ h hK
      · have h := (if_neg c13).symm.trans h
        refine kw_ldc (v := (-1000003)) dX11_weeks_41 ckX11_98 ?_
        have h := Option.some.inj h
        subst h
        exact kw_iret rfl dX11_weeks_43 hK
    · have h := (if_pos c14).symm.trans h
      refine kw_ldc (v := (-1000001)) dX11_weeks_23 ckX11_59 ?_
      have h := Option.some.inj h
      subst h
      exact kw_iret rfl dX11_weeks_25 hK
  · have h := (if_pos c15).symm.trans h
    refine kw_ldc (v := (-1000002)) dX11_weeks_10 ckX11_129 ?_
    have h := Option.some.inj h
    subst h
    exact kw_iret rfl dX11_weeks_12 hK
/-! KitchenWheels.leave(I)I -/
def X11_leave_F (hp : kw_H) (x0 : Nat) (x1 : Int32) : Option (Int32 × kw_H) :=
  (kp_gR hp x0 [10] 2).bind fun v1 =>
  ((kp_ob hp v1 2).bind fun _ => X2_isThere_F hp v1).bind fun r2 =>
  (if r2 = 0 then
  some (((-1000002), hp))
else
  (X11_isPerson_F hp x1).bind fun r3 =>
  (if r3 = 0 then
  some (((-1000001), hp))
else
  (kp_gR hp x0 [10] 2).bind fun v4 =>
  (kp_gI hp v4 [2] 9).bind fun v5 =>
  (X11_holds_F hp v5 x1).bind fun r6 =>
  (if r6 = 0 then
  ((kp_ob hp x0 10).bind fun _ => X11_keepAct_F hp x0).bind fun r7 =>
  (kp_gR r7 x0 [10] 2).bind fun v8 =>
  (kp_gI r7 v8 [2] 9).bind fun v9 =>
  (kp_put r7 v8 [2] 9 (.int (v9 ||| ((nI 1) <<< (x1 &&& 31))))).bind fun hp10 =>
  (kp_gR hp10 x0 [10] 2).bind fun v11 =>
  (kp_gI hp10 v11 [2] 9).bind fun v12 =>
  some ((v12, hp10))
else
  some (((-1000002), hp)))))
set_option maxRecDepth 100000 in
set_option maxHeartbeats 4000000 in
theorem X11_leave_c (G : kw_G) (hp : kw_H) (x0 : Nat) (x1 : Int32) (r : Int32 × kw_H) (h : X11_leave_F hp x0 x1 = some r) : kw_Met G mX11_leave [.ref x0, .int x1] hp (fun v h2 => v = some (.int r.1) ∧ h2 = r.2) := by
  refine kw_met (L := [some (.ref x0), some (.int x1)]) (r := 0) (by decide +kernel) (Nat.le_of_ble_eq_true rfl) rfl ?_
  unfold X11_leave_F at h
  obtain ⟨Q, hQ⟩ : ∃ Q : Option Value → kw_H → Prop, Q = (fun v h2 => v = some (.int r.1) ∧ h2 = r.2) := ⟨_, rfl⟩
  have hK : Q (some (.int r.1)) r.2 := by rw [hQ]; exact ⟨rfl, rfl⟩
  rw [← hQ]
  clear hQ
  refine kw_aload_n dX11_leave_0 rfl ?_
  obtain ⟨v1, ev1, h⟩ := Option.bind_eq_some_iff.mp h
  refine kv_gR gfX11_26 dX11_leave_1 ev1 ?_
  obtain ⟨r2, er2, h⟩ := Option.bind_eq_some_iff.mp h
  obtain ⟨ur2, eur2, er2⟩ := Option.bind_eq_some_iff.mp er2
  obtain ⟨fsr2, hor2⟩ := kp_ob_inv eur2
  refine kw_callV (As := []) (S := []) kcX2 cbX11_leave_X2_isThere lkX11_137 imX2_isThere seX2_X2_isThere_X2_isThere rfl rfl (Nat.le_of_ble_eq_true rfl) dX11_leave_4 hor2 (X2_isThere_c G hp v1 _ er2) (fun vv hh hq => ?_)
  rw [hq.1, hq.2]
  show kw_V G mX11_leave 7 [some (.ref x0), some (.int x1)] [.int r2] hp Q
  refine kw_if_ne 13 dX11_leave_7 (by decide) (fun c15 => ?_) (fun c15 => ?_)
  · have h := (if_neg c15).symm.trans h
    refine kw_iload_n dX11_leave_13 rfl ?_
    obtain ⟨r3, er3, h⟩ := Option.bind_eq_some_iff.mp h
    refine kw_callS (As := [.int x1]) (S := []) cbX11_leave_X11_isPerson lkX11_152 stX11_isPerson rfl rfl (Nat.le_of_ble_eq_true rfl) dX11_leave_14 (X11_isPerson_c G hp x1 _ er3) (fun vv hh hq => ?_)
    rw [hq.1, hq.2]
    show kw_V G mX11_leave 17 [some (.ref x0), some (.int x1)] [.int r3] hp Q
    refine kw_if_ne 23 dX11_leave_17 (by decide) (fun c14 => ?_) (fun c14 => ?_)
    · have h := (if_neg c14).symm.trans h
      refine kw_aload_n dX11_leave_23 rfl ?_
      obtain ⟨v4, ev4, h⟩ := Option.bind_eq_some_iff.mp h
      refine kv_gR gfX11_26 dX11_leave_24 ev4 ?_
      obtain ⟨v5, ev5, h⟩ := Option.bind_eq_some_iff.mp h
      refine kv_gI gfX11_155 dX11_leave_27 ev5 ?_
      refine kw_iload_n dX11_leave_30 rfl ?_
      obtain ⟨r6, er6, h⟩ := Option.bind_eq_some_iff.mp h
      refine kw_callS (As := [.int v5, .int x1]) (S := []) cbX11_leave_X11_holds lkX11_158 stX11_holds rfl rfl (Nat.le_of_ble_eq_true rfl) dX11_leave_31 (X11_holds_c G hp v5 x1 _ er6) (fun vv hh hq => ?_)
      rw [hq.1, hq.2]
      show kw_V G mX11_leave 34 [some (.ref x0), some (.int x1)] [.int r6] hp Q
      refine kw_if_eq 40 dX11_leave_34 (by decide) (fun c13 => ?_) (fun c13 => ?_)
      · have h := (if_pos c13).symm.trans h
        refine kw_aload_n dX11_leave_40 rfl ?_
        obtain ⟨r7, er7, h⟩ := Option.bind_eq_some_iff.mp h
        obtain ⟨ur7, eur7, er7⟩ := Option.bind_eq_some_iff.mp er7
        obtain ⟨fsr7, hor7⟩ := kp_ob_inv eur7
        refine kw_callV (As := []) (S := []) kcX11 cbX11_leave_X11_keepAct lkX11_143 imX11_keepAct seX11_X11_keepAct_X11_keepAct rfl rfl (Nat.le_of_ble_eq_true rfl) dX11_leave_41 hor7 (X11_keepAct_c G hp x0 _ er7) (fun vv hh hq => ?_)
        rw [hq.1, hq.2]
        show kw_V G mX11_leave 44 [some (.ref x0), some (.int x1)] [] r7 Q
        refine kw_aload_n dX11_leave_44 rfl ?_
        obtain ⟨v8, ev8, h⟩ := Option.bind_eq_some_iff.mp h
        refine kv_gR gfX11_26 dX11_leave_45 ev8 ?_
        refine kw_dup dX11_leave_48 rfl ?_
        obtain ⟨v9, ev9, h⟩ := Option.bind_eq_some_iff.mp h
        refine kv_gI gfX11_155 dX11_leave_49 ev9 ?_
        refine kw_iconst (v := nI 1) dX11_leave_52 (by decide) ?_
        refine kw_iload_n dX11_leave_53 rfl ?_
        refine kw_ishl dX11_leave_54 ?_
        refine kw_ior dX11_leave_55 ?_
        obtain ⟨hp10, ehp10, h⟩ := Option.bind_eq_some_iff.mp h
        refine kv_put pfX11_leave_155 (fun _ => ⟨rfl, rfl⟩) dX11_leave_56 ehp10 ?_
        refine kw_aload_n dX11_leave_59 rfl ?_
        obtain ⟨v11, ev11, h⟩ := Option.bind_eq_some_iff.mp h
        refine kv_gR gfX11_26 dX11_leave_60 ev11 ?_
        obtain ⟨v12, ev12, h⟩ := Option.bind_eq_some_iff.mp h
        refine kv_gI gfX11_155 dX11_leave_63 ev12 ?_
        have h := Option.some.inj h
        subst h
        exact kw_iret rfl dX11_leave_66 hK
      · have h := (if_neg c13).symm.trans h
        refine kw_ldc (v := (-1000002)) dX11_leave_37 ckX11_129 ?_
        have h := Option.some.inj h
        subst h
        exact kw_iret rfl dX11_leave_39 hK
    · have h := (if_pos c14).symm.trans h
      refine kw_ldc (v := (-1000001)) dX11_leave_20 ckX11_59 ?_
      have h := Option.some.inj h
      subst h
      exact kw_iret rfl dX11_leave_22 hK
  · have h := (if_pos c15).symm.trans h
    refine kw_ldc (v := (-1000002)) dX11_leave_10 ckX11_129 ?_
    have h := Option.some.inj h
    subst h
    exact kw_iret rfl dX11_leave_12 hK
/-! KitchenWheels.write([IIII)I -/
def X11_write_F (hp : kw_H) (x0 : Nat) (x1 : Nat) (x2 : Int32) (x3 : Int32) (x4 : Int32) : Option (Int32 × kw_H) :=
  (X11_within_F hp x3 (nI 0) (x2 - (nI 1))).bind fun r1 =>
  (if r1 = 0 then
  some (((-1000001), hp))
else
  (kp_len hp x1).bind fun v2 =>
  (if v2 ≤ x3 then
  some (((-1000001), hp))
else
  (X11_within_F hp x4 (nI 0) (nI 6)).bind fun r3 =>
  (if r3 = 0 then
  some (((-1000001), hp))
else
  ((kp_ob hp x0 10).bind fun _ => X11_keepAct_F hp x0).bind fun r4 =>
  (kp_ldI r4 x1 x3).bind fun v5 =>
  (kp_stI r4 x1 x3 x4).bind fun hp6 =>
  some ((v5, hp6)))))
set_option maxRecDepth 100000 in
set_option maxHeartbeats 4000000 in
theorem X11_write_c (G : kw_G) (hp : kw_H) (x0 : Nat) (x1 : Nat) (x2 : Int32) (x3 : Int32) (x4 : Int32) (r : Int32 × kw_H) (h : X11_write_F hp x0 x1 x2 x3 x4 = some r) : kw_Met G mX11_write [.ref x0, .ref x1, .int x2, .int x3, .int x4] hp (fun v h2 => v = some (.int r.1) ∧ h2 = r.2) := by
  refine kw_met (L := [some (.ref x0), some (.ref x1), some (.int x2), some (.int x3), some (.int x4), none]) (r := 1) (by decide +kernel) (Nat.le_of_ble_eq_true rfl) rfl ?_
  unfold X11_write_F at h
  obtain ⟨Q, hQ⟩ : ∃ Q : Option Value → kw_H → Prop, Q = (fun v h2 => v = some (.int r.1) ∧ h2 = r.2) := ⟨_, rfl⟩
  have hK : Q (some (.int r.1)) r.2 := by rw [hQ]; exact ⟨rfl, rfl⟩
  rw [← hQ]
  clear hQ
  refine kw_iload_n dX11_write_0 rfl ?_
  refine kw_iconst (v := nI 0) dX11_write_1 (by decide) ?_
  refine kw_iload_n dX11_write_2 rfl ?_
  refine kw_iconst (v := nI 1) dX11_write_3 (by decide) ?_
  refine kw_isub dX11_write_4 ?_
  obtain ⟨r1, er1, h⟩ := Option.bind_eq_some_iff.mp h
  refine kw_callS (As := [.int x3, .int (nI 0), .int (x2 - (nI 1))]) (S := []) cbX11_write_X11_within lkX11_55 stX11_within rfl rfl (Nat.le_of_ble_eq_true rfl) dX11_write_5 (X11_within_c G hp x3 (nI 0) (x2 - (nI 1)) _ er1) (fun vv hh hq => ?_)
  rw [hq.1, hq.2]
  show kw_V G mX11_write 8 [some (.ref x0), some (.ref x1), some (.int x2), some (.int x3), some (.int x4), none] [.int r1] hp Q
  refine kw_if_eq 28 dX11_write_8 (by decide) (fun c9 => ?_) (fun c9 => ?_)
  · have h := (if_pos c9).symm.trans h
    refine kw_ldc (v := (-1000001)) dX11_write_28 ckX11_59 ?_
    have h := Option.some.inj h
    subst h
    exact kw_iret rfl dX11_write_30 hK
  · have h := (if_neg c9).symm.trans h
    refine kw_iload_n dX11_write_11 rfl ?_
    refine kw_aload_n dX11_write_12 rfl ?_
    obtain ⟨v2, ev2, h⟩ := Option.bind_eq_some_iff.mp h
    refine kv_len dX11_write_13 ev2 ?_
    refine kw_icmp_ge 28 dX11_write_14 (by decide) (fun c8 => ?_) (fun c8 => ?_)
    · have h := (if_pos c8).symm.trans h
      refine kw_ldc (v := (-1000001)) dX11_write_28 ckX11_59 ?_
      have h := Option.some.inj h
      subst h
      exact kw_iret rfl dX11_write_30 hK
    · have h := (if_neg c8).symm.trans h
      refine kw_iload dX11_write_17 rfl ?_
      refine kw_iconst (v := nI 0) dX11_write_19 (by decide) ?_
      refine kw_bipush (v := nI 6) dX11_write_20 (by decide) ?_
      obtain ⟨r3, er3, h⟩ := Option.bind_eq_some_iff.mp h
      refine kw_callS (As := [.int x4, .int (nI 0), .int (nI 6)]) (S := []) cbX11_write_X11_within lkX11_55 stX11_within rfl rfl (Nat.le_of_ble_eq_true rfl) dX11_write_22 (X11_within_c G hp x4 (nI 0) (nI 6) _ er3) (fun vv hh hq => ?_)
      rw [hq.1, hq.2]
      show kw_V G mX11_write 25 [some (.ref x0), some (.ref x1), some (.int x2), some (.int x3), some (.int x4), none] [.int r3] hp Q
      refine kw_if_ne 31 dX11_write_25 (by decide) (fun c7 => ?_) (fun c7 => ?_)
      · have h := (if_neg c7).symm.trans h
        refine kw_aload_n dX11_write_31 rfl ?_
        obtain ⟨r4, er4, h⟩ := Option.bind_eq_some_iff.mp h
        obtain ⟨ur4, eur4, er4⟩ := Option.bind_eq_some_iff.mp er4
        obtain ⟨fsr4, hor4⟩ := kp_ob_inv eur4
        refine kw_callV (As := []) (S := []) kcX11 cbX11_write_X11_keepAct lkX11_143 imX11_keepAct seX11_X11_keepAct_X11_keepAct rfl rfl (Nat.le_of_ble_eq_true rfl) dX11_write_32 hor4 (X11_keepAct_c G hp x0 _ er4) (fun vv hh hq => ?_)
        rw [hq.1, hq.2]
        show kw_V G mX11_write 35 [some (.ref x0), some (.ref x1), some (.int x2), some (.int x3), some (.int x4), none] [] r4 Q
        refine kw_aload_n dX11_write_35 rfl ?_
        refine kw_iload_n dX11_write_36 rfl ?_
        obtain ⟨v5, ev5, h⟩ := Option.bind_eq_some_iff.mp h
        refine kv_ldI dX11_write_37 ev5 ?_
        refine kw_istore (L' := [some (.ref x0), some (.ref x1), some (.int x2), some (.int x3), some (.int x4), some (.int v5)]) dX11_write_38 (by decide) rfl ?_
        refine kw_aload_n dX11_write_40 rfl ?_
        refine kw_iload_n dX11_write_41 rfl ?_
        refine kw_iload dX11_write_42 rfl ?_
        obtain ⟨hp6, ehp6, h⟩ := Option.bind_eq_some_iff.mp h
        refine kv_stI dX11_write_44 ehp6 ?_
        refine kw_iload dX11_write_45 rfl ?_
        have h := Option.some.inj h
        subst h
        exact kw_iret rfl dX11_write_47 hK
      · have h := (if_pos c7).symm.trans h
        refine kw_ldc (v := (-1000001)) dX11_write_28 ckX11_59 ?_
        have h := Option.some.inj h
        subst h
        exact kw_iret rfl dX11_write_30 hK
/-! KitchenWheels.name(II)I -/
def X11_name_F (hp : kw_H) (x0 : Nat) (x1 : Int32) (x2 : Int32) : Option (Int32 × kw_H) :=
  (kp_gR hp x0 [10] 2).bind fun v1 =>
  ((kp_ob hp v1 2).bind fun _ => X2_isThere_F hp v1).bind fun r2 =>
  (if r2 = 0 then
  some (((-1000002), hp))
else
  (kp_gR hp x0 [10] 2).bind fun v3 =>
  (kp_gR hp v3 [2] 0).bind fun v4 =>
  (kp_gR hp x0 [10] 2).bind fun v5 =>
  (kp_gI hp v5 [2] 4).bind fun v6 =>
  ((kp_ob hp x0 10).bind fun _ => X11_write_F hp x0 v4 v6 x1 x2).bind fun r7 =>
  some ((r7.1, r7.2)))
set_option maxRecDepth 100000 in
set_option maxHeartbeats 4000000 in
theorem X11_name_c (G : kw_G) (hp : kw_H) (x0 : Nat) (x1 : Int32) (x2 : Int32) (r : Int32 × kw_H) (h : X11_name_F hp x0 x1 x2 = some r) : kw_Met G mX11_name [.ref x0, .int x1, .int x2] hp (fun v h2 => v = some (.int r.1) ∧ h2 = r.2) := by
  refine kw_met (L := [some (.ref x0), some (.int x1), some (.int x2)]) (r := 0) (by decide +kernel) (Nat.le_of_ble_eq_true rfl) rfl ?_
  unfold X11_name_F at h
  obtain ⟨Q, hQ⟩ : ∃ Q : Option Value → kw_H → Prop, Q = (fun v h2 => v = some (.int r.1) ∧ h2 = r.2) := ⟨_, rfl⟩
  have hK : Q (some (.int r.1)) r.2 := by rw [hQ]; exact ⟨rfl, rfl⟩
  rw [← hQ]
  clear hQ
  refine kw_aload_n dX11_name_0 rfl ?_
  obtain ⟨v1, ev1, h⟩ := Option.bind_eq_some_iff.mp h
  refine kv_gR gfX11_26 dX11_name_1 ev1 ?_
  obtain ⟨r2, er2, h⟩ := Option.bind_eq_some_iff.mp h
  obtain ⟨ur2, eur2, er2⟩ := Option.bind_eq_some_iff.mp er2
  obtain ⟨fsr2, hor2⟩ := kp_ob_inv eur2
  refine kw_callV (As := []) (S := []) kcX2 cbX11_name_X2_isThere lkX11_137 imX2_isThere seX2_X2_isThere_X2_isThere rfl rfl (Nat.le_of_ble_eq_true rfl) dX11_name_4 hor2 (X2_isThere_c G hp v1 _ er2) (fun vv hh hq => ?_)
  rw [hq.1, hq.2]
  show kw_V G mX11_name 7 [some (.ref x0), some (.int x1), some (.int x2)] [.int r2] hp Q
  refine kw_if_eq 33 dX11_name_7 (by decide) (fun c8 => ?_) (fun c8 => ?_)
  · have h := (if_pos c8).symm.trans h
    refine kw_ldc (v := (-1000002)) dX11_name_33 ckX11_129 ?_
    have h := Option.some.inj h
    subst h
    exact kw_iret rfl dX11_name_35 hK
  · have h := (if_neg c8).symm.trans h
    refine kw_aload_n dX11_name_10 rfl ?_
    refine kw_aload_n dX11_name_11 rfl ?_
    obtain ⟨v3, ev3, h⟩ := Option.bind_eq_some_iff.mp h
    refine kv_gR gfX11_26 dX11_name_12 ev3 ?_
    obtain ⟨v4, ev4, h⟩ := Option.bind_eq_some_iff.mp h
    refine kv_gR gfX11_162 dX11_name_15 ev4 ?_
    refine kw_aload_n dX11_name_18 rfl ?_
    obtain ⟨v5, ev5, h⟩ := Option.bind_eq_some_iff.mp h
    refine kv_gR gfX11_26 dX11_name_19 ev5 ?_
    obtain ⟨v6, ev6, h⟩ := Option.bind_eq_some_iff.mp h
    refine kv_gI gfX11_166 dX11_name_22 ev6 ?_
    refine kw_iload_n dX11_name_25 rfl ?_
    refine kw_iload_n dX11_name_26 rfl ?_
    obtain ⟨r7, er7, h⟩ := Option.bind_eq_some_iff.mp h
    obtain ⟨ur7, eur7, er7⟩ := Option.bind_eq_some_iff.mp er7
    obtain ⟨fsr7, hor7⟩ := kp_ob_inv eur7
    refine kw_callV (As := [.ref v4, .int v6, .int x1, .int x2]) (S := []) kcX11 cbX11_name_X11_write lkX11_169 imX11_write seX11_X11_write_X11_write rfl rfl (Nat.le_of_ble_eq_true rfl) dX11_name_27 hor7 (X11_write_c G hp x0 v4 v6 x1 x2 _ er7) (fun vv hh hq => ?_)
    rw [hq.1, hq.2]
    show kw_V G mX11_name 30 [some (.ref x0), some (.int x1), some (.int x2)] [.int r7.1] r7.2 Q
    refine kw_goto 35 dX11_name_30 (by decide) ?_
    have h := Option.some.inj h
    subst h
    exact kw_iret rfl dX11_name_35 hK
/-! KitchenWheels.job(II)I -/
def X11_job_F (hp : kw_H) (x0 : Nat) (x1 : Int32) (x2 : Int32) : Option (Int32 × kw_H) :=
  (kp_gR hp x0 [10] 2).bind fun v1 =>
  ((kp_ob hp v1 2).bind fun _ => X2_isThere_F hp v1).bind fun r2 =>
  (if r2 = 0 then
  some (((-1000002), hp))
else
  (kp_gR hp x0 [10] 2).bind fun v3 =>
  (kp_gR hp v3 [2] 1).bind fun v4 =>
  (kp_gR hp x0 [10] 2).bind fun v5 =>
  (kp_gI hp v5 [2] 5).bind fun v6 =>
  ((kp_ob hp x0 10).bind fun _ => X11_write_F hp x0 v4 v6 x1 x2).bind fun r7 =>
  some ((r7.1, r7.2)))
set_option maxRecDepth 100000 in
set_option maxHeartbeats 4000000 in
theorem X11_job_c (G : kw_G) (hp : kw_H) (x0 : Nat) (x1 : Int32) (x2 : Int32) (r : Int32 × kw_H) (h : X11_job_F hp x0 x1 x2 = some r) : kw_Met G mX11_job [.ref x0, .int x1, .int x2] hp (fun v h2 => v = some (.int r.1) ∧ h2 = r.2) := by
  refine kw_met (L := [some (.ref x0), some (.int x1), some (.int x2)]) (r := 0) (by decide +kernel) (Nat.le_of_ble_eq_true rfl) rfl ?_
  unfold X11_job_F at h
  obtain ⟨Q, hQ⟩ : ∃ Q : Option Value → kw_H → Prop, Q = (fun v h2 => v = some (.int r.1) ∧ h2 = r.2) := ⟨_, rfl⟩
  have hK : Q (some (.int r.1)) r.2 := by rw [hQ]; exact ⟨rfl, rfl⟩
  rw [← hQ]
  clear hQ
  refine kw_aload_n dX11_job_0 rfl ?_
  obtain ⟨v1, ev1, h⟩ := Option.bind_eq_some_iff.mp h
  refine kv_gR gfX11_26 dX11_job_1 ev1 ?_
  obtain ⟨r2, er2, h⟩ := Option.bind_eq_some_iff.mp h
  obtain ⟨ur2, eur2, er2⟩ := Option.bind_eq_some_iff.mp er2
  obtain ⟨fsr2, hor2⟩ := kp_ob_inv eur2
  refine kw_callV (As := []) (S := []) kcX2 cbX11_job_X2_isThere lkX11_137 imX2_isThere seX2_X2_isThere_X2_isThere rfl rfl (Nat.le_of_ble_eq_true rfl) dX11_job_4 hor2 (X2_isThere_c G hp v1 _ er2) (fun vv hh hq => ?_)
  rw [hq.1, hq.2]
  show kw_V G mX11_job 7 [some (.ref x0), some (.int x1), some (.int x2)] [.int r2] hp Q
  refine kw_if_eq 33 dX11_job_7 (by decide) (fun c8 => ?_) (fun c8 => ?_)
  · have h := (if_pos c8).symm.trans h
    refine kw_ldc (v := (-1000002)) dX11_job_33 ckX11_129 ?_
    have h := Option.some.inj h
    subst h
    exact kw_iret rfl dX11_job_35 hK
  · have h := (if_neg c8).symm.trans h
    refine kw_aload_n dX11_job_10 rfl ?_
    refine kw_aload_n dX11_job_11 rfl ?_
    obtain ⟨v3, ev3, h⟩ := Option.bind_eq_some_iff.mp h
    refine kv_gR gfX11_26 dX11_job_12 ev3 ?_
    obtain ⟨v4, ev4, h⟩ := Option.bind_eq_some_iff.mp h
    refine kv_gR gfX11_173 dX11_job_15 ev4 ?_
    refine kw_aload_n dX11_job_18 rfl ?_
    obtain ⟨v5, ev5, h⟩ := Option.bind_eq_some_iff.mp h
    refine kv_gR gfX11_26 dX11_job_19 ev5 ?_
    obtain ⟨v6, ev6, h⟩ := Option.bind_eq_some_iff.mp h
    refine kv_gI gfX11_176 dX11_job_22 ev6 ?_
    refine kw_iload_n dX11_job_25 rfl ?_
    refine kw_iload_n dX11_job_26 rfl ?_
    obtain ⟨r7, er7, h⟩ := Option.bind_eq_some_iff.mp h
    obtain ⟨ur7, eur7, er7⟩ := Option.bind_eq_some_iff.mp er7
    obtain ⟨fsr7, hor7⟩ := kp_ob_inv eur7
    refine kw_callV (As := [.ref v4, .int v6, .int x1, .int x2]) (S := []) kcX11 cbX11_job_X11_write lkX11_169 imX11_write seX11_X11_write_X11_write rfl rfl (Nat.le_of_ble_eq_true rfl) dX11_job_27 hor7 (X11_write_c G hp x0 v4 v6 x1 x2 _ er7) (fun vv hh hq => ?_)
    rw [hq.1, hq.2]
    show kw_V G mX11_job 30 [some (.ref x0), some (.int x1), some (.int x2)] [.int r7.1] r7.2 Q
    refine kw_goto 35 dX11_job_30 (by decide) ?_
    have h := Option.some.inj h
    subst h
    exact kw_iret rfl dX11_job_35 hK
/-! KitchenWheels.turn(I)I -/
def X11_turn_F (hp : kw_H) (x0 : Nat) (x1 : Int32) : Option (Int32 × kw_H) :=
  (kp_gR hp x0 [10] 2).bind fun v1 =>
  ((kp_ob hp v1 2).bind fun _ => X2_isThere_F hp v1).bind fun r2 =>
  (if r2 = 0 then
  some (((-1000002), hp))
else
  (X11_within_F hp x1 (nI 1) (nI 8)).bind fun r3 =>
  (if r3 = 0 then
  some (((-1000001), hp))
else
  ((kp_ob hp x0 10).bind fun _ => X11_keepAct_F hp x0).bind fun r4 =>
  (kp_gR r4 x0 [10] 2).bind fun v5 =>
  (kp_gR r4 x0 [10] 2).bind fun v6 =>
  (kp_gI r4 v6 [2] 8).bind fun v7 =>
  (kp_gR r4 x0 [10] 2).bind fun v8 =>
  (kp_gI r4 v8 [2] 5).bind fun v9 =>
  (X11_rest_F r4 (v7 + x1) v9).bind fun r10 =>
  (kp_put r4 v5 [2] 8 (.int r10)).bind fun hp11 =>
  (kp_gR hp11 x0 [10] 2).bind fun v12 =>
  (kp_gI hp11 v12 [2] 8).bind fun v13 =>
  some ((v13, hp11))))
set_option maxRecDepth 100000 in
set_option maxHeartbeats 4000000 in
theorem X11_turn_c (G : kw_G) (hp : kw_H) (x0 : Nat) (x1 : Int32) (r : Int32 × kw_H) (h : X11_turn_F hp x0 x1 = some r) : kw_Met G mX11_turn [.ref x0, .int x1] hp (fun v h2 => v = some (.int r.1) ∧ h2 = r.2) := by
  refine kw_met (L := [some (.ref x0), some (.int x1)]) (r := 0) (by decide +kernel) (Nat.le_of_ble_eq_true rfl) rfl ?_
  unfold X11_turn_F at h
  obtain ⟨Q, hQ⟩ : ∃ Q : Option Value → kw_H → Prop, Q = (fun v h2 => v = some (.int r.1) ∧ h2 = r.2) := ⟨_, rfl⟩
  have hK : Q (some (.int r.1)) r.2 := by rw [hQ]; exact ⟨rfl, rfl⟩
  rw [← hQ]
  clear hQ
  refine kw_aload_n dX11_turn_0 rfl ?_
  obtain ⟨v1, ev1, h⟩ := Option.bind_eq_some_iff.mp h
  refine kv_gR gfX11_26 dX11_turn_1 ev1 ?_
  obtain ⟨r2, er2, h⟩ := Option.bind_eq_some_iff.mp h
  obtain ⟨ur2, eur2, er2⟩ := Option.bind_eq_some_iff.mp er2
  obtain ⟨fsr2, hor2⟩ := kp_ob_inv eur2
  refine kw_callV (As := []) (S := []) kcX2 cbX11_turn_X2_isThere lkX11_137 imX2_isThere seX2_X2_isThere_X2_isThere rfl rfl (Nat.le_of_ble_eq_true rfl) dX11_turn_4 hor2 (X2_isThere_c G hp v1 _ er2) (fun vv hh hq => ?_)
  rw [hq.1, hq.2]
  show kw_V G mX11_turn 7 [some (.ref x0), some (.int x1)] [.int r2] hp Q
  refine kw_if_ne 13 dX11_turn_7 (by decide) (fun c15 => ?_) (fun c15 => ?_)
  · have h := (if_neg c15).symm.trans h
    refine kw_iload_n dX11_turn_13 rfl ?_
    refine kw_iconst (v := nI 1) dX11_turn_14 (by decide) ?_
    refine kw_bipush (v := nI 8) dX11_turn_15 (by decide) ?_
    obtain ⟨r3, er3, h⟩ := Option.bind_eq_some_iff.mp h
    refine kw_callS (As := [.int x1, .int (nI 1), .int (nI 8)]) (S := []) cbX11_turn_X11_within lkX11_55 stX11_within rfl rfl (Nat.le_of_ble_eq_true rfl) dX11_turn_17 (X11_within_c G hp x1 (nI 1) (nI 8) _ er3) (fun vv hh hq => ?_)
    rw [hq.1, hq.2]
    show kw_V G mX11_turn 20 [some (.ref x0), some (.int x1)] [.int r3] hp Q
    refine kw_if_ne 26 dX11_turn_20 (by decide) (fun c14 => ?_) (fun c14 => ?_)
    · have h := (if_neg c14).symm.trans h
      refine kw_aload_n dX11_turn_26 rfl ?_
      obtain ⟨r4, er4, h⟩ := Option.bind_eq_some_iff.mp h
      obtain ⟨ur4, eur4, er4⟩ := Option.bind_eq_some_iff.mp er4
      obtain ⟨fsr4, hor4⟩ := kp_ob_inv eur4
      refine kw_callV (As := []) (S := []) kcX11 cbX11_turn_X11_keepAct lkX11_143 imX11_keepAct seX11_X11_keepAct_X11_keepAct rfl rfl (Nat.le_of_ble_eq_true rfl) dX11_turn_27 hor4 (X11_keepAct_c G hp x0 _ er4) (fun vv hh hq => ?_)
      rw [hq.1, hq.2]
      show kw_V G mX11_turn 30 [some (.ref x0), some (.int x1)] [] r4 Q
      refine kw_aload_n dX11_turn_30 rfl ?_
      obtain ⟨v5, ev5, h⟩ := Option.bind_eq_some_iff.mp h
      refine kv_gR gfX11_26 dX11_turn_31 ev5 ?_
      refine kw_aload_n dX11_turn_34 rfl ?_
      obtain ⟨v6, ev6, h⟩ := Option.bind_eq_some_iff.mp h
      refine kv_gR gfX11_26 dX11_turn_35 ev6 ?_
      obtain ⟨v7, ev7, h⟩ := Option.bind_eq_some_iff.mp h
      refine kv_gI gfX11_149 dX11_turn_38 ev7 ?_
      refine kw_iload_n dX11_turn_41 rfl ?_
      refine kw_iadd dX11_turn_42 ?_
      refine kw_aload_n dX11_turn_43 rfl ?_
      obtain ⟨v8, ev8, h⟩ := Option.bind_eq_some_iff.mp h
      refine kv_gR gfX11_26 dX11_turn_44 ev8 ?_
      obtain ⟨v9, ev9, h⟩ := Option.bind_eq_some_iff.mp h
      refine kv_gI gfX11_176 dX11_turn_47 ev9 ?_
      obtain ⟨r10, er10, h⟩ := Option.bind_eq_some_iff.mp h
      refine kw_callS (As := [.int (v7 + x1), .int v9]) (S := [.ref v5]) cbX11_turn_X11_rest lkX11_133 stX11_rest rfl rfl (Nat.le_of_ble_eq_true rfl) dX11_turn_50 (X11_rest_c G r4 (v7 + x1) v9 _ er10) (fun vv hh hq => ?_)
      rw [hq.1, hq.2]
      show kw_V G mX11_turn 53 [some (.ref x0), some (.int x1)] [.int r10, .ref v5] r4 Q
      obtain ⟨hp11, ehp11, h⟩ := Option.bind_eq_some_iff.mp h
      refine kv_put pfX11_turn_149 (fun _ => ⟨rfl, rfl⟩) dX11_turn_53 ehp11 ?_
      refine kw_aload_n dX11_turn_56 rfl ?_
      obtain ⟨v12, ev12, h⟩ := Option.bind_eq_some_iff.mp h
      refine kv_gR gfX11_26 dX11_turn_57 ev12 ?_
      obtain ⟨v13, ev13, h⟩ := Option.bind_eq_some_iff.mp h
      refine kv_gI gfX11_149 dX11_turn_60 ev13 ?_
      have h := Option.some.inj h
      subst h
      exact kw_iret rfl dX11_turn_63 hK
    · have h := (if_pos c14).symm.trans h
      refine kw_ldc (v := (-1000001)) dX11_turn_23 ckX11_59 ?_
      have h := Option.some.inj h
      subst h
      exact kw_iret rfl dX11_turn_25 hK
  · have h := (if_pos c15).symm.trans h
    refine kw_ldc (v := (-1000002)) dX11_turn_10 ckX11_129 ?_
    have h := Option.some.inj h
    subst h
    exact kw_iret rfl dX11_turn_12 hK
/-! KitchenWheels.done(II)I -/
def X11_done_F (hp : kw_H) (x0 : Nat) (x1 : Int32) (x2 : Int32) : Option (Int32) :=
  (kp_gR hp x0 [10] 2).bind fun v1 =>
  ((kp_ob hp v1 2).bind fun _ => X2_isThere_F hp v1).bind fun r2 =>
  (if r2 = 0 then
  some ((-1000002))
else
  (X11_isPerson_F hp x1).bind fun r3 =>
  (if r3 = 0 then
  some ((-1000001))
else
  (X11_isJob_F hp x2).bind fun r4 =>
  (if r4 = 0 then
  some ((-1000001))
else
  (kp_gR hp x0 [10] 2).bind fun v5 =>
  (kp_gR hp v5 [2] 3).bind fun v6 =>
  (kp_ldI hp v6 ((x1 * (nI 6)) + x2)).bind fun v7 =>
  some (v7))))
set_option maxRecDepth 100000 in
set_option maxHeartbeats 4000000 in
theorem X11_done_c (G : kw_G) (hp : kw_H) (x0 : Nat) (x1 : Int32) (x2 : Int32) (r : Int32) (h : X11_done_F hp x0 x1 x2 = some r) : kw_Met G mX11_done [.ref x0, .int x1, .int x2] hp (fun v h2 => v = some (.int r) ∧ h2 = hp) := by
  refine kw_met (L := [some (.ref x0), some (.int x1), some (.int x2)]) (r := 0) (by decide +kernel) (Nat.le_of_ble_eq_true rfl) rfl ?_
  unfold X11_done_F at h
  obtain ⟨Q, hQ⟩ : ∃ Q : Option Value → kw_H → Prop, Q = (fun v h2 => v = some (.int r) ∧ h2 = hp) := ⟨_, rfl⟩
  have hK : Q (some (.int r)) hp := by rw [hQ]; exact ⟨rfl, rfl⟩
  rw [← hQ]
  clear hQ
  refine kw_aload_n dX11_done_0 rfl ?_
  obtain ⟨v1, ev1, h⟩ := Option.bind_eq_some_iff.mp h
  refine kv_gR gfX11_26 dX11_done_1 ev1 ?_
  obtain ⟨r2, er2, h⟩ := Option.bind_eq_some_iff.mp h
  obtain ⟨ur2, eur2, er2⟩ := Option.bind_eq_some_iff.mp er2
  obtain ⟨fsr2, hor2⟩ := kp_ob_inv eur2
  refine kw_callV (As := []) (S := []) kcX2 cbX11_done_X2_isThere lkX11_137 imX2_isThere seX2_X2_isThere_X2_isThere rfl rfl (Nat.le_of_ble_eq_true rfl) dX11_done_4 hor2 (X2_isThere_c G hp v1 _ er2) (fun vv hh hq => ?_)
  rw [hq.1, hq.2]
  show kw_V G mX11_done 7 [some (.ref x0), some (.int x1), some (.int x2)] [.int r2] hp Q
  refine kw_if_ne 13 dX11_done_7 (by decide) (fun c10 => ?_) (fun c10 => ?_)
  · have h := (if_neg c10).symm.trans h
    refine kw_iload_n dX11_done_13 rfl ?_
    obtain ⟨r3, er3, h⟩ := Option.bind_eq_some_iff.mp h
    refine kw_callS (As := [.int x1]) (S := []) cbX11_done_X11_isPerson lkX11_152 stX11_isPerson rfl rfl (Nat.le_of_ble_eq_true rfl) dX11_done_14 (X11_isPerson_c G hp x1 _ er3) (fun vv hh hq => ?_)
    rw [hq.1, hq.2]
    show kw_V G mX11_done 17 [some (.ref x0), some (.int x1), some (.int x2)] [.int r3] hp Q
    refine kw_if_eq 44 dX11_done_17 (by decide) (fun c9 => ?_) (fun c9 => ?_)
    · have h := (if_pos c9).symm.trans h
      refine kw_ldc (v := (-1000001)) dX11_done_44 ckX11_59 ?_
      have h := Option.some.inj h
      subst h
      exact kw_iret rfl dX11_done_46 hK
    · have h := (if_neg c9).symm.trans h
      refine kw_iload_n dX11_done_20 rfl ?_
      obtain ⟨r4, er4, h⟩ := Option.bind_eq_some_iff.mp h
      refine kw_callS (As := [.int x2]) (S := []) cbX11_done_X11_isJob lkX11_179 stX11_isJob rfl rfl (Nat.le_of_ble_eq_true rfl) dX11_done_21 (X11_isJob_c G hp x2 _ er4) (fun vv hh hq => ?_)
      rw [hq.1, hq.2]
      show kw_V G mX11_done 24 [some (.ref x0), some (.int x1), some (.int x2)] [.int r4] hp Q
      refine kw_if_eq 44 dX11_done_24 (by decide) (fun c8 => ?_) (fun c8 => ?_)
      · have h := (if_pos c8).symm.trans h
        refine kw_ldc (v := (-1000001)) dX11_done_44 ckX11_59 ?_
        have h := Option.some.inj h
        subst h
        exact kw_iret rfl dX11_done_46 hK
      · have h := (if_neg c8).symm.trans h
        refine kw_aload_n dX11_done_27 rfl ?_
        obtain ⟨v5, ev5, h⟩ := Option.bind_eq_some_iff.mp h
        refine kv_gR gfX11_26 dX11_done_28 ev5 ?_
        obtain ⟨v6, ev6, h⟩ := Option.bind_eq_some_iff.mp h
        refine kv_gR gfX11_182 dX11_done_31 ev6 ?_
        refine kw_iload_n dX11_done_34 rfl ?_
        refine kw_bipush (v := nI 6) dX11_done_35 (by decide) ?_
        refine kw_imul dX11_done_37 ?_
        refine kw_iload_n dX11_done_38 rfl ?_
        refine kw_iadd dX11_done_39 ?_
        obtain ⟨v7, ev7, h⟩ := Option.bind_eq_some_iff.mp h
        refine kv_ldI dX11_done_40 ev7 ?_
        refine kw_goto 46 dX11_done_41 (by decide) ?_
        have h := Option.some.inj h
        subst h
        exact kw_iret rfl dX11_done_46 hK
  · have h := (if_pos c10).symm.trans h
    refine kw_ldc (v := (-1000002)) dX11_done_10 ckX11_129 ?_
    have h := Option.some.inj h
    subst h
    exact kw_iret rfl dX11_done_12 hK
/-! KitchenWheels.slot(II)I -/
def X11_slot_J58 (hp : kw_H) (x0 : Nat) (x1 : Int32) (x2 : Int32) (s0 : Int32) (s1 : Int32) : Option (Int32) :=
  (if s1 < s0 then
  (if x2 = nI 0 then
  (kp_gR hp x0 [10] 2).bind fun v7 =>
  (kp_gR hp v7 [2] 0).bind fun v8 =>
  (kp_ldI hp v8 x1).bind fun v9 =>
  some (v9)
else if x2 = nI 1 then
  (kp_gR hp x0 [10] 2).bind fun v11 =>
  (kp_gR hp v11 [2] 1).bind fun v12 =>
  (kp_ldI hp v12 x1).bind fun v13 =>
  some (v13)
else 
  (kp_gR hp x0 [10] 2).bind fun v15 =>
  (kp_gR hp x0 [10] 2).bind fun v16 =>
  (kp_gI hp v16 [2] 8).bind fun v17 =>
  ((kp_ob hp v15 2).bind fun _ => X2_jobHad_F hp v15 x1 v17).bind fun r18 =>
  some (r18))
else
  some ((-1000000)))
set_option maxRecDepth 100000 in
set_option maxHeartbeats 4000000 in
theorem X11_slot_J58_t (G : kw_G) (Q : Option Value → kw_H → Prop) (hp : kw_H) (x0 : Nat) (x1 : Int32) (x2 : Int32) (s0 : Int32) (s1 : Int32) (r : Int32) (h : X11_slot_J58 hp x0 x1 x2 s0 s1 = some r) (hK : Q (some (.int r)) hp) : kw_V G mX11_slot 58 [some (.ref x0), some (.int x1), some (.int x2)] [.int s0, .int s1] hp Q := by
  unfold X11_slot_J58 at h
  refine kw_icmp_lt 64 dX11_slot_58 (by decide) (fun c19 => ?_) (fun c19 => ?_)
  · have h := (if_pos c19).symm.trans h
    refine kw_iload_n dX11_slot_64 rfl ?_
    by_cases c10 : x2 = nI 0
    · refine kw_lookup (off := 27) 92 dX11_slot_65 (by decide) (by rw [c10]; decide) (by decide) ?_
      have h := (if_pos c10).symm.trans h
      refine kw_aload_n dX11_slot_92 rfl ?_
      obtain ⟨v7, ev7, h⟩ := Option.bind_eq_some_iff.mp h
      refine kv_gR gfX11_26 dX11_slot_93 ev7 ?_
      obtain ⟨v8, ev8, h⟩ := Option.bind_eq_some_iff.mp h
      refine kv_gR gfX11_162 dX11_slot_96 ev8 ?_
      refine kw_iload_n dX11_slot_99 rfl ?_
      obtain ⟨v9, ev9, h⟩ := Option.bind_eq_some_iff.mp h
      refine kv_ldI dX11_slot_100 ev9 ?_
      have h := Option.some.inj h
      subst h
      exact kw_iret rfl dX11_slot_101 hK
    · have h := (if_neg c10).symm.trans h
      by_cases c14 : x2 = nI 1
      · refine kw_lookup (off := 37) 102 dX11_slot_65 (by decide) (by rw [c14]; decide) (by decide) ?_
        have h := (if_pos c14).symm.trans h
        refine kw_aload_n dX11_slot_102 rfl ?_
        obtain ⟨v11, ev11, h⟩ := Option.bind_eq_some_iff.mp h
        refine kv_gR gfX11_26 dX11_slot_103 ev11 ?_
        obtain ⟨v12, ev12, h⟩ := Option.bind_eq_some_iff.mp h
        refine kv_gR gfX11_173 dX11_slot_106 ev12 ?_
        refine kw_iload_n dX11_slot_109 rfl ?_
        obtain ⟨v13, ev13, h⟩ := Option.bind_eq_some_iff.mp h
        refine kv_ldI dX11_slot_110 ev13 ?_
        have h := Option.some.inj h
        subst h
        exact kw_iret rfl dX11_slot_111 hK
      · have h := (if_neg c14).symm.trans h
        refine kw_lookup (off := 47) 112 dX11_slot_65 (by decide) (by show Op.lookupswitch.offset [(0, 27), (1, 37)] 47 _ = _; rw [lv_osw (a := 0) c10 (by decide), lv_osw (a := 1) c14 (by decide)]; rfl) (by decide) ?_
        refine kw_aload_n dX11_slot_112 rfl ?_
        obtain ⟨v15, ev15, h⟩ := Option.bind_eq_some_iff.mp h
        refine kv_gR gfX11_26 dX11_slot_113 ev15 ?_
        refine kw_iload_n dX11_slot_116 rfl ?_
        refine kw_aload_n dX11_slot_117 rfl ?_
        obtain ⟨v16, ev16, h⟩ := Option.bind_eq_some_iff.mp h
        refine kv_gR gfX11_26 dX11_slot_118 ev16 ?_
        obtain ⟨v17, ev17, h⟩ := Option.bind_eq_some_iff.mp h
        refine kv_gI gfX11_149 dX11_slot_121 ev17 ?_
        obtain ⟨r18, er18, h⟩ := Option.bind_eq_some_iff.mp h
        obtain ⟨ur18, eur18, er18⟩ := Option.bind_eq_some_iff.mp er18
        obtain ⟨fsr18, hor18⟩ := kp_ob_inv eur18
        refine kw_callV (As := [.int x1, .int v17]) (S := []) kcX2 cbX11_slot_X2_jobHad lkX11_186 imX2_jobHad seX2_X2_jobHad_X2_jobHad rfl rfl (Nat.le_of_ble_eq_true rfl) dX11_slot_124 hor18 (X2_jobHad_c G hp v15 x1 v17 _ er18) (fun vv hh hq => ?_)
        rw [hq.1, hq.2]
        show kw_V G mX11_slot 127 [some (.ref x0), some (.int x1), some (.int x2)] [.int r18] hp Q
        have h := Option.some.inj h
        subst h
        exact kw_iret rfl dX11_slot_127 hK
  · have h := (if_neg c19).symm.trans h
    refine kw_ldc (v := (-1000000)) dX11_slot_61 ckX11_185 ?_
    have h := Option.some.inj h
    subst h
    exact kw_iret rfl dX11_slot_63 hK
def X11_slot_F (hp : kw_H) (x0 : Nat) (x1 : Int32) (x2 : Int32) : Option (Int32) :=
  (kp_gR hp x0 [10] 2).bind fun v1 =>
  ((kp_ob hp v1 2).bind fun _ => X2_isThere_F hp v1).bind fun r2 =>
  (if r2 = 0 then
  some ((-1000002))
else
  (X11_within_F hp x1 (nI 0) (nI 7)).bind fun r3 =>
  (if r3 = 0 then
  some ((-1000001))
else
  (X11_within_F hp x2 (nI 0) (nI 2)).bind fun r4 =>
  (if r4 = 0 then
  some ((-1000001))
else
  (if x2 = (nI 1) then
  (kp_gR hp x0 [10] 2).bind fun v20 =>
  (kp_gI hp v20 [2] 5).bind fun v21 =>
  X11_slot_J58 hp x0 x1 x2 v21 x1
else
  (kp_gR hp x0 [10] 2).bind fun v5 =>
  (kp_gI hp v5 [2] 4).bind fun v6 =>
  X11_slot_J58 hp x0 x1 x2 v6 x1))))
set_option maxRecDepth 100000 in
set_option maxHeartbeats 4000000 in
theorem X11_slot_c (G : kw_G) (hp : kw_H) (x0 : Nat) (x1 : Int32) (x2 : Int32) (r : Int32) (h : X11_slot_F hp x0 x1 x2 = some r) : kw_Met G mX11_slot [.ref x0, .int x1, .int x2] hp (fun v h2 => v = some (.int r) ∧ h2 = hp) := by
  refine kw_met (L := [some (.ref x0), some (.int x1), some (.int x2)]) (r := 0) (by decide +kernel) (Nat.le_of_ble_eq_true rfl) rfl ?_
  unfold X11_slot_F at h
  obtain ⟨Q, hQ⟩ : ∃ Q : Option Value → kw_H → Prop, Q = (fun v h2 => v = some (.int r) ∧ h2 = hp) := ⟨_, rfl⟩
  have hK : Q (some (.int r)) hp := by rw [hQ]; exact ⟨rfl, rfl⟩
  rw [← hQ]
  clear hQ
  refine kw_aload_n dX11_slot_0 rfl ?_
  obtain ⟨v1, ev1, h⟩ := Option.bind_eq_some_iff.mp h
  refine kv_gR gfX11_26 dX11_slot_1 ev1 ?_
  obtain ⟨r2, er2, h⟩ := Option.bind_eq_some_iff.mp h
  obtain ⟨ur2, eur2, er2⟩ := Option.bind_eq_some_iff.mp er2
  obtain ⟨fsr2, hor2⟩ := kp_ob_inv eur2
  refine kw_callV (As := []) (S := []) kcX2 cbX11_slot_X2_isThere lkX11_137 imX2_isThere seX2_X2_isThere_X2_isThere rfl rfl (Nat.le_of_ble_eq_true rfl) dX11_slot_4 hor2 (X2_isThere_c G hp v1 _ er2) (fun vv hh hq => ?_)
  rw [hq.1, hq.2]
  show kw_V G mX11_slot 7 [some (.ref x0), some (.int x1), some (.int x2)] [.int r2] hp Q
  refine kw_if_ne 13 dX11_slot_7 (by decide) (fun c25 => ?_) (fun c25 => ?_)
  · have h := (if_neg c25).symm.trans h
    refine kw_iload_n dX11_slot_13 rfl ?_
    refine kw_iconst (v := nI 0) dX11_slot_14 (by decide) ?_
    refine kw_bipush (v := nI 7) dX11_slot_15 (by decide) ?_
    obtain ⟨r3, er3, h⟩ := Option.bind_eq_some_iff.mp h
    refine kw_callS (As := [.int x1, .int (nI 0), .int (nI 7)]) (S := []) cbX11_slot_X11_within lkX11_55 stX11_within rfl rfl (Nat.le_of_ble_eq_true rfl) dX11_slot_17 (X11_within_c G hp x1 (nI 0) (nI 7) _ er3) (fun vv hh hq => ?_)
    rw [hq.1, hq.2]
    show kw_V G mX11_slot 20 [some (.ref x0), some (.int x1), some (.int x2)] [.int r3] hp Q
    refine kw_if_eq 32 dX11_slot_20 (by decide) (fun c24 => ?_) (fun c24 => ?_)
    · have h := (if_pos c24).symm.trans h
      refine kw_ldc (v := (-1000001)) dX11_slot_32 ckX11_59 ?_
      have h := Option.some.inj h
      subst h
      exact kw_iret rfl dX11_slot_34 hK
    · have h := (if_neg c24).symm.trans h
      refine kw_iload_n dX11_slot_23 rfl ?_
      refine kw_iconst (v := nI 0) dX11_slot_24 (by decide) ?_
      refine kw_iconst (v := nI 2) dX11_slot_25 (by decide) ?_
      obtain ⟨r4, er4, h⟩ := Option.bind_eq_some_iff.mp h
      refine kw_callS (As := [.int x2, .int (nI 0), .int (nI 2)]) (S := []) cbX11_slot_X11_within lkX11_55 stX11_within rfl rfl (Nat.le_of_ble_eq_true rfl) dX11_slot_26 (X11_within_c G hp x2 (nI 0) (nI 2) _ er4) (fun vv hh hq => ?_)
      rw [hq.1, hq.2]
      show kw_V G mX11_slot 29 [some (.ref x0), some (.int x1), some (.int x2)] [.int r4] hp Q
      refine kw_if_ne 35 dX11_slot_29 (by decide) (fun c23 => ?_) (fun c23 => ?_)
      · have h := (if_neg c23).symm.trans h
        refine kw_iload_n dX11_slot_35 rfl ?_
        refine kw_iload_n dX11_slot_36 rfl ?_
        refine kw_iconst (v := nI 1) dX11_slot_37 (by decide) ?_
        refine kw_icmp_ne 51 dX11_slot_38 (by decide) (fun c22 => ?_) (fun c22 => ?_)
        · have h := (if_neg c22).symm.trans h
          refine kw_aload_n dX11_slot_51 rfl ?_
          obtain ⟨v5, ev5, h⟩ := Option.bind_eq_some_iff.mp h
          refine kv_gR gfX11_26 dX11_slot_52 ev5 ?_
          obtain ⟨v6, ev6, h⟩ := Option.bind_eq_some_iff.mp h
          refine kv_gI gfX11_166 dX11_slot_55 ev6 ?_
          exact X11_slot_J58_t G Q hp x0 x1 x2 v6 x1 _ h hK
        · have h := (if_pos c22).symm.trans h
          refine kw_aload_n dX11_slot_41 rfl ?_
          obtain ⟨v20, ev20, h⟩ := Option.bind_eq_some_iff.mp h
          refine kv_gR gfX11_26 dX11_slot_42 ev20 ?_
          obtain ⟨v21, ev21, h⟩ := Option.bind_eq_some_iff.mp h
          refine kv_gI gfX11_176 dX11_slot_45 ev21 ?_
          refine kw_goto 58 dX11_slot_48 (by decide) ?_
          exact X11_slot_J58_t G Q hp x0 x1 x2 v21 x1 _ h hK
      · have h := (if_pos c23).symm.trans h
        refine kw_ldc (v := (-1000001)) dX11_slot_32 ckX11_59 ?_
        have h := Option.some.inj h
        subst h
        exact kw_iret rfl dX11_slot_34 hK
  · have h := (if_pos c25).symm.trans h
    refine kw_ldc (v := (-1000002)) dX11_slot_10 ckX11_129 ?_
    have h := Option.some.inj h
    subst h
    exact kw_iret rfl dX11_slot_12 hK
/-! KitchenWheels.turner(II)I -/
def X11_turner_D47_f (hp : kw_H) (o : Nat) (y0 : Int32) : Option (Int32) :=
  (kp_ci hp o).bind fun ci =>
  if ci = 0 then X0_howFar_F hp o y0 else if ci = 3 then X3_howFar_F hp o y0 else if ci = 4 then X4_howFar_F hp o y0 else if ci = 5 then X5_howFar_F hp o y0 else if ci = 7 then X7_howFar_F hp o y0 else none
set_option maxRecDepth 100000 in
set_option maxHeartbeats 4000000 in
theorem X11_turner_D47_v (G : kw_G) (Q : Option Value → kw_H → Prop) (L : List (Option Value)) (hp : kw_H) (o : Nat) (y0 : Int32) (r : Int32) {S : List Value} (hr : (S.map fun v => v.category).sum ≤ 8) (h : X11_turner_D47_f hp o y0 = some r) (kk : kw_V G mX11_turner 50 L (.int r :: S) hp Q) : kw_V G mX11_turner 47 L (.int y0 :: .ref o :: S) hp Q := by
  unfold X11_turner_D47_f at h
  obtain ⟨ci, e1, h⟩ := Option.bind_eq_some_iff.mp h
  obtain ⟨fs, ho⟩ := kp_ci_inv e1
  by_cases c0 : ci = 0
  · have h := (if_pos c0).symm.trans h
    subst c0
    exact kw_callU (x := ⟨"KitchenWheels$Turner", "howFar", "(I)I"⟩) (owner := "KitchenWheels$Turner") (As := [.int y0]) (S := S) kcX0 cbX11_turner_X0_howFar lkX11_198 sMX11_198 (Or.inl ⟨528, by decide +kernel⟩) ⟨by decide, by decide, by decide +kernel⟩ imX0_howFar seX0_howFar_X0_howFar rfl rfl hr dX11_turner_47 ho (X0_howFar_c G hp o y0 _ h) (fun vv hh hq => by obtain ⟨rfl, rfl⟩ := hq; exact kk)
  · have h := (if_neg c0).symm.trans h
    by_cases c3 : ci = 3
    · have h := (if_pos c3).symm.trans h
      subst c3
      exact kw_callU (x := ⟨"KitchenWheels$Turner", "howFar", "(I)I"⟩) (owner := "KitchenWheels$Turner") (As := [.int y0]) (S := S) kcX3 cbX11_turner_X3_howFar lkX11_198 sMX11_198 (Or.inl ⟨528, by decide +kernel⟩) ⟨by decide, by decide, by decide +kernel⟩ imX3_howFar seX3_howFar_X3_howFar rfl rfl hr dX11_turner_47 ho (X3_howFar_c G hp o y0 _ h) (fun vv hh hq => by obtain ⟨rfl, rfl⟩ := hq; exact kk)
    · have h := (if_neg c3).symm.trans h
      by_cases c4 : ci = 4
      · have h := (if_pos c4).symm.trans h
        subst c4
        exact kw_callU (x := ⟨"KitchenWheels$Turner", "howFar", "(I)I"⟩) (owner := "KitchenWheels$Turner") (As := [.int y0]) (S := S) kcX4 cbX11_turner_X4_howFar lkX11_198 sMX11_198 (Or.inl ⟨528, by decide +kernel⟩) ⟨by decide, by decide, by decide +kernel⟩ imX4_howFar seX4_howFar_X4_howFar rfl rfl hr dX11_turner_47 ho (X4_howFar_c G hp o y0 _ h) (fun vv hh hq => by obtain ⟨rfl, rfl⟩ := hq; exact kk)
      · have h := (if_neg c4).symm.trans h
        by_cases c5 : ci = 5
        · have h := (if_pos c5).symm.trans h
          subst c5
          exact kw_callU (x := ⟨"KitchenWheels$Turner", "howFar", "(I)I"⟩) (owner := "KitchenWheels$Turner") (As := [.int y0]) (S := S) kcX5 cbX11_turner_X5_howFar lkX11_198 sMX11_198 (Or.inl ⟨528, by decide +kernel⟩) ⟨by decide, by decide, by decide +kernel⟩ imX5_howFar seX5_howFar_X5_howFar rfl rfl hr dX11_turner_47 ho (X5_howFar_c G hp o y0 _ h) (fun vv hh hq => by obtain ⟨rfl, rfl⟩ := hq; exact kk)
        · have h := (if_neg c5).symm.trans h
          by_cases c7 : ci = 7
          · have h := (if_pos c7).symm.trans h
            subst c7
            exact kw_callU (x := ⟨"KitchenWheels$Turner", "howFar", "(I)I"⟩) (owner := "KitchenWheels$Turner") (As := [.int y0]) (S := S) kcX7 cbX11_turner_X7_howFar lkX11_198 sMX11_198 (Or.inl ⟨528, by decide +kernel⟩) ⟨by decide, by decide, by decide +kernel⟩ imX7_howFar seX7_howFar_X7_howFar rfl rfl hr dX11_turner_47 ho (X7_howFar_c G hp o y0 _ h) (fun vv hh hq => by obtain ⟨rfl, rfl⟩ := hq; exact kk)
          · have h := (if_neg c7).symm.trans h
            cases h
def X11_turner_F (hp : kw_H) (x0 : Nat) (x1 : Int32) (x2 : Int32) : Option (Int32) :=
  (kp_gR hp x0 [10] 2).bind fun v1 =>
  ((kp_ob hp v1 2).bind fun _ => X2_turnerAt_F hp v1 x1).bind fun r2 =>
  kp_nu r2 (some ((-1000001))) (fun b4 =>
  (X11_within_F hp x2 (nI 0) (nI 1)).bind fun r5 =>
  (if r5 = 0 then
  some ((-1000001))
else
  (if x2 = 0 then
  (kp_gI hp b4 [0, 3, 4, 5, 7] 1).bind fun v9 =>
  some (v9)
else
  (kp_gR hp x0 [10] 2).bind fun v6 =>
  (kp_gI hp v6 [2] 7).bind fun v7 =>
  (X11_turner_D47_f hp b4 v7).bind fun r8 =>
  some ((nI 1000) + r8))))
set_option maxRecDepth 100000 in
set_option maxHeartbeats 4000000 in
theorem X11_turner_c (G : kw_G) (hp : kw_H) (x0 : Nat) (x1 : Int32) (x2 : Int32) (r : Int32) (h : X11_turner_F hp x0 x1 x2 = some r) : kw_Met G mX11_turner [.ref x0, .int x1, .int x2] hp (fun v h2 => v = some (.int r) ∧ h2 = hp) := by
  refine kw_met (L := [some (.ref x0), some (.int x1), some (.int x2), none]) (r := 1) (by decide +kernel) (Nat.le_of_ble_eq_true rfl) rfl ?_
  unfold X11_turner_F at h
  obtain ⟨Q, hQ⟩ : ∃ Q : Option Value → kw_H → Prop, Q = (fun v h2 => v = some (.int r) ∧ h2 = hp) := ⟨_, rfl⟩
  have hK : Q (some (.int r)) hp := by rw [hQ]; exact ⟨rfl, rfl⟩
  rw [← hQ]
  clear hQ
  refine kw_aload_n dX11_turner_0 rfl ?_
  obtain ⟨v1, ev1, h⟩ := Option.bind_eq_some_iff.mp h
  refine kv_gR gfX11_26 dX11_turner_1 ev1 ?_
  refine kw_iload_n dX11_turner_4 rfl ?_
  obtain ⟨r2, er2, h⟩ := Option.bind_eq_some_iff.mp h
  obtain ⟨ur2, eur2, er2⟩ := Option.bind_eq_some_iff.mp er2
  obtain ⟨fsr2, hor2⟩ := kp_ob_inv eur2
  refine kw_callV (As := [.int x1]) (S := []) kcX2 cbX11_turner_X2_turnerAt lkX11_189 imX2_turnerAt seX2_X2_turnerAt_X2_turnerAt rfl rfl (Nat.le_of_ble_eq_true rfl) dX11_turner_5 hor2 (X2_turnerAt_c G hp v1 x1 _ er2) (fun vv hh hq => ?_)
  rw [hq.1, hq.2]
  show kw_V G mX11_turner 8 [some (.ref x0), some (.int x1), some (.int x2), none] (va_rf r2 :: []) hp Q
  cases r2 with
  | none =>
    dsimp only [kp_nu, va_rf] at h ⊢
    refine kw_astore_nN (L' := [some (.ref x0), some (.int x1), some (.int x2), some (.null)]) dX11_turner_8 (by decide) rfl ?_
    refine kw_aload_nN dX11_turner_9 rfl ?_
    refine kw_ifnullN 22 dX11_turner_10 (by decide) ?_
    refine kw_ldc (v := (-1000001)) dX11_turner_22 ckX11_59 ?_
    have h := Option.some.inj h
    subst h
    exact kw_iret rfl dX11_turner_24 hK
  | some b4 =>
    dsimp only [kp_nu, va_rf] at h ⊢
    refine kw_astore_n (L' := [some (.ref x0), some (.int x1), some (.int x2), some (.ref b4)]) dX11_turner_8 (by decide) rfl ?_
    refine kw_aload_n dX11_turner_9 rfl ?_
    refine kw_ifnull dX11_turner_10 ?_
    refine kw_iload_n dX11_turner_13 rfl ?_
    refine kw_iconst (v := nI 0) dX11_turner_14 (by decide) ?_
    refine kw_iconst (v := nI 1) dX11_turner_15 (by decide) ?_
    obtain ⟨r5, er5, h⟩ := Option.bind_eq_some_iff.mp h
    refine kw_callS (As := [.int x2, .int (nI 0), .int (nI 1)]) (S := []) cbX11_turner_X11_within lkX11_55 stX11_within rfl rfl (Nat.le_of_ble_eq_true rfl) dX11_turner_16 (X11_within_c G hp x2 (nI 0) (nI 1) _ er5) (fun vv hh hq => ?_)
    rw [hq.1, hq.2]
    show kw_V G mX11_turner 19 [some (.ref x0), some (.int x1), some (.int x2), some (.ref b4)] [.int r5] hp Q
    refine kw_if_ne 25 dX11_turner_19 (by decide) (fun c11 => ?_) (fun c11 => ?_)
    · have h := (if_neg c11).symm.trans h
      refine kw_iload_n dX11_turner_25 rfl ?_
      refine kw_if_ne 36 dX11_turner_26 (by decide) (fun c10 => ?_) (fun c10 => ?_)
      · have h := (if_neg c10).symm.trans h
        refine kw_sipush (v := nI 1000) dX11_turner_36 (by decide) ?_
        refine kw_aload_n dX11_turner_39 rfl ?_
        refine kw_aload_n dX11_turner_40 rfl ?_
        obtain ⟨v6, ev6, h⟩ := Option.bind_eq_some_iff.mp h
        refine kv_gR gfX11_26 dX11_turner_41 ev6 ?_
        obtain ⟨v7, ev7, h⟩ := Option.bind_eq_some_iff.mp h
        refine kv_gI gfX11_140 dX11_turner_44 ev7 ?_
        obtain ⟨r8, er8, h⟩ := Option.bind_eq_some_iff.mp h
        refine X11_turner_D47_v G Q [some (.ref x0), some (.int x1), some (.int x2), some (.ref b4)] hp b4 v7 _ (Nat.le_of_ble_eq_true rfl) er8 (S := [.int (nI 1000)]) ?_
        show kw_V G mX11_turner 50 [some (.ref x0), some (.int x1), some (.int x2), some (.ref b4)] [.int r8, .int (nI 1000)] hp Q
        refine kw_iadd dX11_turner_50 ?_
        have h := Option.some.inj h
        subst h
        exact kw_iret rfl dX11_turner_51 hK
      · have h := (if_pos c10).symm.trans h
        refine kw_aload_n dX11_turner_29 rfl ?_
        obtain ⟨v9, ev9, h⟩ := Option.bind_eq_some_iff.mp h
        refine kv_gI gfX11_193 dX11_turner_30 ev9 ?_
        refine kw_goto 51 dX11_turner_33 (by decide) ?_
        have h := Option.some.inj h
        subst h
        exact kw_iret rfl dX11_turner_51 hK
    · have h := (if_pos c11).symm.trans h
      refine kw_ldc (v := (-1000001)) dX11_turner_22 ckX11_59 ?_
      have h := Option.some.inj h
      subst h
      exact kw_iret rfl dX11_turner_24 hK
/-! KitchenWheels.hasJobs(II)I -/
def X11_hasJobs_F (hp : kw_H) (x0 : Nat) (x1 : Int32) (x2 : Int32) : Option (Int32) :=
  (kp_gR hp x0 [10] 2).bind fun v1 =>
  ((kp_ob hp v1 2).bind fun _ => X2_isThere_F hp v1).bind fun r2 =>
  (if r2 = 0 then
  some ((-1000002))
else
  (X11_isPerson_F hp x1).bind fun r3 =>
  (if r3 = 0 then
  some ((-1000001))
else
  (X11_within_F hp x2 (nI 0) (nI 60)).bind fun r4 =>
  (if r4 = 0 then
  some ((-1000001))
else
  (kp_gR hp x0 [10] 2).bind fun v5 =>
  (kp_gR hp x0 [10] 2).bind fun v6 =>
  ((kp_ob hp v6 2).bind fun _ => X2_turnedBehind_F hp v6 x2).bind fun r7 =>
  (kp_gR hp x0 [10] 2).bind fun v8 =>
  ((kp_ob hp v8 2).bind fun _ => X2_awayBehind_F hp v8 x2).bind fun r9 =>
  ((kp_ob hp v5 2).bind fun _ => X2_jobsOf_F hp v5 x1 r7 r9).bind fun r10 =>
  some (r10))))
set_option maxRecDepth 100000 in
set_option maxHeartbeats 4000000 in
theorem X11_hasJobs_c (G : kw_G) (hp : kw_H) (x0 : Nat) (x1 : Int32) (x2 : Int32) (r : Int32) (h : X11_hasJobs_F hp x0 x1 x2 = some r) : kw_Met G mX11_hasJobs [.ref x0, .int x1, .int x2] hp (fun v h2 => v = some (.int r) ∧ h2 = hp) := by
  refine kw_met (L := [some (.ref x0), some (.int x1), some (.int x2)]) (r := 0) (by decide +kernel) (Nat.le_of_ble_eq_true rfl) rfl ?_
  unfold X11_hasJobs_F at h
  obtain ⟨Q, hQ⟩ : ∃ Q : Option Value → kw_H → Prop, Q = (fun v h2 => v = some (.int r) ∧ h2 = hp) := ⟨_, rfl⟩
  have hK : Q (some (.int r)) hp := by rw [hQ]; exact ⟨rfl, rfl⟩
  rw [← hQ]
  clear hQ
  refine kw_aload_n dX11_hasJobs_0 rfl ?_
  obtain ⟨v1, ev1, h⟩ := Option.bind_eq_some_iff.mp h
  refine kv_gR gfX11_26 dX11_hasJobs_1 ev1 ?_
  obtain ⟨r2, er2, h⟩ := Option.bind_eq_some_iff.mp h
  obtain ⟨ur2, eur2, er2⟩ := Option.bind_eq_some_iff.mp er2
  obtain ⟨fsr2, hor2⟩ := kp_ob_inv eur2
  refine kw_callV (As := []) (S := []) kcX2 cbX11_hasJobs_X2_isThere lkX11_137 imX2_isThere seX2_X2_isThere_X2_isThere rfl rfl (Nat.le_of_ble_eq_true rfl) dX11_hasJobs_4 hor2 (X2_isThere_c G hp v1 _ er2) (fun vv hh hq => ?_)
  rw [hq.1, hq.2]
  show kw_V G mX11_hasJobs 7 [some (.ref x0), some (.int x1), some (.int x2)] [.int r2] hp Q
  refine kw_if_ne 13 dX11_hasJobs_7 (by decide) (fun c13 => ?_) (fun c13 => ?_)
  · have h := (if_neg c13).symm.trans h
    refine kw_iload_n dX11_hasJobs_13 rfl ?_
    obtain ⟨r3, er3, h⟩ := Option.bind_eq_some_iff.mp h
    refine kw_callS (As := [.int x1]) (S := []) cbX11_hasJobs_X11_isPerson lkX11_152 stX11_isPerson rfl rfl (Nat.le_of_ble_eq_true rfl) dX11_hasJobs_14 (X11_isPerson_c G hp x1 _ er3) (fun vv hh hq => ?_)
    rw [hq.1, hq.2]
    show kw_V G mX11_hasJobs 17 [some (.ref x0), some (.int x1), some (.int x2)] [.int r3] hp Q
    refine kw_if_eq 30 dX11_hasJobs_17 (by decide) (fun c12 => ?_) (fun c12 => ?_)
    · have h := (if_pos c12).symm.trans h
      refine kw_ldc (v := (-1000001)) dX11_hasJobs_30 ckX11_59 ?_
      have h := Option.some.inj h
      subst h
      exact kw_iret rfl dX11_hasJobs_32 hK
    · have h := (if_neg c12).symm.trans h
      refine kw_iload_n dX11_hasJobs_20 rfl ?_
      refine kw_iconst (v := nI 0) dX11_hasJobs_21 (by decide) ?_
      refine kw_bipush (v := nI 60) dX11_hasJobs_22 (by decide) ?_
      obtain ⟨r4, er4, h⟩ := Option.bind_eq_some_iff.mp h
      refine kw_callS (As := [.int x2, .int (nI 0), .int (nI 60)]) (S := []) cbX11_hasJobs_X11_within lkX11_55 stX11_within rfl rfl (Nat.le_of_ble_eq_true rfl) dX11_hasJobs_24 (X11_within_c G hp x2 (nI 0) (nI 60) _ er4) (fun vv hh hq => ?_)
      rw [hq.1, hq.2]
      show kw_V G mX11_hasJobs 27 [some (.ref x0), some (.int x1), some (.int x2)] [.int r4] hp Q
      refine kw_if_ne 33 dX11_hasJobs_27 (by decide) (fun c11 => ?_) (fun c11 => ?_)
      · have h := (if_neg c11).symm.trans h
        refine kw_aload_n dX11_hasJobs_33 rfl ?_
        obtain ⟨v5, ev5, h⟩ := Option.bind_eq_some_iff.mp h
        refine kv_gR gfX11_26 dX11_hasJobs_34 ev5 ?_
        refine kw_iload_n dX11_hasJobs_37 rfl ?_
        refine kw_aload_n dX11_hasJobs_38 rfl ?_
        obtain ⟨v6, ev6, h⟩ := Option.bind_eq_some_iff.mp h
        refine kv_gR gfX11_26 dX11_hasJobs_39 ev6 ?_
        refine kw_iload_n dX11_hasJobs_42 rfl ?_
        obtain ⟨r7, er7, h⟩ := Option.bind_eq_some_iff.mp h
        obtain ⟨ur7, eur7, er7⟩ := Option.bind_eq_some_iff.mp er7
        obtain ⟨fsr7, hor7⟩ := kp_ob_inv eur7
        refine kw_callV (As := [.int x2]) (S := [.int x1, .ref v5]) kcX2 cbX11_hasJobs_X2_turnedBehind lkX11_201 imX2_turnedBehind seX2_X2_turnedBehind_X2_turnedBehind rfl rfl (Nat.le_of_ble_eq_true rfl) dX11_hasJobs_43 hor7 (X2_turnedBehind_c G hp v6 x2 _ er7) (fun vv hh hq => ?_)
        rw [hq.1, hq.2]
        show kw_V G mX11_hasJobs 46 [some (.ref x0), some (.int x1), some (.int x2)] [.int r7, .int x1, .ref v5] hp Q
        refine kw_aload_n dX11_hasJobs_46 rfl ?_
        obtain ⟨v8, ev8, h⟩ := Option.bind_eq_some_iff.mp h
        refine kv_gR gfX11_26 dX11_hasJobs_47 ev8 ?_
        refine kw_iload_n dX11_hasJobs_50 rfl ?_
        obtain ⟨r9, er9, h⟩ := Option.bind_eq_some_iff.mp h
        obtain ⟨ur9, eur9, er9⟩ := Option.bind_eq_some_iff.mp er9
        obtain ⟨fsr9, hor9⟩ := kp_ob_inv eur9
        refine kw_callV (As := [.int x2]) (S := [.int r7, .int x1, .ref v5]) kcX2 cbX11_hasJobs_X2_awayBehind lkX11_204 imX2_awayBehind seX2_X2_awayBehind_X2_awayBehind rfl rfl (Nat.le_of_ble_eq_true rfl) dX11_hasJobs_51 hor9 (X2_awayBehind_c G hp v8 x2 _ er9) (fun vv hh hq => ?_)
        rw [hq.1, hq.2]
        show kw_V G mX11_hasJobs 54 [some (.ref x0), some (.int x1), some (.int x2)] [.int r9, .int r7, .int x1, .ref v5] hp Q
        obtain ⟨r10, er10, h⟩ := Option.bind_eq_some_iff.mp h
        obtain ⟨ur10, eur10, er10⟩ := Option.bind_eq_some_iff.mp er10
        obtain ⟨fsr10, hor10⟩ := kp_ob_inv eur10
        refine kw_callV (As := [.int x1, .int r7, .int r9]) (S := []) kcX2 cbX11_hasJobs_X2_jobsOf lkX11_207 imX2_jobsOf seX2_X2_jobsOf_X2_jobsOf rfl rfl (Nat.le_of_ble_eq_true rfl) dX11_hasJobs_54 hor10 (X2_jobsOf_c G hp v5 x1 r7 r9 _ er10) (fun vv hh hq => ?_)
        rw [hq.1, hq.2]
        show kw_V G mX11_hasJobs 57 [some (.ref x0), some (.int x1), some (.int x2)] [.int r10] hp Q
        have h := Option.some.inj h
        subst h
        exact kw_iret rfl dX11_hasJobs_57 hK
      · have h := (if_pos c11).symm.trans h
        refine kw_ldc (v := (-1000001)) dX11_hasJobs_30 ckX11_59 ?_
        have h := Option.some.inj h
        subst h
        exact kw_iret rfl dX11_hasJobs_32 hK
  · have h := (if_pos c13).symm.trans h
    refine kw_ldc (v := (-1000002)) dX11_hasJobs_10 ckX11_129 ?_
    have h := Option.some.inj h
    subst h
    exact kw_iret rfl dX11_hasJobs_12 hK
/-! KitchenWheels.whoDoes(II)I -/
def X11_whoDoes_F (hp : kw_H) (x0 : Nat) (x1 : Int32) (x2 : Int32) : Option (Int32) :=
  (kp_gR hp x0 [10] 2).bind fun v1 =>
  ((kp_ob hp v1 2).bind fun _ => X2_isThere_F hp v1).bind fun r2 =>
  (if r2 = 0 then
  some ((-1000002))
else
  (X11_isJob_F hp x1).bind fun r3 =>
  (if r3 = 0 then
  some ((-1000001))
else
  (X11_within_F hp x2 (nI 0) (nI 60)).bind fun r4 =>
  (if r4 = 0 then
  some ((-1000001))
else
  (kp_gR hp x0 [10] 2).bind fun v5 =>
  (kp_gR hp x0 [10] 2).bind fun v6 =>
  ((kp_ob hp v6 2).bind fun _ => X2_turnedBehind_F hp v6 x2).bind fun r7 =>
  (kp_gR hp x0 [10] 2).bind fun v8 =>
  ((kp_ob hp v8 2).bind fun _ => X2_awayBehind_F hp v8 x2).bind fun r9 =>
  ((kp_ob hp v5 2).bind fun _ => X2_doersOf_F hp v5 x1 r7 r9).bind fun r10 =>
  some (r10))))
set_option maxRecDepth 100000 in
set_option maxHeartbeats 4000000 in
theorem X11_whoDoes_c (G : kw_G) (hp : kw_H) (x0 : Nat) (x1 : Int32) (x2 : Int32) (r : Int32) (h : X11_whoDoes_F hp x0 x1 x2 = some r) : kw_Met G mX11_whoDoes [.ref x0, .int x1, .int x2] hp (fun v h2 => v = some (.int r) ∧ h2 = hp) := by
  refine kw_met (L := [some (.ref x0), some (.int x1), some (.int x2)]) (r := 0) (by decide +kernel) (Nat.le_of_ble_eq_true rfl) rfl ?_
  unfold X11_whoDoes_F at h
  obtain ⟨Q, hQ⟩ : ∃ Q : Option Value → kw_H → Prop, Q = (fun v h2 => v = some (.int r) ∧ h2 = hp) := ⟨_, rfl⟩
  have hK : Q (some (.int r)) hp := by rw [hQ]; exact ⟨rfl, rfl⟩
  rw [← hQ]
  clear hQ
  refine kw_aload_n dX11_whoDoes_0 rfl ?_
  obtain ⟨v1, ev1, h⟩ := Option.bind_eq_some_iff.mp h
  refine kv_gR gfX11_26 dX11_whoDoes_1 ev1 ?_
  obtain ⟨r2, er2, h⟩ := Option.bind_eq_some_iff.mp h
  obtain ⟨ur2, eur2, er2⟩ := Option.bind_eq_some_iff.mp er2
  obtain ⟨fsr2, hor2⟩ := kp_ob_inv eur2
  refine kw_callV (As := []) (S := []) kcX2 cbX11_whoDoes_X2_isThere lkX11_137 imX2_isThere seX2_X2_isThere_X2_isThere rfl rfl (Nat.le_of_ble_eq_true rfl) dX11_whoDoes_4 hor2 (X2_isThere_c G hp v1 _ er2) (fun vv hh hq => ?_)
  rw [hq.1, hq.2]
  show kw_V G mX11_whoDoes 7 [some (.ref x0), some (.int x1), some (.int x2)] [.int r2] hp Q
  refine kw_if_ne 13 dX11_whoDoes_7 (by decide) (fun c13 => ?_) (fun c13 => ?_)
  · have h := (if_neg c13).symm.trans h
    refine kw_iload_n dX11_whoDoes_13 rfl ?_
    obtain ⟨r3, er3, h⟩ := Option.bind_eq_some_iff.mp h
    refine kw_callS (As := [.int x1]) (S := []) cbX11_whoDoes_X11_isJob lkX11_179 stX11_isJob rfl rfl (Nat.le_of_ble_eq_true rfl) dX11_whoDoes_14 (X11_isJob_c G hp x1 _ er3) (fun vv hh hq => ?_)
    rw [hq.1, hq.2]
    show kw_V G mX11_whoDoes 17 [some (.ref x0), some (.int x1), some (.int x2)] [.int r3] hp Q
    refine kw_if_eq 30 dX11_whoDoes_17 (by decide) (fun c12 => ?_) (fun c12 => ?_)
    · have h := (if_pos c12).symm.trans h
      refine kw_ldc (v := (-1000001)) dX11_whoDoes_30 ckX11_59 ?_
      have h := Option.some.inj h
      subst h
      exact kw_iret rfl dX11_whoDoes_32 hK
    · have h := (if_neg c12).symm.trans h
      refine kw_iload_n dX11_whoDoes_20 rfl ?_
      refine kw_iconst (v := nI 0) dX11_whoDoes_21 (by decide) ?_
      refine kw_bipush (v := nI 60) dX11_whoDoes_22 (by decide) ?_
      obtain ⟨r4, er4, h⟩ := Option.bind_eq_some_iff.mp h
      refine kw_callS (As := [.int x2, .int (nI 0), .int (nI 60)]) (S := []) cbX11_whoDoes_X11_within lkX11_55 stX11_within rfl rfl (Nat.le_of_ble_eq_true rfl) dX11_whoDoes_24 (X11_within_c G hp x2 (nI 0) (nI 60) _ er4) (fun vv hh hq => ?_)
      rw [hq.1, hq.2]
      show kw_V G mX11_whoDoes 27 [some (.ref x0), some (.int x1), some (.int x2)] [.int r4] hp Q
      refine kw_if_ne 33 dX11_whoDoes_27 (by decide) (fun c11 => ?_) (fun c11 => ?_)
      · have h := (if_neg c11).symm.trans h
        refine kw_aload_n dX11_whoDoes_33 rfl ?_
        obtain ⟨v5, ev5, h⟩ := Option.bind_eq_some_iff.mp h
        refine kv_gR gfX11_26 dX11_whoDoes_34 ev5 ?_
        refine kw_iload_n dX11_whoDoes_37 rfl ?_
        refine kw_aload_n dX11_whoDoes_38 rfl ?_
        obtain ⟨v6, ev6, h⟩ := Option.bind_eq_some_iff.mp h
        refine kv_gR gfX11_26 dX11_whoDoes_39 ev6 ?_
        refine kw_iload_n dX11_whoDoes_42 rfl ?_
        obtain ⟨r7, er7, h⟩ := Option.bind_eq_some_iff.mp h
        obtain ⟨ur7, eur7, er7⟩ := Option.bind_eq_some_iff.mp er7
        obtain ⟨fsr7, hor7⟩ := kp_ob_inv eur7
        refine kw_callV (As := [.int x2]) (S := [.int x1, .ref v5]) kcX2 cbX11_whoDoes_X2_turnedBehind lkX11_201 imX2_turnedBehind seX2_X2_turnedBehind_X2_turnedBehind rfl rfl (Nat.le_of_ble_eq_true rfl) dX11_whoDoes_43 hor7 (X2_turnedBehind_c G hp v6 x2 _ er7) (fun vv hh hq => ?_)
        rw [hq.1, hq.2]
        show kw_V G mX11_whoDoes 46 [some (.ref x0), some (.int x1), some (.int x2)] [.int r7, .int x1, .ref v5] hp Q
        refine kw_aload_n dX11_whoDoes_46 rfl ?_
        obtain ⟨v8, ev8, h⟩ := Option.bind_eq_some_iff.mp h
        refine kv_gR gfX11_26 dX11_whoDoes_47 ev8 ?_
        refine kw_iload_n dX11_whoDoes_50 rfl ?_
        obtain ⟨r9, er9, h⟩ := Option.bind_eq_some_iff.mp h
        obtain ⟨ur9, eur9, er9⟩ := Option.bind_eq_some_iff.mp er9
        obtain ⟨fsr9, hor9⟩ := kp_ob_inv eur9
        refine kw_callV (As := [.int x2]) (S := [.int r7, .int x1, .ref v5]) kcX2 cbX11_whoDoes_X2_awayBehind lkX11_204 imX2_awayBehind seX2_X2_awayBehind_X2_awayBehind rfl rfl (Nat.le_of_ble_eq_true rfl) dX11_whoDoes_51 hor9 (X2_awayBehind_c G hp v8 x2 _ er9) (fun vv hh hq => ?_)
        rw [hq.1, hq.2]
        show kw_V G mX11_whoDoes 54 [some (.ref x0), some (.int x1), some (.int x2)] [.int r9, .int r7, .int x1, .ref v5] hp Q
        obtain ⟨r10, er10, h⟩ := Option.bind_eq_some_iff.mp h
        obtain ⟨ur10, eur10, er10⟩ := Option.bind_eq_some_iff.mp er10
        obtain ⟨fsr10, hor10⟩ := kp_ob_inv eur10
        refine kw_callV (As := [.int x1, .int r7, .int r9]) (S := []) kcX2 cbX11_whoDoes_X2_doersOf lkX11_210 imX2_doersOf seX2_X2_doersOf_X2_doersOf rfl rfl (Nat.le_of_ble_eq_true rfl) dX11_whoDoes_54 hor10 (X2_doersOf_c G hp v5 x1 r7 r9 _ er10) (fun vv hh hq => ?_)
        rw [hq.1, hq.2]
        show kw_V G mX11_whoDoes 57 [some (.ref x0), some (.int x1), some (.int x2)] [.int r10] hp Q
        have h := Option.some.inj h
        subst h
        exact kw_iret rfl dX11_whoDoes_57 hK
      · have h := (if_pos c11).symm.trans h
        refine kw_ldc (v := (-1000001)) dX11_whoDoes_30 ckX11_59 ?_
        have h := Option.some.inj h
        subst h
        exact kw_iret rfl dX11_whoDoes_32 hK
  · have h := (if_pos c13).symm.trans h
    refine kw_ldc (v := (-1000002)) dX11_whoDoes_10 ckX11_129 ?_
    have h := Option.some.inj h
    subst h
    exact kw_iret rfl dX11_whoDoes_12 hK
/-! KitchenWheels.often(III)I -/
def X11_often_F (hp : kw_H) (x0 : Nat) (x1 : Int32) (x2 : Int32) (x3 : Int32) : Option (Int32) :=
  (kp_gR hp x0 [10] 2).bind fun v1 =>
  ((kp_ob hp v1 2).bind fun _ => X2_isThere_F hp v1).bind fun r2 =>
  (if r2 = 0 then
  some ((-1000002))
else
  (X11_isPerson_F hp x1).bind fun r3 =>
  (if r3 = 0 then
  some ((-1000001))
else
  (X11_isJob_F hp x2).bind fun r4 =>
  (if r4 = 0 then
  some ((-1000001))
else
  (X11_within_F hp x3 (nI 0) (nI 60)).bind fun r5 =>
  (if r5 = 0 then
  some ((-1000001))
else
  (kp_gR hp x0 [10] 3).bind fun v6 =>
  (kp_gR hp x0 [10] 2).bind fun v7 =>
  ((kp_ob hp v6 1).bind fun _ => X1_timesIn_F hp v6 v7 x1 x2 x3).bind fun r8 =>
  some (r8)))))
set_option maxRecDepth 100000 in
set_option maxHeartbeats 4000000 in
theorem X11_often_c (G : kw_G) (hp : kw_H) (x0 : Nat) (x1 : Int32) (x2 : Int32) (x3 : Int32) (r : Int32) (h : X11_often_F hp x0 x1 x2 x3 = some r) : kw_Met G mX11_often [.ref x0, .int x1, .int x2, .int x3] hp (fun v h2 => v = some (.int r) ∧ h2 = hp) := by
  refine kw_met (L := [some (.ref x0), some (.int x1), some (.int x2), some (.int x3)]) (r := 0) (by decide +kernel) (Nat.le_of_ble_eq_true rfl) rfl ?_
  unfold X11_often_F at h
  obtain ⟨Q, hQ⟩ : ∃ Q : Option Value → kw_H → Prop, Q = (fun v h2 => v = some (.int r) ∧ h2 = hp) := ⟨_, rfl⟩
  have hK : Q (some (.int r)) hp := by rw [hQ]; exact ⟨rfl, rfl⟩
  rw [← hQ]
  clear hQ
  refine kw_aload_n dX11_often_0 rfl ?_
  obtain ⟨v1, ev1, h⟩ := Option.bind_eq_some_iff.mp h
  refine kv_gR gfX11_26 dX11_often_1 ev1 ?_
  obtain ⟨r2, er2, h⟩ := Option.bind_eq_some_iff.mp h
  obtain ⟨ur2, eur2, er2⟩ := Option.bind_eq_some_iff.mp er2
  obtain ⟨fsr2, hor2⟩ := kp_ob_inv eur2
  refine kw_callV (As := []) (S := []) kcX2 cbX11_often_X2_isThere lkX11_137 imX2_isThere seX2_X2_isThere_X2_isThere rfl rfl (Nat.le_of_ble_eq_true rfl) dX11_often_4 hor2 (X2_isThere_c G hp v1 _ er2) (fun vv hh hq => ?_)
  rw [hq.1, hq.2]
  show kw_V G mX11_often 7 [some (.ref x0), some (.int x1), some (.int x2), some (.int x3)] [.int r2] hp Q
  refine kw_if_ne 13 dX11_often_7 (by decide) (fun c12 => ?_) (fun c12 => ?_)
  · have h := (if_neg c12).symm.trans h
    refine kw_iload_n dX11_often_13 rfl ?_
    obtain ⟨r3, er3, h⟩ := Option.bind_eq_some_iff.mp h
    refine kw_callS (As := [.int x1]) (S := []) cbX11_often_X11_isPerson lkX11_152 stX11_isPerson rfl rfl (Nat.le_of_ble_eq_true rfl) dX11_often_14 (X11_isPerson_c G hp x1 _ er3) (fun vv hh hq => ?_)
    rw [hq.1, hq.2]
    show kw_V G mX11_often 17 [some (.ref x0), some (.int x1), some (.int x2), some (.int x3)] [.int r3] hp Q
    refine kw_if_eq 37 dX11_often_17 (by decide) (fun c11 => ?_) (fun c11 => ?_)
    · have h := (if_pos c11).symm.trans h
      refine kw_ldc (v := (-1000001)) dX11_often_37 ckX11_59 ?_
      have h := Option.some.inj h
      subst h
      exact kw_iret rfl dX11_often_39 hK
    · have h := (if_neg c11).symm.trans h
      refine kw_iload_n dX11_often_20 rfl ?_
      obtain ⟨r4, er4, h⟩ := Option.bind_eq_some_iff.mp h
      refine kw_callS (As := [.int x2]) (S := []) cbX11_often_X11_isJob lkX11_179 stX11_isJob rfl rfl (Nat.le_of_ble_eq_true rfl) dX11_often_21 (X11_isJob_c G hp x2 _ er4) (fun vv hh hq => ?_)
      rw [hq.1, hq.2]
      show kw_V G mX11_often 24 [some (.ref x0), some (.int x1), some (.int x2), some (.int x3)] [.int r4] hp Q
      refine kw_if_eq 37 dX11_often_24 (by decide) (fun c10 => ?_) (fun c10 => ?_)
      · have h := (if_pos c10).symm.trans h
        refine kw_ldc (v := (-1000001)) dX11_often_37 ckX11_59 ?_
        have h := Option.some.inj h
        subst h
        exact kw_iret rfl dX11_often_39 hK
      · have h := (if_neg c10).symm.trans h
        refine kw_iload_n dX11_often_27 rfl ?_
        refine kw_iconst (v := nI 0) dX11_often_28 (by decide) ?_
        refine kw_bipush (v := nI 60) dX11_often_29 (by decide) ?_
        obtain ⟨r5, er5, h⟩ := Option.bind_eq_some_iff.mp h
        refine kw_callS (As := [.int x3, .int (nI 0), .int (nI 60)]) (S := []) cbX11_often_X11_within lkX11_55 stX11_within rfl rfl (Nat.le_of_ble_eq_true rfl) dX11_often_31 (X11_within_c G hp x3 (nI 0) (nI 60) _ er5) (fun vv hh hq => ?_)
        rw [hq.1, hq.2]
        show kw_V G mX11_often 34 [some (.ref x0), some (.int x1), some (.int x2), some (.int x3)] [.int r5] hp Q
        refine kw_if_ne 40 dX11_often_34 (by decide) (fun c9 => ?_) (fun c9 => ?_)
        · have h := (if_neg c9).symm.trans h
          refine kw_aload_n dX11_often_40 rfl ?_
          obtain ⟨v6, ev6, h⟩ := Option.bind_eq_some_iff.mp h
          refine kv_gR gfX11_33 dX11_often_41 ev6 ?_
          refine kw_aload_n dX11_often_44 rfl ?_
          obtain ⟨v7, ev7, h⟩ := Option.bind_eq_some_iff.mp h
          refine kv_gR gfX11_26 dX11_often_45 ev7 ?_
          refine kw_iload_n dX11_often_48 rfl ?_
          refine kw_iload_n dX11_often_49 rfl ?_
          refine kw_iload_n dX11_often_50 rfl ?_
          obtain ⟨r8, er8, h⟩ := Option.bind_eq_some_iff.mp h
          obtain ⟨ur8, eur8, er8⟩ := Option.bind_eq_some_iff.mp er8
          obtain ⟨fsr8, hor8⟩ := kp_ob_inv eur8
          refine kw_callV (As := [.ref v7, .int x1, .int x2, .int x3]) (S := []) kcX1 cbX11_often_X1_timesIn lkX11_213 imX1_timesIn seX1_X1_timesIn_X1_timesIn rfl rfl (Nat.le_of_ble_eq_true rfl) dX11_often_51 hor8 (X1_timesIn_c G hp v6 v7 x1 x2 x3 _ er8) (fun vv hh hq => ?_)
          rw [hq.1, hq.2]
          show kw_V G mX11_often 54 [some (.ref x0), some (.int x1), some (.int x2), some (.int x3)] [.int r8] hp Q
          have h := Option.some.inj h
          subst h
          exact kw_iret rfl dX11_often_54 hK
        · have h := (if_pos c9).symm.trans h
          refine kw_ldc (v := (-1000001)) dX11_often_37 ckX11_59 ?_
          have h := Option.some.inj h
          subst h
          exact kw_iret rfl dX11_often_39 hK
  · have h := (if_pos c12).symm.trans h
    refine kw_ldc (v := (-1000002)) dX11_often_10 ckX11_129 ?_
    have h := Option.some.inj h
    subst h
    exact kw_iret rfl dX11_often_12 hK
/-! KitchenWheels.meets(II)I -/
def X11_meets_F (hp : kw_H) (x0 : Nat) (x1 : Int32) (x2 : Int32) : Option (Int32) :=
  (kp_gR hp x0 [10] 2).bind fun v1 =>
  ((kp_ob hp v1 2).bind fun _ => X2_isThere_F hp v1).bind fun r2 =>
  (if r2 = 0 then
  some ((-1000002))
else
  (X11_isPerson_F hp x1).bind fun r3 =>
  (if r3 = 0 then
  some ((-1000001))
else
  (X11_isJob_F hp x2).bind fun r4 =>
  (if r4 = 0 then
  some ((-1000001))
else
  (kp_gR hp x0 [10] 3).bind fun v5 =>
  (kp_gR hp x0 [10] 2).bind fun v6 =>
  ((kp_ob hp v5 1).bind fun _ => X1_firstMeeting_F hp v5 v6 x1 x2).bind fun r7 =>
  some (r7))))
set_option maxRecDepth 100000 in
set_option maxHeartbeats 4000000 in
theorem X11_meets_c (G : kw_G) (hp : kw_H) (x0 : Nat) (x1 : Int32) (x2 : Int32) (r : Int32) (h : X11_meets_F hp x0 x1 x2 = some r) : kw_Met G mX11_meets [.ref x0, .int x1, .int x2] hp (fun v h2 => v = some (.int r) ∧ h2 = hp) := by
  refine kw_met (L := [some (.ref x0), some (.int x1), some (.int x2)]) (r := 0) (by decide +kernel) (Nat.le_of_ble_eq_true rfl) rfl ?_
  unfold X11_meets_F at h
  obtain ⟨Q, hQ⟩ : ∃ Q : Option Value → kw_H → Prop, Q = (fun v h2 => v = some (.int r) ∧ h2 = hp) := ⟨_, rfl⟩
  have hK : Q (some (.int r)) hp := by rw [hQ]; exact ⟨rfl, rfl⟩
  rw [← hQ]
  clear hQ
  refine kw_aload_n dX11_meets_0 rfl ?_
  obtain ⟨v1, ev1, h⟩ := Option.bind_eq_some_iff.mp h
  refine kv_gR gfX11_26 dX11_meets_1 ev1 ?_
  obtain ⟨r2, er2, h⟩ := Option.bind_eq_some_iff.mp h
  obtain ⟨ur2, eur2, er2⟩ := Option.bind_eq_some_iff.mp er2
  obtain ⟨fsr2, hor2⟩ := kp_ob_inv eur2
  refine kw_callV (As := []) (S := []) kcX2 cbX11_meets_X2_isThere lkX11_137 imX2_isThere seX2_X2_isThere_X2_isThere rfl rfl (Nat.le_of_ble_eq_true rfl) dX11_meets_4 hor2 (X2_isThere_c G hp v1 _ er2) (fun vv hh hq => ?_)
  rw [hq.1, hq.2]
  show kw_V G mX11_meets 7 [some (.ref x0), some (.int x1), some (.int x2)] [.int r2] hp Q
  refine kw_if_ne 13 dX11_meets_7 (by decide) (fun c10 => ?_) (fun c10 => ?_)
  · have h := (if_neg c10).symm.trans h
    refine kw_iload_n dX11_meets_13 rfl ?_
    obtain ⟨r3, er3, h⟩ := Option.bind_eq_some_iff.mp h
    refine kw_callS (As := [.int x1]) (S := []) cbX11_meets_X11_isPerson lkX11_152 stX11_isPerson rfl rfl (Nat.le_of_ble_eq_true rfl) dX11_meets_14 (X11_isPerson_c G hp x1 _ er3) (fun vv hh hq => ?_)
    rw [hq.1, hq.2]
    show kw_V G mX11_meets 17 [some (.ref x0), some (.int x1), some (.int x2)] [.int r3] hp Q
    refine kw_if_eq 43 dX11_meets_17 (by decide) (fun c9 => ?_) (fun c9 => ?_)
    · have h := (if_pos c9).symm.trans h
      refine kw_ldc (v := (-1000001)) dX11_meets_43 ckX11_59 ?_
      have h := Option.some.inj h
      subst h
      exact kw_iret rfl dX11_meets_45 hK
    · have h := (if_neg c9).symm.trans h
      refine kw_iload_n dX11_meets_20 rfl ?_
      obtain ⟨r4, er4, h⟩ := Option.bind_eq_some_iff.mp h
      refine kw_callS (As := [.int x2]) (S := []) cbX11_meets_X11_isJob lkX11_179 stX11_isJob rfl rfl (Nat.le_of_ble_eq_true rfl) dX11_meets_21 (X11_isJob_c G hp x2 _ er4) (fun vv hh hq => ?_)
      rw [hq.1, hq.2]
      show kw_V G mX11_meets 24 [some (.ref x0), some (.int x1), some (.int x2)] [.int r4] hp Q
      refine kw_if_eq 43 dX11_meets_24 (by decide) (fun c8 => ?_) (fun c8 => ?_)
      · have h := (if_pos c8).symm.trans h
        refine kw_ldc (v := (-1000001)) dX11_meets_43 ckX11_59 ?_
        have h := Option.some.inj h
        subst h
        exact kw_iret rfl dX11_meets_45 hK
      · have h := (if_neg c8).symm.trans h
        refine kw_aload_n dX11_meets_27 rfl ?_
        obtain ⟨v5, ev5, h⟩ := Option.bind_eq_some_iff.mp h
        refine kv_gR gfX11_33 dX11_meets_28 ev5 ?_
        refine kw_aload_n dX11_meets_31 rfl ?_
        obtain ⟨v6, ev6, h⟩ := Option.bind_eq_some_iff.mp h
        refine kv_gR gfX11_26 dX11_meets_32 ev6 ?_
        refine kw_iload_n dX11_meets_35 rfl ?_
        refine kw_iload_n dX11_meets_36 rfl ?_
        obtain ⟨r7, er7, h⟩ := Option.bind_eq_some_iff.mp h
        obtain ⟨ur7, eur7, er7⟩ := Option.bind_eq_some_iff.mp er7
        obtain ⟨fsr7, hor7⟩ := kp_ob_inv eur7
        refine kw_callV (As := [.ref v6, .int x1, .int x2]) (S := []) kcX1 cbX11_meets_X1_firstMeeting lkX11_217 imX1_firstMeeting seX1_X1_firstMeeting_X1_firstMeeting rfl rfl (Nat.le_of_ble_eq_true rfl) dX11_meets_37 hor7 (X1_firstMeeting_c G hp v5 v6 x1 x2 _ er7) (fun vv hh hq => ?_)
        rw [hq.1, hq.2]
        show kw_V G mX11_meets 40 [some (.ref x0), some (.int x1), some (.int x2)] [.int r7] hp Q
        refine kw_goto 45 dX11_meets_40 (by decide) ?_
        have h := Option.some.inj h
        subst h
        exact kw_iret rfl dX11_meets_45 hK
  · have h := (if_pos c10).symm.trans h
    refine kw_ldc (v := (-1000002)) dX11_meets_10 ckX11_129 ?_
    have h := Option.some.inj h
    subst h
    exact kw_iret rfl dX11_meets_12 hK
/-! KitchenWheels.allMet()I -/
def X11_allMet_F (hp : kw_H) (x0 : Nat) : Option (Int32 × kw_H) :=
  (kp_gR hp x0 [10] 2).bind fun v1 =>
  ((kp_ob hp v1 2).bind fun _ => X2_isThere_F hp v1).bind fun r2 =>
  (if r2 = 0 then
  some (((-1000002), hp))
else
  (kp_gR hp x0 [10] 3).bind fun v3 =>
  (kp_gR hp x0 [10] 2).bind fun v4 =>
  ((kp_ob hp v3 1).bind fun _ => X1_weeksUntilAllMet_F hp v3 v4).bind fun r5 =>
  some ((r5.1, r5.2)))
set_option maxRecDepth 100000 in
set_option maxHeartbeats 4000000 in
theorem X11_allMet_c (G : kw_G) (hp : kw_H) (x0 : Nat) (r : Int32 × kw_H) (h : X11_allMet_F hp x0 = some r) : kw_Met G mX11_allMet [.ref x0] hp (fun v h2 => v = some (.int r.1) ∧ h2 = r.2) := by
  refine kw_met (L := [some (.ref x0)]) (r := 0) (by decide +kernel) (Nat.le_of_ble_eq_true rfl) rfl ?_
  unfold X11_allMet_F at h
  obtain ⟨Q, hQ⟩ : ∃ Q : Option Value → kw_H → Prop, Q = (fun v h2 => v = some (.int r.1) ∧ h2 = r.2) := ⟨_, rfl⟩
  have hK : Q (some (.int r.1)) r.2 := by rw [hQ]; exact ⟨rfl, rfl⟩
  rw [← hQ]
  clear hQ
  refine kw_aload_n dX11_allMet_0 rfl ?_
  obtain ⟨v1, ev1, h⟩ := Option.bind_eq_some_iff.mp h
  refine kv_gR gfX11_26 dX11_allMet_1 ev1 ?_
  obtain ⟨r2, er2, h⟩ := Option.bind_eq_some_iff.mp h
  obtain ⟨ur2, eur2, er2⟩ := Option.bind_eq_some_iff.mp er2
  obtain ⟨fsr2, hor2⟩ := kp_ob_inv eur2
  refine kw_callV (As := []) (S := []) kcX2 cbX11_allMet_X2_isThere lkX11_137 imX2_isThere seX2_X2_isThere_X2_isThere rfl rfl (Nat.le_of_ble_eq_true rfl) dX11_allMet_4 hor2 (X2_isThere_c G hp v1 _ er2) (fun vv hh hq => ?_)
  rw [hq.1, hq.2]
  show kw_V G mX11_allMet 7 [some (.ref x0)] [.int r2] hp Q
  refine kw_if_eq 24 dX11_allMet_7 (by decide) (fun c6 => ?_) (fun c6 => ?_)
  · have h := (if_pos c6).symm.trans h
    refine kw_ldc (v := (-1000002)) dX11_allMet_24 ckX11_129 ?_
    have h := Option.some.inj h
    subst h
    exact kw_iret rfl dX11_allMet_26 hK
  · have h := (if_neg c6).symm.trans h
    refine kw_aload_n dX11_allMet_10 rfl ?_
    obtain ⟨v3, ev3, h⟩ := Option.bind_eq_some_iff.mp h
    refine kv_gR gfX11_33 dX11_allMet_11 ev3 ?_
    refine kw_aload_n dX11_allMet_14 rfl ?_
    obtain ⟨v4, ev4, h⟩ := Option.bind_eq_some_iff.mp h
    refine kv_gR gfX11_26 dX11_allMet_15 ev4 ?_
    obtain ⟨r5, er5, h⟩ := Option.bind_eq_some_iff.mp h
    obtain ⟨ur5, eur5, er5⟩ := Option.bind_eq_some_iff.mp er5
    obtain ⟨fsr5, hor5⟩ := kp_ob_inv eur5
    refine kw_callV (As := [.ref v4]) (S := []) kcX1 cbX11_allMet_X1_weeksUntilAllMet lkX11_221 imX1_weeksUntilAllMet seX1_X1_weeksUntilAllMet_X1_weeksUntilAllMet rfl rfl (Nat.le_of_ble_eq_true rfl) dX11_allMet_18 hor5 (X1_weeksUntilAllMet_c G hp v3 v4 _ er5) (fun vv hh hq => ?_)
    rw [hq.1, hq.2]
    show kw_V G mX11_allMet 21 [some (.ref x0)] [.int r5.1] r5.2 Q
    refine kw_goto 26 dX11_allMet_21 (by decide) ?_
    have h := Option.some.inj h
    subst h
    exact kw_iret rfl dX11_allMet_26 hK
/-! KitchenWheels.round()I -/
def X11_round_F (hp : kw_H) (x0 : Nat) : Option (Int32) :=
  (kp_gR hp x0 [10] 2).bind fun v1 =>
  ((kp_ob hp v1 2).bind fun _ => X2_isThere_F hp v1).bind fun r2 =>
  (if r2 = 0 then
  some ((-1000002))
else
  (kp_gR hp x0 [10] 3).bind fun v3 =>
  (kp_gR hp x0 [10] 2).bind fun v4 =>
  ((kp_ob hp v3 1).bind fun _ => X1_weeksUntilAnew_F hp v3 v4).bind fun r5 =>
  some (r5))
set_option maxRecDepth 100000 in
set_option maxHeartbeats 4000000 in
theorem X11_round_c (G : kw_G) (hp : kw_H) (x0 : Nat) (r : Int32) (h : X11_round_F hp x0 = some r) : kw_Met G mX11_round [.ref x0] hp (fun v h2 => v = some (.int r) ∧ h2 = hp) := by
  refine kw_met (L := [some (.ref x0)]) (r := 0) (by decide +kernel) (Nat.le_of_ble_eq_true rfl) rfl ?_
  unfold X11_round_F at h
  obtain ⟨Q, hQ⟩ : ∃ Q : Option Value → kw_H → Prop, Q = (fun v h2 => v = some (.int r) ∧ h2 = hp) := ⟨_, rfl⟩
  have hK : Q (some (.int r)) hp := by rw [hQ]; exact ⟨rfl, rfl⟩
  rw [← hQ]
  clear hQ
  refine kw_aload_n dX11_round_0 rfl ?_
  obtain ⟨v1, ev1, h⟩ := Option.bind_eq_some_iff.mp h
  refine kv_gR gfX11_26 dX11_round_1 ev1 ?_
  obtain ⟨r2, er2, h⟩ := Option.bind_eq_some_iff.mp h
  obtain ⟨ur2, eur2, er2⟩ := Option.bind_eq_some_iff.mp er2
  obtain ⟨fsr2, hor2⟩ := kp_ob_inv eur2
  refine kw_callV (As := []) (S := []) kcX2 cbX11_round_X2_isThere lkX11_137 imX2_isThere seX2_X2_isThere_X2_isThere rfl rfl (Nat.le_of_ble_eq_true rfl) dX11_round_4 hor2 (X2_isThere_c G hp v1 _ er2) (fun vv hh hq => ?_)
  rw [hq.1, hq.2]
  show kw_V G mX11_round 7 [some (.ref x0)] [.int r2] hp Q
  refine kw_if_eq 24 dX11_round_7 (by decide) (fun c6 => ?_) (fun c6 => ?_)
  · have h := (if_pos c6).symm.trans h
    refine kw_ldc (v := (-1000002)) dX11_round_24 ckX11_129 ?_
    have h := Option.some.inj h
    subst h
    exact kw_iret rfl dX11_round_26 hK
  · have h := (if_neg c6).symm.trans h
    refine kw_aload_n dX11_round_10 rfl ?_
    obtain ⟨v3, ev3, h⟩ := Option.bind_eq_some_iff.mp h
    refine kv_gR gfX11_33 dX11_round_11 ev3 ?_
    refine kw_aload_n dX11_round_14 rfl ?_
    obtain ⟨v4, ev4, h⟩ := Option.bind_eq_some_iff.mp h
    refine kv_gR gfX11_26 dX11_round_15 ev4 ?_
    obtain ⟨r5, er5, h⟩ := Option.bind_eq_some_iff.mp h
    obtain ⟨ur5, eur5, er5⟩ := Option.bind_eq_some_iff.mp er5
    obtain ⟨fsr5, hor5⟩ := kp_ob_inv eur5
    refine kw_callV (As := [.ref v4]) (S := []) kcX1 cbX11_round_X1_weeksUntilAnew lkX11_225 imX1_weeksUntilAnew seX1_X1_weeksUntilAnew_X1_weeksUntilAnew rfl rfl (Nat.le_of_ble_eq_true rfl) dX11_round_18 hor5 (X1_weeksUntilAnew_c G hp v3 v4 _ er5) (fun vv hh hq => ?_)
    rw [hq.1, hq.2]
    show kw_V G mX11_round 21 [some (.ref x0)] [.int r5] hp Q
    refine kw_goto 26 dX11_round_21 (by decide) ?_
    have h := Option.some.inj h
    subst h
    exact kw_iret rfl dX11_round_26 hK
/-! KitchenWheels.fairest(II)I -/
def X11_fairest_F (hp : kw_H) (x0 : Nat) (x1 : Int32) (x2 : Int32) : Option (Int32 × kw_H) :=
  (kp_gR hp x0 [10] 2).bind fun v1 =>
  ((kp_ob hp v1 2).bind fun _ => X2_isThere_F hp v1).bind fun r2 =>
  (if r2 = 0 then
  some (((-1000002), hp))
else
  (X11_within_F hp x1 (nI 1) (nI 60)).bind fun r3 =>
  (if r3 = 0 then
  some (((-1000001), hp))
else
  (X11_within_F hp x2 (nI 0) (nI 1)).bind fun r4 =>
  (if r4 = 0 then
  some (((-1000001), hp))
else
  (kp_gR hp x0 [10] 3).bind fun v5 =>
  (kp_gR hp x0 [10] 2).bind fun v6 =>
  ((kp_ob hp v5 1).bind fun _ => X1_fairestTurn_F hp v5 v6 x1).bind fun r7 =>
  (if x2 = 0 then
  (kp_gR r7.2 x0 [10] 3).bind fun v8 =>
  (kp_gR r7.2 x0 [10] 2).bind fun v9 =>
  ((kp_ob r7.2 v8 1).bind fun _ => X1_spreadTurnedBy_F r7.2 v8 v9 x1 r7.1).bind fun r10 =>
  some ((r10.1, r10.2))
else
  some ((r7.1, r7.2))))))
set_option maxRecDepth 100000 in
set_option maxHeartbeats 4000000 in
theorem X11_fairest_c (G : kw_G) (hp : kw_H) (x0 : Nat) (x1 : Int32) (x2 : Int32) (r : Int32 × kw_H) (h : X11_fairest_F hp x0 x1 x2 = some r) : kw_Met G mX11_fairest [.ref x0, .int x1, .int x2] hp (fun v h2 => v = some (.int r.1) ∧ h2 = r.2) := by
  refine kw_met (L := [some (.ref x0), some (.int x1), some (.int x2), none]) (r := 1) (by decide +kernel) (Nat.le_of_ble_eq_true rfl) rfl ?_
  unfold X11_fairest_F at h
  obtain ⟨Q, hQ⟩ : ∃ Q : Option Value → kw_H → Prop, Q = (fun v h2 => v = some (.int r.1) ∧ h2 = r.2) := ⟨_, rfl⟩
  have hK : Q (some (.int r.1)) r.2 := by rw [hQ]; exact ⟨rfl, rfl⟩
  rw [← hQ]
  clear hQ
  refine kw_aload_n dX11_fairest_0 rfl ?_
  obtain ⟨v1, ev1, h⟩ := Option.bind_eq_some_iff.mp h
  refine kv_gR gfX11_26 dX11_fairest_1 ev1 ?_
  obtain ⟨r2, er2, h⟩ := Option.bind_eq_some_iff.mp h
  obtain ⟨ur2, eur2, er2⟩ := Option.bind_eq_some_iff.mp er2
  obtain ⟨fsr2, hor2⟩ := kp_ob_inv eur2
  refine kw_callV (As := []) (S := []) kcX2 cbX11_fairest_X2_isThere lkX11_137 imX2_isThere seX2_X2_isThere_X2_isThere rfl rfl (Nat.le_of_ble_eq_true rfl) dX11_fairest_4 hor2 (X2_isThere_c G hp v1 _ er2) (fun vv hh hq => ?_)
  rw [hq.1, hq.2]
  show kw_V G mX11_fairest 7 [some (.ref x0), some (.int x1), some (.int x2), none] [.int r2] hp Q
  refine kw_if_ne 13 dX11_fairest_7 (by decide) (fun c14 => ?_) (fun c14 => ?_)
  · have h := (if_neg c14).symm.trans h
    refine kw_iload_n dX11_fairest_13 rfl ?_
    refine kw_iconst (v := nI 1) dX11_fairest_14 (by decide) ?_
    refine kw_bipush (v := nI 60) dX11_fairest_15 (by decide) ?_
    obtain ⟨r3, er3, h⟩ := Option.bind_eq_some_iff.mp h
    refine kw_callS (As := [.int x1, .int (nI 1), .int (nI 60)]) (S := []) cbX11_fairest_X11_within lkX11_55 stX11_within rfl rfl (Nat.le_of_ble_eq_true rfl) dX11_fairest_17 (X11_within_c G hp x1 (nI 1) (nI 60) _ er3) (fun vv hh hq => ?_)
    rw [hq.1, hq.2]
    show kw_V G mX11_fairest 20 [some (.ref x0), some (.int x1), some (.int x2), none] [.int r3] hp Q
    refine kw_if_eq 32 dX11_fairest_20 (by decide) (fun c13 => ?_) (fun c13 => ?_)
    · have h := (if_pos c13).symm.trans h
      refine kw_ldc (v := (-1000001)) dX11_fairest_32 ckX11_59 ?_
      have h := Option.some.inj h
      subst h
      exact kw_iret rfl dX11_fairest_34 hK
    · have h := (if_neg c13).symm.trans h
      refine kw_iload_n dX11_fairest_23 rfl ?_
      refine kw_iconst (v := nI 0) dX11_fairest_24 (by decide) ?_
      refine kw_iconst (v := nI 1) dX11_fairest_25 (by decide) ?_
      obtain ⟨r4, er4, h⟩ := Option.bind_eq_some_iff.mp h
      refine kw_callS (As := [.int x2, .int (nI 0), .int (nI 1)]) (S := []) cbX11_fairest_X11_within lkX11_55 stX11_within rfl rfl (Nat.le_of_ble_eq_true rfl) dX11_fairest_26 (X11_within_c G hp x2 (nI 0) (nI 1) _ er4) (fun vv hh hq => ?_)
      rw [hq.1, hq.2]
      show kw_V G mX11_fairest 29 [some (.ref x0), some (.int x1), some (.int x2), none] [.int r4] hp Q
      refine kw_if_ne 35 dX11_fairest_29 (by decide) (fun c12 => ?_) (fun c12 => ?_)
      · have h := (if_neg c12).symm.trans h
        refine kw_aload_n dX11_fairest_35 rfl ?_
        obtain ⟨v5, ev5, h⟩ := Option.bind_eq_some_iff.mp h
        refine kv_gR gfX11_33 dX11_fairest_36 ev5 ?_
        refine kw_aload_n dX11_fairest_39 rfl ?_
        obtain ⟨v6, ev6, h⟩ := Option.bind_eq_some_iff.mp h
        refine kv_gR gfX11_26 dX11_fairest_40 ev6 ?_
        refine kw_iload_n dX11_fairest_43 rfl ?_
        obtain ⟨r7, er7, h⟩ := Option.bind_eq_some_iff.mp h
        obtain ⟨ur7, eur7, er7⟩ := Option.bind_eq_some_iff.mp er7
        obtain ⟨fsr7, hor7⟩ := kp_ob_inv eur7
        refine kw_callV (As := [.ref v6, .int x1]) (S := []) kcX1 cbX11_fairest_X1_fairestTurn lkX11_228 imX1_fairestTurn seX1_X1_fairestTurn_X1_fairestTurn rfl rfl (Nat.le_of_ble_eq_true rfl) dX11_fairest_44 hor7 (X1_fairestTurn_c G hp v5 v6 x1 _ er7) (fun vv hh hq => ?_)
        rw [hq.1, hq.2]
        show kw_V G mX11_fairest 47 [some (.ref x0), some (.int x1), some (.int x2), none] [.int r7.1] r7.2 Q
        refine kw_istore_n (L' := [some (.ref x0), some (.int x1), some (.int x2), some (.int r7.1)]) dX11_fairest_47 (by decide) rfl ?_
        refine kw_iload_n dX11_fairest_48 rfl ?_
        refine kw_if_ne 68 dX11_fairest_49 (by decide) (fun c11 => ?_) (fun c11 => ?_)
        · have h := (if_neg c11).symm.trans h
          refine kw_iload_n dX11_fairest_68 rfl ?_
          have h := Option.some.inj h
          subst h
          exact kw_iret rfl dX11_fairest_69 hK
        · have h := (if_pos c11).symm.trans h
          refine kw_aload_n dX11_fairest_52 rfl ?_
          obtain ⟨v8, ev8, h⟩ := Option.bind_eq_some_iff.mp h
          refine kv_gR gfX11_33 dX11_fairest_53 ev8 ?_
          refine kw_aload_n dX11_fairest_56 rfl ?_
          obtain ⟨v9, ev9, h⟩ := Option.bind_eq_some_iff.mp h
          refine kv_gR gfX11_26 dX11_fairest_57 ev9 ?_
          refine kw_iload_n dX11_fairest_60 rfl ?_
          refine kw_iload_n dX11_fairest_61 rfl ?_
          obtain ⟨r10, er10, h⟩ := Option.bind_eq_some_iff.mp h
          obtain ⟨ur10, eur10, er10⟩ := Option.bind_eq_some_iff.mp er10
          obtain ⟨fsr10, hor10⟩ := kp_ob_inv eur10
          refine kw_callV (As := [.ref v9, .int x1, .int r7.1]) (S := []) kcX1 cbX11_fairest_X1_spreadTurnedBy lkX11_232 imX1_spreadTurnedBy seX1_X1_spreadTurnedBy_X1_spreadTurnedBy rfl rfl (Nat.le_of_ble_eq_true rfl) dX11_fairest_62 hor10 (X1_spreadTurnedBy_c G r7.2 v8 v9 x1 r7.1 _ er10) (fun vv hh hq => ?_)
          rw [hq.1, hq.2]
          show kw_V G mX11_fairest 65 [some (.ref x0), some (.int x1), some (.int x2), some (.int r7.1)] [.int r10.1] r10.2 Q
          refine kw_goto 69 dX11_fairest_65 (by decide) ?_
          have h := Option.some.inj h
          subst h
          exact kw_iret rfl dX11_fairest_69 hK
      · have h := (if_pos c12).symm.trans h
        refine kw_ldc (v := (-1000001)) dX11_fairest_32 ckX11_59 ?_
        have h := Option.some.inj h
        subst h
        exact kw_iret rfl dX11_fairest_34 hK
  · have h := (if_pos c14).symm.trans h
    refine kw_ldc (v := (-1000002)) dX11_fairest_10 ckX11_129 ?_
    have h := Option.some.inj h
    subst h
    exact kw_iret rfl dX11_fairest_12 hK
/-! KitchenWheels.owed(I)I -/
def X11_owed_K27 (G : kw_G) (Q : Option Value → kw_H → Prop) (hp : kw_H) (x0 : Nat) (x1 : Int32) (r : (Int32 × Int32) ⊕ (Int32)) : Prop := match r with
  | .inl z => kw_V G mX11_owed 27 [some (.ref x0), some (.int x1), some (.int z.1), some (.int z.2)] [] hp Q
  | .inr r => Q (some (.int r)) hp
def X11_owed_J52 (hp : kw_H) (x0 : Nat) (x1 : Int32) (x2 : Int32) : Option (Int32) :=
  (kp_gR hp x0 [10] 2).bind fun v4 =>
  ((kp_ob hp v4 2).bind fun _ => X2_allTimesOf_F hp v4 x1).bind fun r5 =>
  some (x2 - r5)
set_option maxRecDepth 100000 in
set_option maxHeartbeats 4000000 in
theorem X11_owed_J52_t (G : kw_G) (Q : Option Value → kw_H → Prop) (hp : kw_H) (x0 : Nat) (x1 : Int32) (x2 : Int32) (r : Int32) (h : X11_owed_J52 hp x0 x1 x2 = some r) (hK : Q (some (.int r)) hp) : kw_V G mX11_owed 52 [some (.ref x0), some (.int x1), some (.int x2), none] [] hp Q := by
  unfold X11_owed_J52 at h
  refine kw_iload_n dX11_owed_52 rfl ?_
  refine kw_aload_n dX11_owed_53 rfl ?_
  obtain ⟨v4, ev4, h⟩ := Option.bind_eq_some_iff.mp h
  refine kv_gR gfX11_26 dX11_owed_54 ev4 ?_
  refine kw_iload_n dX11_owed_57 rfl ?_
  obtain ⟨r5, er5, h⟩ := Option.bind_eq_some_iff.mp h
  obtain ⟨ur5, eur5, er5⟩ := Option.bind_eq_some_iff.mp er5
  obtain ⟨fsr5, hor5⟩ := kp_ob_inv eur5
  refine kw_callV (As := [.int x1]) (S := [.int x2]) kcX2 cbX11_owed_X2_allTimesOf lkX11_235 imX2_allTimesOf seX2_X2_allTimesOf_X2_allTimesOf rfl rfl (Nat.le_of_ble_eq_true rfl) dX11_owed_58 hor5 (X2_allTimesOf_c G hp v4 x1 _ er5) (fun vv hh hq => ?_)
  rw [hq.1, hq.2]
  show kw_V G mX11_owed 61 [some (.ref x0), some (.int x1), some (.int x2), none] [.int r5, .int x2] hp Q
  refine kw_isub dX11_owed_61 ?_
  have h := Option.some.inj h
  subst h
  exact kw_iret rfl dX11_owed_62 hK
def X11_owed_b27 (hp : kw_H) (x0 : Nat) (x1 : Int32) (x2 : Int32) (x3 : Int32) : Option (((Int32 × Int32) ⊕ (Int32))) :=
  (if (nI 6) ≤ x3 then
  (X11_owed_J52 hp x0 x1 x2).map (fun r => .inr (r))
else
  (kp_gR hp x0 [10] 2).bind fun v7 =>
  ((kp_ob hp v7 2).bind fun _ => X2_allTimesOf_F hp v7 x3).bind fun r8 =>
  some (.inl (kp_max x2 r8, x3 + (nI 1))))
set_option maxRecDepth 100000 in
set_option maxHeartbeats 4000000 in
theorem X11_owed_b27_t (G : kw_G) (Q : Option Value → kw_H → Prop) (hp : kw_H) (x0 : Nat) (x1 : Int32) (x2 : Int32) (x3 : Int32) (r : ((Int32 × Int32) ⊕ (Int32))) (h : X11_owed_b27 hp x0 x1 x2 x3 = some r) (hK : X11_owed_K27 G Q hp x0 x1 r) : kw_V G mX11_owed 27 [some (.ref x0), some (.int x1), some (.int x2), some (.int x3)] [] hp Q := by
  unfold X11_owed_b27 at h
  refine kw_iload_n dX11_owed_27 rfl ?_
  refine kw_bipush (v := nI 6) dX11_owed_28 (by decide) ?_
  refine kw_icmp_ge 52 dX11_owed_30 (by decide) (fun c9 => ?_) (fun c9 => ?_)
  · have h := (if_pos c9).symm.trans h
    refine kw_mask [true, true, true, false] (L' := [some (.ref x0), some (.int x1), some (.int x2), none]) rfl ?_
    obtain ⟨r6, hr6, hrr6⟩ := Option.map_eq_some_iff.mp h
    subst hrr6
    exact X11_owed_J52_t G Q hp x0 x1 x2 r6 hr6 hK
  · have h := (if_neg c9).symm.trans h
    refine kw_iload_n dX11_owed_33 rfl ?_
    refine kw_aload_n dX11_owed_34 rfl ?_
    obtain ⟨v7, ev7, h⟩ := Option.bind_eq_some_iff.mp h
    refine kv_gR gfX11_26 dX11_owed_35 ev7 ?_
    refine kw_iload_n dX11_owed_38 rfl ?_
    obtain ⟨r8, er8, h⟩ := Option.bind_eq_some_iff.mp h
    obtain ⟨ur8, eur8, er8⟩ := Option.bind_eq_some_iff.mp er8
    obtain ⟨fsr8, hor8⟩ := kp_ob_inv eur8
    refine kw_callV (As := [.int x3]) (S := [.int x2]) kcX2 cbX11_owed_X2_allTimesOf lkX11_235 imX2_allTimesOf seX2_X2_allTimesOf_X2_allTimesOf rfl rfl (Nat.le_of_ble_eq_true rfl) dX11_owed_39 hor8 (X2_allTimesOf_c G hp v7 x3 _ er8) (fun vv hh hq => ?_)
    rw [hq.1, hq.2]
    show kw_V G mX11_owed 42 [some (.ref x0), some (.int x1), some (.int x2), some (.int x3)] [.int r8, .int x2] hp Q
    refine kw_mmax lkX11_238 st_max in_J9 cd_max (by decide) (by decide) (Nat.le_of_ble_eq_true rfl) dX11_owed_42 ?_
    refine kw_istore_n (L' := [some (.ref x0), some (.int x1), some (.int (kp_max x2 r8)), some (.int x3)]) dX11_owed_45 (by decide) rfl ?_
    refine kv_iinc (w := nI 1) (L' := [some (.ref x0), some (.int x1), some (.int (kp_max x2 r8)), some (.int (x3 + (nI 1)))]) dX11_owed_46 (by decide) rfl (by decide) rfl ?_
    refine kw_goto 27 dX11_owed_49 (by decide) ?_
    have h := Option.some.inj h
    subst h
    exact hK
def X11_owed_B27 (hp : kw_H) (x0 : Nat) (x1 : Int32) (z : Int32 × Int32) : Option (((Int32 × Int32) ⊕ (Int32))) := X11_owed_b27 hp x0 x1 z.1 z.2
theorem X11_owed_L27_t (G : kw_G) (Q : Option Value → kw_H → Prop) (hp : kw_H) (x0 : Nat) (x1 : Int32) (n : Nat) (z : Int32 × Int32) (r : Int32) (h : kp_lp (X11_owed_B27 hp x0 x1) n z = some r) (hK : Q (some (.int r)) hp) : kw_V G mX11_owed 27 [some (.ref x0), some (.int x1), some (.int z.1), some (.int z.2)] [] hp Q :=
  kv_lp _ (fun z => kw_V G mX11_owed 27 [some (.ref x0), some (.int x1), some (.int z.1), some (.int z.2)] [] hp Q) (fun r => Q (some (.int r)) hp) (fun z x hb hx => X11_owed_b27_t G Q hp x0 x1 z.1 z.2 x hb (by cases x <;> exact hx)) n z r h hK
def X11_owed_F (hp : kw_H) (x0 : Nat) (x1 : Int32) : Option (Int32) :=
  (kp_gR hp x0 [10] 2).bind fun v1 =>
  ((kp_ob hp v1 2).bind fun _ => X2_isThere_F hp v1).bind fun r2 =>
  (if r2 = 0 then
  some ((-1000002))
else
  (X11_isPerson_F hp x1).bind fun r3 =>
  (if r3 = 0 then
  some ((-1000001))
else
  kp_lp (X11_owed_B27 hp x0 x1) 2000 (nI 0, nI 0)))
set_option maxRecDepth 100000 in
set_option maxHeartbeats 4000000 in
theorem X11_owed_c (G : kw_G) (hp : kw_H) (x0 : Nat) (x1 : Int32) (r : Int32) (h : X11_owed_F hp x0 x1 = some r) : kw_Met G mX11_owed [.ref x0, .int x1] hp (fun v h2 => v = some (.int r) ∧ h2 = hp) := by
  refine kw_met (L := [some (.ref x0), some (.int x1), none, none]) (r := 2) (by decide +kernel) (Nat.le_of_ble_eq_true rfl) rfl ?_
  unfold X11_owed_F at h
  obtain ⟨Q, hQ⟩ : ∃ Q : Option Value → kw_H → Prop, Q = (fun v h2 => v = some (.int r) ∧ h2 = hp) := ⟨_, rfl⟩
  have hK : Q (some (.int r)) hp := by rw [hQ]; exact ⟨rfl, rfl⟩
  rw [← hQ]
  clear hQ
  refine kw_aload_n dX11_owed_0 rfl ?_
  obtain ⟨v1, ev1, h⟩ := Option.bind_eq_some_iff.mp h
  refine kv_gR gfX11_26 dX11_owed_1 ev1 ?_
  obtain ⟨r2, er2, h⟩ := Option.bind_eq_some_iff.mp h
  obtain ⟨ur2, eur2, er2⟩ := Option.bind_eq_some_iff.mp er2
  obtain ⟨fsr2, hor2⟩ := kp_ob_inv eur2
  refine kw_callV (As := []) (S := []) kcX2 cbX11_owed_X2_isThere lkX11_137 imX2_isThere seX2_X2_isThere_X2_isThere rfl rfl (Nat.le_of_ble_eq_true rfl) dX11_owed_4 hor2 (X2_isThere_c G hp v1 _ er2) (fun vv hh hq => ?_)
  rw [hq.1, hq.2]
  show kw_V G mX11_owed 7 [some (.ref x0), some (.int x1), none, none] [.int r2] hp Q
  refine kw_if_ne 13 dX11_owed_7 (by decide) (fun c11 => ?_) (fun c11 => ?_)
  · have h := (if_neg c11).symm.trans h
    refine kw_iload_n dX11_owed_13 rfl ?_
    obtain ⟨r3, er3, h⟩ := Option.bind_eq_some_iff.mp h
    refine kw_callS (As := [.int x1]) (S := []) cbX11_owed_X11_isPerson lkX11_152 stX11_isPerson rfl rfl (Nat.le_of_ble_eq_true rfl) dX11_owed_14 (X11_isPerson_c G hp x1 _ er3) (fun vv hh hq => ?_)
    rw [hq.1, hq.2]
    show kw_V G mX11_owed 17 [some (.ref x0), some (.int x1), none, none] [.int r3] hp Q
    refine kw_if_ne 23 dX11_owed_17 (by decide) (fun c10 => ?_) (fun c10 => ?_)
    · have h := (if_neg c10).symm.trans h
      refine kw_iconst (v := nI 0) dX11_owed_23 (by decide) ?_
      refine kw_istore_n (L' := [some (.ref x0), some (.int x1), some (.int (nI 0)), none]) dX11_owed_24 (by decide) rfl ?_
      refine kw_iconst (v := nI 0) dX11_owed_25 (by decide) ?_
      refine kw_istore_n (L' := [some (.ref x0), some (.int x1), some (.int (nI 0)), some (.int (nI 0))]) dX11_owed_26 (by decide) rfl ?_
      exact X11_owed_L27_t G Q hp x0 x1 _ (nI 0, nI 0) _ h hK
    · have h := (if_pos c10).symm.trans h
      refine kw_ldc (v := (-1000001)) dX11_owed_20 ckX11_59 ?_
      have h := Option.some.inj h
      subst h
      exact kw_iret rfl dX11_owed_22 hK
  · have h := (if_pos c11).symm.trans h
    refine kw_ldc (v := (-1000002)) dX11_owed_10 ckX11_129 ?_
    have h := Option.some.inj h
    subst h
    exact kw_iret rfl dX11_owed_12 hK
/-! KitchenWheels.right(IIII)I -/
def X11_right_J86 (hp : kw_H) (x4 : Int32) (x5 : Int32) (s0 : Int32) : Option (Int32 × kw_H) :=
  (if x4 = 0 then
  (if s0 = 0 then
  some ((nI 0, hp))
else
  some ((nI 1, hp)))
else
  (if s0 = 0 then
  some (((-1000000), hp))
else
  some ((x5, hp))))
set_option maxRecDepth 100000 in
set_option maxHeartbeats 4000000 in
theorem X11_right_J86_t (G : kw_G) (Q : Option Value → kw_H → Prop) (hp : kw_H) (x4 : Int32) (x5 : Int32) (s0 : Int32) (r : Int32 × kw_H) (h : X11_right_J86 hp x4 x5 s0 = some r) (hK : Q (some (.int r.1)) r.2) : kw_V G mX11_right 86 [none, none, none, none, some (.int x4), some (.int x5), none] [.int s0] hp Q := by
  unfold X11_right_J86 at h
  refine kw_istore (L' := [none, none, none, none, some (.int x4), some (.int x5), some (.int s0)]) dX11_right_86 (by decide) rfl ?_
  refine kw_iload dX11_right_88 rfl ?_
  refine kw_if_ne 104 dX11_right_90 (by decide) (fun c12 => ?_) (fun c12 => ?_)
  · have h := (if_neg c12).symm.trans h
    refine kw_iload dX11_right_104 rfl ?_
    refine kw_if_eq 114 dX11_right_106 (by decide) (fun c10 => ?_) (fun c10 => ?_)
    · have h := (if_pos c10).symm.trans h
      refine kw_ldc (v := (-1000000)) dX11_right_114 ckX11_185 ?_
      have h := Option.some.inj h
      subst h
      exact kw_iret rfl dX11_right_116 hK
    · have h := (if_neg c10).symm.trans h
      refine kw_iload dX11_right_109 rfl ?_
      refine kw_goto 116 dX11_right_111 (by decide) ?_
      have h := Option.some.inj h
      subst h
      exact kw_iret rfl dX11_right_116 hK
  · have h := (if_pos c12).symm.trans h
    refine kw_iload dX11_right_93 rfl ?_
    refine kw_if_eq 102 dX11_right_95 (by decide) (fun c11 => ?_) (fun c11 => ?_)
    · have h := (if_pos c11).symm.trans h
      refine kw_iconst (v := nI 0) dX11_right_102 (by decide) ?_
      have h := Option.some.inj h
      subst h
      exact kw_iret rfl dX11_right_103 hK
    · have h := (if_neg c11).symm.trans h
      refine kw_iconst (v := nI 1) dX11_right_98 (by decide) ?_
      refine kw_goto 103 dX11_right_99 (by decide) ?_
      have h := Option.some.inj h
      subst h
      exact kw_iret rfl dX11_right_103 hK
def X11_right_F (hp : kw_H) (x0 : Nat) (x1 : Int32) (x2 : Int32) (x3 : Int32) (x4 : Int32) : Option (Int32 × kw_H) :=
  (kp_gR hp x0 [10] 2).bind fun v1 =>
  ((kp_ob hp v1 2).bind fun _ => X2_isThere_F hp v1).bind fun r2 =>
  (if r2 = 0 then
  some (((-1000002), hp))
else
  (X11_isPerson_F hp x1).bind fun r3 =>
  (if r3 = 0 then
  some (((-1000001), hp))
else
  (X11_isJob_F hp x2).bind fun r4 =>
  (if r4 = 0 then
  some (((-1000001), hp))
else
  (X11_within_F hp x3 (nI 0) (nI 60)).bind fun r5 =>
  (if r5 = 0 then
  some (((-1000001), hp))
else
  (X11_within_F hp x4 (nI 0) (nI 1)).bind fun r6 =>
  (if r6 = 0 then
  some (((-1000001), hp))
else
  (kp_gR hp x0 [10] 3).bind fun v7 =>
  (kp_gR hp x0 [10] 2).bind fun v8 =>
  ((kp_ob hp v7 1).bind fun _ => X1_swapFor_F hp v7 v8 x1 x2 x3).bind fun r9 =>
  (if r9.1 = ((-1000000)) then
  some (((-1000000), r9.2))
else
  (if r9.1 = 0 then
  X11_right_J86 r9.2 x4 r9.1 (nI 0)
else
  X11_right_J86 r9.2 x4 r9.1 (nI 1))))))))
set_option maxRecDepth 100000 in
set_option maxHeartbeats 4000000 in
theorem X11_right_c (G : kw_G) (hp : kw_H) (x0 : Nat) (x1 : Int32) (x2 : Int32) (x3 : Int32) (x4 : Int32) (r : Int32 × kw_H) (h : X11_right_F hp x0 x1 x2 x3 x4 = some r) : kw_Met G mX11_right [.ref x0, .int x1, .int x2, .int x3, .int x4] hp (fun v h2 => v = some (.int r.1) ∧ h2 = r.2) := by
  refine kw_met (L := [some (.ref x0), some (.int x1), some (.int x2), some (.int x3), some (.int x4), none, none]) (r := 2) (by decide +kernel) (Nat.le_of_ble_eq_true rfl) rfl ?_
  unfold X11_right_F at h
  obtain ⟨Q, hQ⟩ : ∃ Q : Option Value → kw_H → Prop, Q = (fun v h2 => v = some (.int r.1) ∧ h2 = r.2) := ⟨_, rfl⟩
  have hK : Q (some (.int r.1)) r.2 := by rw [hQ]; exact ⟨rfl, rfl⟩
  rw [← hQ]
  clear hQ
  refine kw_aload_n dX11_right_0 rfl ?_
  obtain ⟨v1, ev1, h⟩ := Option.bind_eq_some_iff.mp h
  refine kv_gR gfX11_26 dX11_right_1 ev1 ?_
  obtain ⟨r2, er2, h⟩ := Option.bind_eq_some_iff.mp h
  obtain ⟨ur2, eur2, er2⟩ := Option.bind_eq_some_iff.mp er2
  obtain ⟨fsr2, hor2⟩ := kp_ob_inv eur2
  refine kw_callV (As := []) (S := []) kcX2 cbX11_right_X2_isThere lkX11_137 imX2_isThere seX2_X2_isThere_X2_isThere rfl rfl (Nat.le_of_ble_eq_true rfl) dX11_right_4 hor2 (X2_isThere_c G hp v1 _ er2) (fun vv hh hq => ?_)
  rw [hq.1, hq.2]
  show kw_V G mX11_right 7 [some (.ref x0), some (.int x1), some (.int x2), some (.int x3), some (.int x4), none, none] [.int r2] hp Q
  refine kw_if_ne 13 dX11_right_7 (by decide) (fun c19 => ?_) (fun c19 => ?_)
  · have h := (if_neg c19).symm.trans h
    refine kw_iload_n dX11_right_13 rfl ?_
    obtain ⟨r3, er3, h⟩ := Option.bind_eq_some_iff.mp h
    refine kw_callS (As := [.int x1]) (S := []) cbX11_right_X11_isPerson lkX11_152 stX11_isPerson rfl rfl (Nat.le_of_ble_eq_true rfl) dX11_right_14 (X11_isPerson_c G hp x1 _ er3) (fun vv hh hq => ?_)
    rw [hq.1, hq.2]
    show kw_V G mX11_right 17 [some (.ref x0), some (.int x1), some (.int x2), some (.int x3), some (.int x4), none, none] [.int r3] hp Q
    refine kw_if_eq 47 dX11_right_17 (by decide) (fun c18 => ?_) (fun c18 => ?_)
    · have h := (if_pos c18).symm.trans h
      refine kw_ldc (v := (-1000001)) dX11_right_47 ckX11_59 ?_
      have h := Option.some.inj h
      subst h
      exact kw_iret rfl dX11_right_49 hK
    · have h := (if_neg c18).symm.trans h
      refine kw_iload_n dX11_right_20 rfl ?_
      obtain ⟨r4, er4, h⟩ := Option.bind_eq_some_iff.mp h
      refine kw_callS (As := [.int x2]) (S := []) cbX11_right_X11_isJob lkX11_179 stX11_isJob rfl rfl (Nat.le_of_ble_eq_true rfl) dX11_right_21 (X11_isJob_c G hp x2 _ er4) (fun vv hh hq => ?_)
      rw [hq.1, hq.2]
      show kw_V G mX11_right 24 [some (.ref x0), some (.int x1), some (.int x2), some (.int x3), some (.int x4), none, none] [.int r4] hp Q
      refine kw_if_eq 47 dX11_right_24 (by decide) (fun c17 => ?_) (fun c17 => ?_)
      · have h := (if_pos c17).symm.trans h
        refine kw_ldc (v := (-1000001)) dX11_right_47 ckX11_59 ?_
        have h := Option.some.inj h
        subst h
        exact kw_iret rfl dX11_right_49 hK
      · have h := (if_neg c17).symm.trans h
        refine kw_iload_n dX11_right_27 rfl ?_
        refine kw_iconst (v := nI 0) dX11_right_28 (by decide) ?_
        refine kw_bipush (v := nI 60) dX11_right_29 (by decide) ?_
        obtain ⟨r5, er5, h⟩ := Option.bind_eq_some_iff.mp h
        refine kw_callS (As := [.int x3, .int (nI 0), .int (nI 60)]) (S := []) cbX11_right_X11_within lkX11_55 stX11_within rfl rfl (Nat.le_of_ble_eq_true rfl) dX11_right_31 (X11_within_c G hp x3 (nI 0) (nI 60) _ er5) (fun vv hh hq => ?_)
        rw [hq.1, hq.2]
        show kw_V G mX11_right 34 [some (.ref x0), some (.int x1), some (.int x2), some (.int x3), some (.int x4), none, none] [.int r5] hp Q
        refine kw_if_eq 47 dX11_right_34 (by decide) (fun c16 => ?_) (fun c16 => ?_)
        · have h := (if_pos c16).symm.trans h
          refine kw_ldc (v := (-1000001)) dX11_right_47 ckX11_59 ?_
          have h := Option.some.inj h
          subst h
          exact kw_iret rfl dX11_right_49 hK
        · have h := (if_neg c16).symm.trans h
          refine kw_iload dX11_right_37 rfl ?_
          refine kw_iconst (v := nI 0) dX11_right_39 (by decide) ?_
          refine kw_iconst (v := nI 1) dX11_right_40 (by decide) ?_
          obtain ⟨r6, er6, h⟩ := Option.bind_eq_some_iff.mp h
          refine kw_callS (As := [.int x4, .int (nI 0), .int (nI 1)]) (S := []) cbX11_right_X11_within lkX11_55 stX11_within rfl rfl (Nat.le_of_ble_eq_true rfl) dX11_right_41 (X11_within_c G hp x4 (nI 0) (nI 1) _ er6) (fun vv hh hq => ?_)
          rw [hq.1, hq.2]
          show kw_V G mX11_right 44 [some (.ref x0), some (.int x1), some (.int x2), some (.int x3), some (.int x4), none, none] [.int r6] hp Q
          refine kw_if_ne 50 dX11_right_44 (by decide) (fun c15 => ?_) (fun c15 => ?_)
          · have h := (if_neg c15).symm.trans h
            refine kw_aload_n dX11_right_50 rfl ?_
            obtain ⟨v7, ev7, h⟩ := Option.bind_eq_some_iff.mp h
            refine kv_gR gfX11_33 dX11_right_51 ev7 ?_
            refine kw_aload_n dX11_right_54 rfl ?_
            obtain ⟨v8, ev8, h⟩ := Option.bind_eq_some_iff.mp h
            refine kv_gR gfX11_26 dX11_right_55 ev8 ?_
            refine kw_iload_n dX11_right_58 rfl ?_
            refine kw_iload_n dX11_right_59 rfl ?_
            refine kw_iload_n dX11_right_60 rfl ?_
            obtain ⟨r9, er9, h⟩ := Option.bind_eq_some_iff.mp h
            obtain ⟨ur9, eur9, er9⟩ := Option.bind_eq_some_iff.mp er9
            obtain ⟨fsr9, hor9⟩ := kp_ob_inv eur9
            refine kw_callV (As := [.ref v8, .int x1, .int x2, .int x3]) (S := []) kcX1 cbX11_right_X1_swapFor lkX11_243 imX1_swapFor seX1_X1_swapFor_X1_swapFor rfl rfl (Nat.le_of_ble_eq_true rfl) dX11_right_61 hor9 (X1_swapFor_c G hp v7 v8 x1 x2 x3 _ er9) (fun vv hh hq => ?_)
            rw [hq.1, hq.2]
            show kw_V G mX11_right 64 [some (.ref x0), some (.int x1), some (.int x2), some (.int x3), some (.int x4), none, none] [.int r9.1] r9.2 Q
            refine kw_istore (L' := [some (.ref x0), some (.int x1), some (.int x2), some (.int x3), some (.int x4), some (.int r9.1), none]) dX11_right_64 (by decide) rfl ?_
            refine kw_iload dX11_right_66 rfl ?_
            refine kw_ldc (v := (-1000000)) dX11_right_68 ckX11_185 ?_
            refine kw_icmp_ne 76 dX11_right_70 (by decide) (fun c14 => ?_) (fun c14 => ?_)
            · have h := (if_neg c14).symm.trans h
              refine kw_iload dX11_right_76 rfl ?_
              refine kw_if_eq 85 dX11_right_78 (by decide) (fun c13 => ?_) (fun c13 => ?_)
              · have h := (if_pos c13).symm.trans h
                refine kw_iconst (v := nI 0) dX11_right_85 (by decide) ?_
                refine kw_mask [false, false, false, false, true, true, true] (L' := [none, none, none, none, some (.int x4), some (.int r9.1), none]) rfl ?_
                exact X11_right_J86_t G Q r9.2 x4 r9.1 (nI 0) _ h hK
              · have h := (if_neg c13).symm.trans h
                refine kw_iconst (v := nI 1) dX11_right_81 (by decide) ?_
                refine kw_goto 86 dX11_right_82 (by decide) ?_
                refine kw_mask [false, false, false, false, true, true, true] (L' := [none, none, none, none, some (.int x4), some (.int r9.1), none]) rfl ?_
                exact X11_right_J86_t G Q r9.2 x4 r9.1 (nI 1) _ h hK
            · have h := (if_pos c14).symm.trans h
              refine kw_ldc (v := (-1000000)) dX11_right_73 ckX11_185 ?_
              have h := Option.some.inj h
              subst h
              exact kw_iret rfl dX11_right_75 hK
          · have h := (if_pos c15).symm.trans h
            refine kw_ldc (v := (-1000001)) dX11_right_47 ckX11_59 ?_
            have h := Option.some.inj h
            subst h
            exact kw_iret rfl dX11_right_49 hK
  · have h := (if_pos c19).symm.trans h
    refine kw_ldc (v := (-1000002)) dX11_right_10 ckX11_129 ?_
    have h := Option.some.inj h
    subst h
    exact kw_iret rfl dX11_right_12 hK
