/-! KitchenWheelsModel.fairest(II)I -/
def X12_fairest_K44 (G : kw_G) (Q : Option Value → kw_H → Prop) (x0 : Nat) (x1 : Int32) (x2 : Int32) (r : (Int32 × Int32 × Int32 × kw_H) ⊕ (Int32 × kw_H)) : Prop := match r with
  | .inl z => kw_V G mX12_fairest 44 [some (.ref x0), some (.int x1), some (.int x2), some (.int z.1), some (.int z.2.1), some (.int z.2.2.1), none] [] z.2.2.2 Q
  | .inr r => Q (some (.int r.1)) r.2
def X12_fairest_J131 (hp : kw_H) (x2 : Int32) (x3 : Int32) (x4 : Int32) : Option (Int32 × kw_H) :=
  (if x2 = 0 then
  some ((x4, hp))
else
  some ((x3, hp)))
set_option maxRecDepth 100000 in
set_option maxHeartbeats 4000000 in
theorem X12_fairest_J131_t (G : kw_G) (Q : Option Value → kw_H → Prop) (hp : kw_H) (x2 : Int32) (x3 : Int32) (x4 : Int32) (r : Int32 × kw_H) (h : X12_fairest_J131 hp x2 x3 x4 = some r) (hK : Q (some (.int r.1)) r.2) : kw_V G mX12_fairest 131 [none, none, some (.int x2), some (.int x3), some (.int x4), none, none] [] hp Q := by
  unfold X12_fairest_J131 at h
  refine kw_iload_n dX12_fairest_131 rfl ?_
  refine kw_if_ne 140 dX12_fairest_132 (by decide) (fun c4 => ?_) (fun c4 => ?_)
  · have h := (if_neg c4).symm.trans h
    refine kw_iload_n dX12_fairest_140 rfl ?_
    have h := Option.some.inj h
    subst h
    exact kw_iret rfl dX12_fairest_141 hK
  · have h := (if_pos c4).symm.trans h
    refine kw_iload dX12_fairest_135 rfl ?_
    refine kw_goto 141 dX12_fairest_137 (by decide) ?_
    have h := Option.some.inj h
    subst h
    exact kw_iret rfl dX12_fairest_141 hK
def X12_fairest_K68 (G : kw_G) (Q : Option Value → kw_H → Prop) (x0 : Nat) (x1 : Int32) (x2 : Int32) (x3 : Int32) (x4 : Int32) (x5 : Int32) (r : (Int32 × kw_H) ⊕ (((Int32 × Int32 × Int32 × kw_H) ⊕ (Int32 × kw_H)))) : Prop := match r with
  | .inl z => kw_V G mX12_fairest 68 [some (.ref x0), some (.int x1), some (.int x2), some (.int x3), some (.int x4), some (.int x5), some (.int z.1)] [] z.2 Q
  | .inr r => X12_fairest_K44 G Q x0 x1 x2 r
def X12_fairest_J123 (hp : kw_H) (x0 : Nat) (x1 : Int32) (x2 : Int32) (x3 : Int32) (x5 : Int32) (s0 : Int32) : Option (((Int32 × Int32 × Int32 × kw_H) ⊕ (Int32 × kw_H))) :=
  some (.inl (x3, s0, x5 + (nI 1), hp))
set_option maxRecDepth 100000 in
set_option maxHeartbeats 4000000 in
theorem X12_fairest_J123_t (G : kw_G) (Q : Option Value → kw_H → Prop) (hp : kw_H) (x0 : Nat) (x1 : Int32) (x2 : Int32) (x3 : Int32) (x5 : Int32) (s0 : Int32) (r : ((Int32 × Int32 × Int32 × kw_H) ⊕ (Int32 × kw_H))) (h : X12_fairest_J123 hp x0 x1 x2 x3 x5 s0 = some r) (hK : X12_fairest_K44 G Q x0 x1 x2 r) : kw_V G mX12_fairest 123 [some (.ref x0), some (.int x1), some (.int x2), some (.int x3), none, some (.int x5), none] [.int s0] hp Q := by
  unfold X12_fairest_J123 at h
  refine kw_istore (L' := [some (.ref x0), some (.int x1), some (.int x2), some (.int x3), some (.int s0), some (.int x5), none]) dX12_fairest_123 (by decide) rfl ?_
  refine kv_iinc (w := nI 1) (L' := [some (.ref x0), some (.int x1), some (.int x2), some (.int x3), some (.int s0), some (.int (x5 + (nI 1))), none]) dX12_fairest_125 (by decide) rfl (by decide) rfl ?_
  refine kw_goto 44 dX12_fairest_128 (by decide) ?_
  have h := Option.some.inj h
  subst h
  exact hK
def X12_fairest_J108 (hp : kw_H) (x0 : Nat) (x1 : Int32) (x2 : Int32) (x4 : Int32) (x5 : Int32) (x6 : Int32) (s0 : Int32) : Option (((Int32 × Int32 × Int32 × kw_H) ⊕ (Int32 × kw_H))) :=
  (if x4 ≤ x6 then
  X12_fairest_J123 hp x0 x1 x2 s0 x5 x4
else
  X12_fairest_J123 hp x0 x1 x2 s0 x5 x6)
set_option maxRecDepth 100000 in
set_option maxHeartbeats 4000000 in
theorem X12_fairest_J108_t (G : kw_G) (Q : Option Value → kw_H → Prop) (hp : kw_H) (x0 : Nat) (x1 : Int32) (x2 : Int32) (x4 : Int32) (x5 : Int32) (x6 : Int32) (s0 : Int32) (r : ((Int32 × Int32 × Int32 × kw_H) ⊕ (Int32 × kw_H))) (h : X12_fairest_J108 hp x0 x1 x2 x4 x5 x6 s0 = some r) (hK : X12_fairest_K44 G Q x0 x1 x2 r) : kw_V G mX12_fairest 108 [some (.ref x0), some (.int x1), some (.int x2), none, some (.int x4), some (.int x5), some (.int x6)] [.int s0] hp Q := by
  unfold X12_fairest_J108 at h
  refine kw_istore_n (L' := [some (.ref x0), some (.int x1), some (.int x2), some (.int s0), some (.int x4), some (.int x5), some (.int x6)]) dX12_fairest_108 (by decide) rfl ?_
  refine kw_iload dX12_fairest_109 rfl ?_
  refine kw_iload dX12_fairest_111 rfl ?_
  refine kw_icmp_ge 121 dX12_fairest_113 (by decide) (fun c10 => ?_) (fun c10 => ?_)
  · have h := (if_pos c10).symm.trans h
    refine kw_iload dX12_fairest_121 rfl ?_
    refine kw_mask [true, true, true, true, false, true, false] (L' := [some (.ref x0), some (.int x1), some (.int x2), some (.int s0), none, some (.int x5), none]) rfl ?_
    exact X12_fairest_J123_t G Q hp x0 x1 x2 s0 x5 x4 _ h hK
  · have h := (if_neg c10).symm.trans h
    refine kw_iload dX12_fairest_116 rfl ?_
    refine kw_goto 123 dX12_fairest_118 (by decide) ?_
    refine kw_mask [true, true, true, true, false, true, false] (L' := [some (.ref x0), some (.int x1), some (.int x2), some (.int s0), none, some (.int x5), none]) rfl ?_
    exact X12_fairest_J123_t G Q hp x0 x1 x2 s0 x5 x6 _ h hK
def X12_fairest_J89 (hp : kw_H) (x0 : Nat) (x1 : Int32) (x2 : Int32) (x3 : Int32) (x4 : Int32) (x5 : Int32) : Option (((Int32 × Int32 × Int32 × kw_H) ⊕ (Int32 × kw_H))) :=
  ((kp_ob hp x0 11).bind fun _ => X12_differenceTried_F hp x0).bind fun r9 =>
  (if x4 ≤ r9 then
  X12_fairest_J108 hp x0 x1 x2 x4 x5 r9 x3
else
  X12_fairest_J108 hp x0 x1 x2 x4 x5 r9 x5)
set_option maxRecDepth 100000 in
set_option maxHeartbeats 4000000 in
theorem X12_fairest_J89_t (G : kw_G) (Q : Option Value → kw_H → Prop) (hp : kw_H) (x0 : Nat) (x1 : Int32) (x2 : Int32) (x3 : Int32) (x4 : Int32) (x5 : Int32) (r : ((Int32 × Int32 × Int32 × kw_H) ⊕ (Int32 × kw_H))) (h : X12_fairest_J89 hp x0 x1 x2 x3 x4 x5 = some r) (hK : X12_fairest_K44 G Q x0 x1 x2 r) : kw_V G mX12_fairest 89 [some (.ref x0), some (.int x1), some (.int x2), some (.int x3), some (.int x4), some (.int x5), none] [] hp Q := by
  unfold X12_fairest_J89 at h
  refine kw_aload_n dX12_fairest_89 rfl ?_
  obtain ⟨r9, er9, h⟩ := Option.bind_eq_some_iff.mp h
  obtain ⟨ur9, eur9, er9⟩ := Option.bind_eq_some_iff.mp er9
  obtain ⟨fsr9, hor9⟩ := kp_ob_inv eur9
  refine kw_callV (As := []) (S := []) kcX12 cbX12_fairest_X12_differenceTried lkX12_207 imX12_differenceTried seX12_X12_differenceTried_X12_differenceTried rfl rfl (Nat.le_of_ble_eq_true rfl) dX12_fairest_90 hor9 (X12_differenceTried_c G hp x0 _ er9) (fun vv hh hq => ?_)
  rw [hq.1, hq.2]
  show kw_V G mX12_fairest 93 [some (.ref x0), some (.int x1), some (.int x2), some (.int x3), some (.int x4), some (.int x5), none] [.int r9] hp Q
  refine kw_istore (L' := [some (.ref x0), some (.int x1), some (.int x2), some (.int x3), some (.int x4), some (.int x5), some (.int r9)]) dX12_fairest_93 (by decide) rfl ?_
  refine kw_iload dX12_fairest_95 rfl ?_
  refine kw_iload dX12_fairest_97 rfl ?_
  refine kw_icmp_ge 107 dX12_fairest_99 (by decide) (fun c11 => ?_) (fun c11 => ?_)
  · have h := (if_pos c11).symm.trans h
    refine kw_iload_n dX12_fairest_107 rfl ?_
    refine kw_mask [true, true, true, false, true, true, true] (L' := [some (.ref x0), some (.int x1), some (.int x2), none, some (.int x4), some (.int x5), some (.int r9)]) rfl ?_
    exact X12_fairest_J108_t G Q hp x0 x1 x2 x4 x5 r9 x3 _ h hK
  · have h := (if_neg c11).symm.trans h
    refine kw_iload dX12_fairest_102 rfl ?_
    refine kw_goto 108 dX12_fairest_104 (by decide) ?_
    refine kw_mask [true, true, true, false, true, true, true] (L' := [some (.ref x0), some (.int x1), some (.int x2), none, some (.int x4), some (.int x5), some (.int r9)]) rfl ?_
    exact X12_fairest_J108_t G Q hp x0 x1 x2 x4 x5 r9 x5 _ h hK
def X12_fairest_b68 (x0 : Nat) (x1 : Int32) (x2 : Int32) (x3 : Int32) (x4 : Int32) (x5 : Int32) (x6 : Int32) (hp : kw_H) : Option (((Int32 × kw_H) ⊕ (((Int32 × Int32 × Int32 × kw_H) ⊕ (Int32 × kw_H))))) :=
  (if x1 ≤ x6 then
  (X12_fairest_J89 hp x0 x1 x2 x3 x4 x5).map (fun r => .inr (r))
else
  ((kp_ob hp x0 11).bind fun _ => X12_pass_F hp x0 (nI 1782) x5).bind fun r13 =>
  some (.inl (x6 + (nI 1), r13)))
set_option maxRecDepth 100000 in
set_option maxHeartbeats 4000000 in
theorem X12_fairest_b68_t (G : kw_G) (Q : Option Value → kw_H → Prop) (x0 : Nat) (x1 : Int32) (x2 : Int32) (x3 : Int32) (x4 : Int32) (x5 : Int32) (x6 : Int32) (hp : kw_H) (r : ((Int32 × kw_H) ⊕ (((Int32 × Int32 × Int32 × kw_H) ⊕ (Int32 × kw_H))))) (h : X12_fairest_b68 x0 x1 x2 x3 x4 x5 x6 hp = some r) (hK : X12_fairest_K68 G Q x0 x1 x2 x3 x4 x5 r) : kw_V G mX12_fairest 68 [some (.ref x0), some (.int x1), some (.int x2), some (.int x3), some (.int x4), some (.int x5), some (.int x6)] [] hp Q := by
  unfold X12_fairest_b68 at h
  refine kw_iload dX12_fairest_68 rfl ?_
  refine kw_iload_n dX12_fairest_70 rfl ?_
  refine kw_icmp_ge 89 dX12_fairest_71 (by decide) (fun c14 => ?_) (fun c14 => ?_)
  · have h := (if_pos c14).symm.trans h
    refine kw_mask [true, true, true, true, true, true, false] (L' := [some (.ref x0), some (.int x1), some (.int x2), some (.int x3), some (.int x4), some (.int x5), none]) rfl ?_
    obtain ⟨r12, hr12, hrr12⟩ := Option.map_eq_some_iff.mp h
    subst hrr12
    exact X12_fairest_J89_t G Q hp x0 x1 x2 x3 x4 x5 r12 hr12 hK
  · have h := (if_neg c14).symm.trans h
    refine kw_aload_n dX12_fairest_74 rfl ?_
    refine kw_sipush (v := nI 1782) dX12_fairest_75 (by decide) ?_
    refine kw_iload dX12_fairest_78 rfl ?_
    obtain ⟨r13, er13, h⟩ := Option.bind_eq_some_iff.mp h
    obtain ⟨ur13, eur13, er13⟩ := Option.bind_eq_some_iff.mp er13
    obtain ⟨fsr13, hor13⟩ := kp_ob_inv eur13
    refine kw_callV (As := [.int (nI 1782), .int x5]) (S := []) kcX12 cbX12_fairest_X12_pass lkX12_164 imX12_pass seX12_X12_pass_X12_pass rfl rfl (Nat.le_of_ble_eq_true rfl) dX12_fairest_80 hor13 (X12_pass_c G hp x0 (nI 1782) x5 _ er13) (fun vv hh hq => ?_)
    rw [hq.1, hq.2]
    show kw_V G mX12_fairest 83 [some (.ref x0), some (.int x1), some (.int x2), some (.int x3), some (.int x4), some (.int x5), some (.int x6)] [] r13 Q
    refine kv_iinc (w := nI 1) (L' := [some (.ref x0), some (.int x1), some (.int x2), some (.int x3), some (.int x4), some (.int x5), some (.int (x6 + (nI 1)))]) dX12_fairest_83 (by decide) rfl (by decide) rfl ?_
    refine kw_goto 68 dX12_fairest_86 (by decide) ?_
    have h := Option.some.inj h
    subst h
    exact hK
def X12_fairest_B68 (x0 : Nat) (x1 : Int32) (x2 : Int32) (x3 : Int32) (x4 : Int32) (x5 : Int32) (z : Int32 × kw_H) : Option (((Int32 × kw_H) ⊕ (((Int32 × Int32 × Int32 × kw_H) ⊕ (Int32 × kw_H))))) := X12_fairest_b68 x0 x1 x2 x3 x4 x5 z.1 z.2
theorem X12_fairest_L68_t (G : kw_G) (Q : Option Value → kw_H → Prop) (x0 : Nat) (x1 : Int32) (x2 : Int32) (x3 : Int32) (x4 : Int32) (x5 : Int32) (n : Nat) (z : Int32 × kw_H) (r : ((Int32 × Int32 × Int32 × kw_H) ⊕ (Int32 × kw_H))) (h : kp_lp (X12_fairest_B68 x0 x1 x2 x3 x4 x5) n z = some r) (hK : X12_fairest_K44 G Q x0 x1 x2 r) : kw_V G mX12_fairest 68 [some (.ref x0), some (.int x1), some (.int x2), some (.int x3), some (.int x4), some (.int x5), some (.int z.1)] [] z.2 Q :=
  kv_lp _ (fun z => kw_V G mX12_fairest 68 [some (.ref x0), some (.int x1), some (.int x2), some (.int x3), some (.int x4), some (.int x5), some (.int z.1)] [] z.2 Q) (fun r => X12_fairest_K44 G Q x0 x1 x2 r) (fun z x hb hx => X12_fairest_b68_t G Q x0 x1 x2 x3 x4 x5 z.1 z.2 x hb (by cases x <;> exact hx)) n z r h hK
def X12_fairest_b44 (x0 : Nat) (x1 : Int32) (x2 : Int32) (x3 : Int32) (x4 : Int32) (x5 : Int32) (hp : kw_H) : Option (((Int32 × Int32 × Int32 × kw_H) ⊕ (Int32 × kw_H))) :=
  (if (nI 9) ≤ x5 then
  (X12_fairest_J131 hp x2 x3 x4).map (fun r => .inr (r))
else
  ((kp_ob hp x0 11).bind fun _ => X12_layTried_F hp x0 (nI 0)).bind fun r6 =>
  (kp_gR r6 x0 [11] 0).bind fun v7 =>
  (kp_stI r6 v7 (nI 1787) (nI 0)).bind fun hp8 =>
  kp_lp (X12_fairest_B68 x0 x1 x2 x3 x4 x5) 2000 (nI 0, hp8))
set_option maxRecDepth 100000 in
set_option maxHeartbeats 4000000 in
theorem X12_fairest_b44_t (G : kw_G) (Q : Option Value → kw_H → Prop) (x0 : Nat) (x1 : Int32) (x2 : Int32) (x3 : Int32) (x4 : Int32) (x5 : Int32) (hp : kw_H) (r : ((Int32 × Int32 × Int32 × kw_H) ⊕ (Int32 × kw_H))) (h : X12_fairest_b44 x0 x1 x2 x3 x4 x5 hp = some r) (hK : X12_fairest_K44 G Q x0 x1 x2 r) : kw_V G mX12_fairest 44 [some (.ref x0), some (.int x1), some (.int x2), some (.int x3), some (.int x4), some (.int x5), none] [] hp Q := by
  unfold X12_fairest_b44 at h
  refine kw_iload dX12_fairest_44 rfl ?_
  refine kw_bipush (v := nI 9) dX12_fairest_46 (by decide) ?_
  refine kw_icmp_ge 131 dX12_fairest_48 (by decide) (fun c15 => ?_) (fun c15 => ?_)
  · have h := (if_pos c15).symm.trans h
    refine kw_mask [false, false, true, true, true, false, true] (L' := [none, none, some (.int x2), some (.int x3), some (.int x4), none, none]) rfl ?_
    obtain ⟨r5, hr5, hrr5⟩ := Option.map_eq_some_iff.mp h
    subst hrr5
    exact X12_fairest_J131_t G Q hp x2 x3 x4 r5 hr5 hK
  · have h := (if_neg c15).symm.trans h
    refine kw_aload_n dX12_fairest_51 rfl ?_
    refine kw_iconst (v := nI 0) dX12_fairest_52 (by decide) ?_
    obtain ⟨r6, er6, h⟩ := Option.bind_eq_some_iff.mp h
    obtain ⟨ur6, eur6, er6⟩ := Option.bind_eq_some_iff.mp er6
    obtain ⟨fsr6, hor6⟩ := kp_ob_inv eur6
    refine kw_callV (As := [.int (nI 0)]) (S := []) kcX12 cbX12_fairest_X12_layTried lkX12_188 imX12_layTried seX12_X12_layTried_X12_layTried rfl rfl (Nat.le_of_ble_eq_true rfl) dX12_fairest_53 hor6 (X12_layTried_c G hp x0 (nI 0) _ er6) (fun vv hh hq => ?_)
    rw [hq.1, hq.2]
    show kw_V G mX12_fairest 56 [some (.ref x0), some (.int x1), some (.int x2), some (.int x3), some (.int x4), some (.int x5), none] [] r6 Q
    refine kw_aload_n dX12_fairest_56 rfl ?_
    obtain ⟨v7, ev7, h⟩ := Option.bind_eq_some_iff.mp h
    refine kv_gR gfX12_7 dX12_fairest_57 ev7 ?_
    refine kw_sipush (v := nI 1787) dX12_fairest_60 (by decide) ?_
    refine kw_iconst (v := nI 0) dX12_fairest_63 (by decide) ?_
    obtain ⟨hp8, ehp8, h⟩ := Option.bind_eq_some_iff.mp h
    refine kv_stI dX12_fairest_64 ehp8 ?_
    refine kw_iconst (v := nI 0) dX12_fairest_65 (by decide) ?_
    refine kw_istore (L' := [some (.ref x0), some (.int x1), some (.int x2), some (.int x3), some (.int x4), some (.int x5), some (.int (nI 0))]) dX12_fairest_66 (by decide) rfl ?_
    exact X12_fairest_L68_t G Q x0 x1 x2 x3 x4 x5 _ (nI 0, hp8) _ h hK
def X12_fairest_B44 (x0 : Nat) (x1 : Int32) (x2 : Int32) (z : Int32 × Int32 × Int32 × kw_H) : Option (((Int32 × Int32 × Int32 × kw_H) ⊕ (Int32 × kw_H))) := X12_fairest_b44 x0 x1 x2 z.1 z.2.1 z.2.2.1 z.2.2.2
theorem X12_fairest_L44_t (G : kw_G) (Q : Option Value → kw_H → Prop) (x0 : Nat) (x1 : Int32) (x2 : Int32) (n : Nat) (z : Int32 × Int32 × Int32 × kw_H) (r : Int32 × kw_H) (h : kp_lp (X12_fairest_B44 x0 x1 x2) n z = some r) (hK : Q (some (.int r.1)) r.2) : kw_V G mX12_fairest 44 [some (.ref x0), some (.int x1), some (.int x2), some (.int z.1), some (.int z.2.1), some (.int z.2.2.1), none] [] z.2.2.2 Q :=
  kv_lp _ (fun z => kw_V G mX12_fairest 44 [some (.ref x0), some (.int x1), some (.int x2), some (.int z.1), some (.int z.2.1), some (.int z.2.2.1), none] [] z.2.2.2 Q) (fun r => Q (some (.int r.1)) r.2) (fun z x hb hx => X12_fairest_b44_t G Q x0 x1 x2 z.1 z.2.1 z.2.2.1 z.2.2.2 x hb (by cases x <;> exact hx)) n z r h hK
def X12_fairest_F (hp : kw_H) (x0 : Nat) (x1 : Int32) (x2 : Int32) : Option (Int32 × kw_H) :=
  (kp_gI hp x0 [11] 1).bind fun v1 =>
  (if v1 = 0 then
  some (((-1000002), hp))
else
  (X12_in_F hp (Int32.toInt64 x1) (lN 1) (lN 60)).bind fun r2 =>
  (if r2 = 0 then
  some (((-1000001), hp))
else
  (X12_in_F hp (Int32.toInt64 x2) (lN 0) (lN 1)).bind fun r3 =>
  (if r3 = 0 then
  some (((-1000001), hp))
else
  kp_lp (X12_fairest_B44 x0 x1 x2) 2000 (nI 0, nI 1000000, nI 1, hp))))
set_option maxRecDepth 100000 in
set_option maxHeartbeats 4000000 in
theorem X12_fairest_c (G : kw_G) (hp : kw_H) (x0 : Nat) (x1 : Int32) (x2 : Int32) (r : Int32 × kw_H) (h : X12_fairest_F hp x0 x1 x2 = some r) : kw_Met G mX12_fairest [.ref x0, .int x1, .int x2] hp (fun v h2 => v = some (.int r.1) ∧ h2 = r.2) := by
  refine kw_met (L := [some (.ref x0), some (.int x1), some (.int x2), none, none, none, none]) (r := 4) (by decide +kernel) (Nat.le_of_ble_eq_true rfl) rfl ?_
  unfold X12_fairest_F at h
  obtain ⟨Q, hQ⟩ : ∃ Q : Option Value → kw_H → Prop, Q = (fun v h2 => v = some (.int r.1) ∧ h2 = r.2) := ⟨_, rfl⟩
  have hK : Q (some (.int r.1)) r.2 := by rw [hQ]; exact ⟨rfl, rfl⟩
  rw [← hQ]
  clear hQ
  refine kw_aload_n dX12_fairest_0 rfl ?_
  obtain ⟨v1, ev1, h⟩ := Option.bind_eq_some_iff.mp h
  refine kv_gI gfX12_132 dX12_fairest_1 ev1 ?_
  refine kw_if_ne 10 dX12_fairest_4 (by decide) (fun c18 => ?_) (fun c18 => ?_)
  · have h := (if_neg c18).symm.trans h
    refine kw_iload_n dX12_fairest_10 rfl ?_
    refine kw_i2l dX12_fairest_11 ?_
    refine kw_lconst (v := lN 1) dX12_fairest_12 (by decide) ?_
    refine kw_ldc2_w (v := lN 60) dX12_fairest_13 ckX12_186 ?_
    obtain ⟨r2, er2, h⟩ := Option.bind_eq_some_iff.mp h
    refine kw_callS (As := [.long (Int32.toInt64 x1), .long (lN 1), .long (lN 60)]) (S := []) cbX12_fairest_X12_in lkX12_42 stX12_in rfl rfl (Nat.le_of_ble_eq_true rfl) dX12_fairest_16 (X12_in_c G hp (Int32.toInt64 x1) (lN 1) (lN 60) _ er2) (fun vv hh hq => ?_)
    rw [hq.1, hq.2]
    show kw_V G mX12_fairest 19 [some (.ref x0), some (.int x1), some (.int x2), none, none, none, none] [.int r2] hp Q
    refine kw_if_eq 32 dX12_fairest_19 (by decide) (fun c17 => ?_) (fun c17 => ?_)
    · have h := (if_pos c17).symm.trans h
      refine kw_ldc (v := (-1000001)) dX12_fairest_32 ckX12_52 ?_
      have h := Option.some.inj h
      subst h
      exact kw_iret rfl dX12_fairest_34 hK
    · have h := (if_neg c17).symm.trans h
      refine kw_iload_n dX12_fairest_22 rfl ?_
      refine kw_i2l dX12_fairest_23 ?_
      refine kw_lconst (v := lN 0) dX12_fairest_24 (by decide) ?_
      refine kw_lconst (v := lN 1) dX12_fairest_25 (by decide) ?_
      obtain ⟨r3, er3, h⟩ := Option.bind_eq_some_iff.mp h
      refine kw_callS (As := [.long (Int32.toInt64 x2), .long (lN 0), .long (lN 1)]) (S := []) cbX12_fairest_X12_in lkX12_42 stX12_in rfl rfl (Nat.le_of_ble_eq_true rfl) dX12_fairest_26 (X12_in_c G hp (Int32.toInt64 x2) (lN 0) (lN 1) _ er3) (fun vv hh hq => ?_)
      rw [hq.1, hq.2]
      show kw_V G mX12_fairest 29 [some (.ref x0), some (.int x1), some (.int x2), none, none, none, none] [.int r3] hp Q
      refine kw_if_ne 35 dX12_fairest_29 (by decide) (fun c16 => ?_) (fun c16 => ?_)
      · have h := (if_neg c16).symm.trans h
        refine kw_iconst (v := nI 0) dX12_fairest_35 (by decide) ?_
        refine kw_istore_n (L' := [some (.ref x0), some (.int x1), some (.int x2), some (.int (nI 0)), none, none, none]) dX12_fairest_36 (by decide) rfl ?_
        refine kw_ldc (v := nI 1000000) dX12_fairest_37 ckX12_203 ?_
        refine kw_istore (L' := [some (.ref x0), some (.int x1), some (.int x2), some (.int (nI 0)), some (.int (nI 1000000)), none, none]) dX12_fairest_39 (by decide) rfl ?_
        refine kw_iconst (v := nI 1) dX12_fairest_41 (by decide) ?_
        refine kw_istore (L' := [some (.ref x0), some (.int x1), some (.int x2), some (.int (nI 0)), some (.int (nI 1000000)), some (.int (nI 1)), none]) dX12_fairest_42 (by decide) rfl ?_
        exact X12_fairest_L44_t G Q x0 x1 x2 _ (nI 0, nI 1000000, nI 1, hp) _ h hK
      · have h := (if_pos c16).symm.trans h
        refine kw_ldc (v := (-1000001)) dX12_fairest_32 ckX12_52 ?_
        have h := Option.some.inj h
        subst h
        exact kw_iret rfl dX12_fairest_34 hK
  · have h := (if_pos c18).symm.trans h
    refine kw_ldc (v := (-1000002)) dX12_fairest_7 ckX12_139 ?_
    have h := Option.some.inj h
    subst h
    exact kw_iret rfl dX12_fairest_9 hK
/-! KitchenWheelsModel.owed(I)I -/
def X12_owed_K24 (G : kw_G) (Q : Option Value → kw_H → Prop) (hp : kw_H) (x0 : Nat) (x1 : Int32) (r : (Int32 × Int32) ⊕ (Int32)) : Prop := match r with
  | .inl z => kw_V G mX12_owed 24 [some (.ref x0), some (.int x1), some (.int z.1), some (.int z.2)] [] hp Q
  | .inr r => Q (some (.int r)) hp
def X12_owed_J57 (hp : kw_H) (x0 : Nat) (x1 : Int32) (x2 : Int32) : Option (Int32) :=
  ((kp_ob hp x0 11).bind fun _ => X12_doneBy_F hp x0 (nI 0) x1).bind fun r3 =>
  some (x2 - r3)
set_option maxRecDepth 100000 in
set_option maxHeartbeats 4000000 in
theorem X12_owed_J57_t (G : kw_G) (Q : Option Value → kw_H → Prop) (hp : kw_H) (x0 : Nat) (x1 : Int32) (x2 : Int32) (r : Int32) (h : X12_owed_J57 hp x0 x1 x2 = some r) (hK : Q (some (.int r)) hp) : kw_V G mX12_owed 57 [some (.ref x0), some (.int x1), some (.int x2), none] [] hp Q := by
  unfold X12_owed_J57 at h
  refine kw_iload_n dX12_owed_57 rfl ?_
  refine kw_aload_n dX12_owed_58 rfl ?_
  refine kw_iconst (v := nI 0) dX12_owed_59 (by decide) ?_
  refine kw_iload_n dX12_owed_60 rfl ?_
  obtain ⟨r3, er3, h⟩ := Option.bind_eq_some_iff.mp h
  obtain ⟨ur3, eur3, er3⟩ := Option.bind_eq_some_iff.mp er3
  obtain ⟨fsr3, hor3⟩ := kp_ob_inv eur3
  refine kw_callV (As := [.int (nI 0), .int x1]) (S := [.int x2]) kcX12 cbX12_owed_X12_doneBy lkX12_204 imX12_doneBy seX12_X12_doneBy_X12_doneBy rfl rfl (Nat.le_of_ble_eq_true rfl) dX12_owed_61 hor3 (X12_doneBy_c G hp x0 (nI 0) x1 _ er3) (fun vv hh hq => ?_)
  rw [hq.1, hq.2]
  show kw_V G mX12_owed 64 [some (.ref x0), some (.int x1), some (.int x2), none] [.int r3, .int x2] hp Q
  refine kw_isub dX12_owed_64 ?_
  have h := Option.some.inj h
  subst h
  exact kw_iret rfl dX12_owed_65 hK
def X12_owed_J50 (hp : kw_H) (x0 : Nat) (x1 : Int32) (x3 : Int32) (s0 : Int32) : Option (((Int32 × Int32) ⊕ (Int32))) :=
  some (.inl (s0, x3 + (nI 1)))
set_option maxRecDepth 100000 in
set_option maxHeartbeats 4000000 in
theorem X12_owed_J50_t (G : kw_G) (Q : Option Value → kw_H → Prop) (hp : kw_H) (x0 : Nat) (x1 : Int32) (x3 : Int32) (s0 : Int32) (r : ((Int32 × Int32) ⊕ (Int32))) (h : X12_owed_J50 hp x0 x1 x3 s0 = some r) (hK : X12_owed_K24 G Q hp x0 x1 r) : kw_V G mX12_owed 50 [some (.ref x0), some (.int x1), none, some (.int x3)] [.int s0] hp Q := by
  unfold X12_owed_J50 at h
  refine kw_istore_n (L' := [some (.ref x0), some (.int x1), some (.int s0), some (.int x3)]) dX12_owed_50 (by decide) rfl ?_
  refine kv_iinc (w := nI 1) (L' := [some (.ref x0), some (.int x1), some (.int s0), some (.int (x3 + (nI 1)))]) dX12_owed_51 (by decide) rfl (by decide) rfl ?_
  refine kw_goto 24 dX12_owed_54 (by decide) ?_
  have h := Option.some.inj h
  subst h
  exact hK
def X12_owed_b24 (hp : kw_H) (x0 : Nat) (x1 : Int32) (x2 : Int32) (x3 : Int32) : Option (((Int32 × Int32) ⊕ (Int32))) :=
  (if (nI 6) ≤ x3 then
  (X12_owed_J57 hp x0 x1 x2).map (fun r => .inr (r))
else
  ((kp_ob hp x0 11).bind fun _ => X12_doneBy_F hp x0 (nI 0) x3).bind fun r5 =>
  (if r5 ≤ x2 then
  X12_owed_J50 hp x0 x1 x3 x2
else
  ((kp_ob hp x0 11).bind fun _ => X12_doneBy_F hp x0 (nI 0) x3).bind fun r6 =>
  X12_owed_J50 hp x0 x1 x3 r6))
set_option maxRecDepth 100000 in
set_option maxHeartbeats 4000000 in
theorem X12_owed_b24_t (G : kw_G) (Q : Option Value → kw_H → Prop) (hp : kw_H) (x0 : Nat) (x1 : Int32) (x2 : Int32) (x3 : Int32) (r : ((Int32 × Int32) ⊕ (Int32))) (h : X12_owed_b24 hp x0 x1 x2 x3 = some r) (hK : X12_owed_K24 G Q hp x0 x1 r) : kw_V G mX12_owed 24 [some (.ref x0), some (.int x1), some (.int x2), some (.int x3)] [] hp Q := by
  unfold X12_owed_b24 at h
  refine kw_iload_n dX12_owed_24 rfl ?_
  refine kw_bipush (v := nI 6) dX12_owed_25 (by decide) ?_
  refine kw_icmp_ge 57 dX12_owed_27 (by decide) (fun c8 => ?_) (fun c8 => ?_)
  · have h := (if_pos c8).symm.trans h
    refine kw_mask [true, true, true, false] (L' := [some (.ref x0), some (.int x1), some (.int x2), none]) rfl ?_
    obtain ⟨r4, hr4, hrr4⟩ := Option.map_eq_some_iff.mp h
    subst hrr4
    exact X12_owed_J57_t G Q hp x0 x1 x2 r4 hr4 hK
  · have h := (if_neg c8).symm.trans h
    refine kw_aload_n dX12_owed_30 rfl ?_
    refine kw_iconst (v := nI 0) dX12_owed_31 (by decide) ?_
    refine kw_iload_n dX12_owed_32 rfl ?_
    obtain ⟨r5, er5, h⟩ := Option.bind_eq_some_iff.mp h
    obtain ⟨ur5, eur5, er5⟩ := Option.bind_eq_some_iff.mp er5
    obtain ⟨fsr5, hor5⟩ := kp_ob_inv eur5
    refine kw_callV (As := [.int (nI 0), .int x3]) (S := []) kcX12 cbX12_owed_X12_doneBy lkX12_204 imX12_doneBy seX12_X12_doneBy_X12_doneBy rfl rfl (Nat.le_of_ble_eq_true rfl) dX12_owed_33 hor5 (X12_doneBy_c G hp x0 (nI 0) x3 _ er5) (fun vv hh hq => ?_)
    rw [hq.1, hq.2]
    show kw_V G mX12_owed 36 [some (.ref x0), some (.int x1), some (.int x2), some (.int x3)] [.int r5] hp Q
    refine kw_iload_n dX12_owed_36 rfl ?_
    refine kw_icmp_le 49 dX12_owed_37 (by decide) (fun c7 => ?_) (fun c7 => ?_)
    · have h := (if_pos c7).symm.trans h
      refine kw_iload_n dX12_owed_49 rfl ?_
      refine kw_mask [true, true, false, true] (L' := [some (.ref x0), some (.int x1), none, some (.int x3)]) rfl ?_
      exact X12_owed_J50_t G Q hp x0 x1 x3 x2 _ h hK
    · have h := (if_neg c7).symm.trans h
      refine kw_aload_n dX12_owed_40 rfl ?_
      refine kw_iconst (v := nI 0) dX12_owed_41 (by decide) ?_
      refine kw_iload_n dX12_owed_42 rfl ?_
      obtain ⟨r6, er6, h⟩ := Option.bind_eq_some_iff.mp h
      obtain ⟨ur6, eur6, er6⟩ := Option.bind_eq_some_iff.mp er6
      obtain ⟨fsr6, hor6⟩ := kp_ob_inv eur6
      refine kw_callV (As := [.int (nI 0), .int x3]) (S := []) kcX12 cbX12_owed_X12_doneBy lkX12_204 imX12_doneBy seX12_X12_doneBy_X12_doneBy rfl rfl (Nat.le_of_ble_eq_true rfl) dX12_owed_43 hor6 (X12_doneBy_c G hp x0 (nI 0) x3 _ er6) (fun vv hh hq => ?_)
      rw [hq.1, hq.2]
      show kw_V G mX12_owed 46 [some (.ref x0), some (.int x1), some (.int x2), some (.int x3)] [.int r6] hp Q
      refine kw_goto 50 dX12_owed_46 (by decide) ?_
      refine kw_mask [true, true, false, true] (L' := [some (.ref x0), some (.int x1), none, some (.int x3)]) rfl ?_
      exact X12_owed_J50_t G Q hp x0 x1 x3 r6 _ h hK
def X12_owed_B24 (hp : kw_H) (x0 : Nat) (x1 : Int32) (z : Int32 × Int32) : Option (((Int32 × Int32) ⊕ (Int32))) := X12_owed_b24 hp x0 x1 z.1 z.2
theorem X12_owed_L24_t (G : kw_G) (Q : Option Value → kw_H → Prop) (hp : kw_H) (x0 : Nat) (x1 : Int32) (n : Nat) (z : Int32 × Int32) (r : Int32) (h : kp_lp (X12_owed_B24 hp x0 x1) n z = some r) (hK : Q (some (.int r)) hp) : kw_V G mX12_owed 24 [some (.ref x0), some (.int x1), some (.int z.1), some (.int z.2)] [] hp Q :=
  kv_lp _ (fun z => kw_V G mX12_owed 24 [some (.ref x0), some (.int x1), some (.int z.1), some (.int z.2)] [] hp Q) (fun r => Q (some (.int r)) hp) (fun z x hb hx => X12_owed_b24_t G Q hp x0 x1 z.1 z.2 x hb (by cases x <;> exact hx)) n z r h hK
def X12_owed_F (hp : kw_H) (x0 : Nat) (x1 : Int32) : Option (Int32) :=
  (kp_gI hp x0 [11] 1).bind fun v1 =>
  (if v1 = 0 then
  some ((-1000002))
else
  (X12_isSix_F hp x1).bind fun r2 =>
  (if r2 = 0 then
  some ((-1000001))
else
  kp_lp (X12_owed_B24 hp x0 x1) 2000 (nI 0, nI 0)))
set_option maxRecDepth 100000 in
set_option maxHeartbeats 4000000 in
theorem X12_owed_c (G : kw_G) (hp : kw_H) (x0 : Nat) (x1 : Int32) (r : Int32) (h : X12_owed_F hp x0 x1 = some r) : kw_Met G mX12_owed [.ref x0, .int x1] hp (fun v h2 => v = some (.int r) ∧ h2 = hp) := by
  refine kw_met (L := [some (.ref x0), some (.int x1), none, none]) (r := 2) (by decide +kernel) (Nat.le_of_ble_eq_true rfl) rfl ?_
  unfold X12_owed_F at h
  obtain ⟨Q, hQ⟩ : ∃ Q : Option Value → kw_H → Prop, Q = (fun v h2 => v = some (.int r) ∧ h2 = hp) := ⟨_, rfl⟩
  have hK : Q (some (.int r)) hp := by rw [hQ]; exact ⟨rfl, rfl⟩
  rw [← hQ]
  clear hQ
  refine kw_aload_n dX12_owed_0 rfl ?_
  obtain ⟨v1, ev1, h⟩ := Option.bind_eq_some_iff.mp h
  refine kv_gI gfX12_132 dX12_owed_1 ev1 ?_
  refine kw_if_ne 10 dX12_owed_4 (by decide) (fun c10 => ?_) (fun c10 => ?_)
  · have h := (if_neg c10).symm.trans h
    refine kw_iload_n dX12_owed_10 rfl ?_
    obtain ⟨r2, er2, h⟩ := Option.bind_eq_some_iff.mp h
    refine kw_callS (As := [.int x1]) (S := []) cbX12_owed_X12_isSix lkX12_176 stX12_isSix rfl rfl (Nat.le_of_ble_eq_true rfl) dX12_owed_11 (X12_isSix_c G hp x1 _ er2) (fun vv hh hq => ?_)
    rw [hq.1, hq.2]
    show kw_V G mX12_owed 14 [some (.ref x0), some (.int x1), none, none] [.int r2] hp Q
    refine kw_if_ne 20 dX12_owed_14 (by decide) (fun c9 => ?_) (fun c9 => ?_)
    · have h := (if_neg c9).symm.trans h
      refine kw_iconst (v := nI 0) dX12_owed_20 (by decide) ?_
      refine kw_istore_n (L' := [some (.ref x0), some (.int x1), some (.int (nI 0)), none]) dX12_owed_21 (by decide) rfl ?_
      refine kw_iconst (v := nI 0) dX12_owed_22 (by decide) ?_
      refine kw_istore_n (L' := [some (.ref x0), some (.int x1), some (.int (nI 0)), some (.int (nI 0))]) dX12_owed_23 (by decide) rfl ?_
      exact X12_owed_L24_t G Q hp x0 x1 _ (nI 0, nI 0) _ h hK
    · have h := (if_pos c9).symm.trans h
      refine kw_ldc (v := (-1000001)) dX12_owed_17 ckX12_52 ?_
      have h := Option.some.inj h
      subst h
      exact kw_iret rfl dX12_owed_19 hK
  · have h := (if_pos c10).symm.trans h
    refine kw_ldc (v := (-1000002)) dX12_owed_7 ckX12_139 ?_
    have h := Option.some.inj h
    subst h
    exact kw_iret rfl dX12_owed_9 hK
/-! KitchenWheelsModel.isRight(IIIII)Z -/
def X12_isRight_K53 (G : kw_G) (Q : Option Value → kw_H → Prop) (x0 : Nat) (x1 : Int32) (x2 : Int32) (x3 : Int32) (r : (Int32 × kw_H) ⊕ (Int32 × kw_H)) : Prop := match r with
  | .inl z => kw_V G mX12_isRight 53 [some (.ref x0), some (.int x1), some (.int x2), some (.int x3), none, none, some (.int z.1)] [] z.2 Q
  | .inr r => Q (some (.int r.1)) r.2
def X12_isRight_J72 (hp : kw_H) (x0 : Nat) (x1 : Int32) (x2 : Int32) : Option (Int32 × kw_H) :=
  ((kp_ob hp x0 11).bind fun _ => X12_doesTried_F hp x0 x1 x2).bind fun r10 =>
  (kp_bool r10).bind fun v11 =>
  some ((v11, hp))
set_option maxRecDepth 100000 in
set_option maxHeartbeats 4000000 in
theorem X12_isRight_J72_t (G : kw_G) (Q : Option Value → kw_H → Prop) (hp : kw_H) (x0 : Nat) (x1 : Int32) (x2 : Int32) (r : Int32 × kw_H) (h : X12_isRight_J72 hp x0 x1 x2 = some r) (hK : Q (some (.int r.1)) r.2) : kw_V G mX12_isRight 72 [some (.ref x0), some (.int x1), some (.int x2), none, none, none, none] [] hp Q := by
  unfold X12_isRight_J72 at h
  refine kw_aload_n dX12_isRight_72 rfl ?_
  refine kw_iload_n dX12_isRight_73 rfl ?_
  refine kw_iload_n dX12_isRight_74 rfl ?_
  obtain ⟨r10, er10, h⟩ := Option.bind_eq_some_iff.mp h
  obtain ⟨ur10, eur10, er10⟩ := Option.bind_eq_some_iff.mp er10
  obtain ⟨fsr10, hor10⟩ := kp_ob_inv eur10
  refine kw_callV (As := [.int x1, .int x2]) (S := []) kcX12 cbX12_isRight_X12_doesTried lkX12_191 imX12_doesTried seX12_X12_doesTried_X12_doesTried rfl rfl (Nat.le_of_ble_eq_true rfl) dX12_isRight_75 hor10 (X12_doesTried_c G hp x0 x1 x2 _ er10) (fun vv hh hq => ?_)
  rw [hq.1, hq.2]
  show kw_V G mX12_isRight 78 [some (.ref x0), some (.int x1), some (.int x2), none, none, none, none] [.int r10] hp Q
  obtain ⟨v11, ev11, h⟩ := Option.bind_eq_some_iff.mp h
  obtain ⟨qv11, bv11⟩ := kv_bool ev11
  have h := Option.some.inj h
  subst h
  rw [qv11]
  exact kw_zret rfl bv11 dX12_isRight_78 hK
def X12_isRight_b53 (x0 : Nat) (x1 : Int32) (x2 : Int32) (x3 : Int32) (x6 : Int32) (hp : kw_H) : Option (((Int32 × kw_H) ⊕ (Int32 × kw_H))) :=
  (if x3 ≤ x6 then
  (X12_isRight_J72 hp x0 x1 x2).map (fun r => .inr (r))
else
  ((kp_ob hp x0 11).bind fun _ => X12_passAsTold_F hp x0 (nI 1782)).bind fun r13 =>
  some (.inl (x6 + (nI 1), r13)))
set_option maxRecDepth 100000 in
set_option maxHeartbeats 4000000 in
theorem X12_isRight_b53_t (G : kw_G) (Q : Option Value → kw_H → Prop) (x0 : Nat) (x1 : Int32) (x2 : Int32) (x3 : Int32) (x6 : Int32) (hp : kw_H) (r : ((Int32 × kw_H) ⊕ (Int32 × kw_H))) (h : X12_isRight_b53 x0 x1 x2 x3 x6 hp = some r) (hK : X12_isRight_K53 G Q x0 x1 x2 x3 r) : kw_V G mX12_isRight 53 [some (.ref x0), some (.int x1), some (.int x2), some (.int x3), none, none, some (.int x6)] [] hp Q := by
  unfold X12_isRight_b53 at h
  refine kw_iload dX12_isRight_53 rfl ?_
  refine kw_iload_n dX12_isRight_55 rfl ?_
  refine kw_icmp_ge 72 dX12_isRight_56 (by decide) (fun c14 => ?_) (fun c14 => ?_)
  · have h := (if_pos c14).symm.trans h
    refine kw_mask [true, true, true, false, true, true, false] (L' := [some (.ref x0), some (.int x1), some (.int x2), none, none, none, none]) rfl ?_
    obtain ⟨r12, hr12, hrr12⟩ := Option.map_eq_some_iff.mp h
    subst hrr12
    exact X12_isRight_J72_t G Q hp x0 x1 x2 r12 hr12 hK
  · have h := (if_neg c14).symm.trans h
    refine kw_aload_n dX12_isRight_59 rfl ?_
    refine kw_sipush (v := nI 1782) dX12_isRight_60 (by decide) ?_
    obtain ⟨r13, er13, h⟩ := Option.bind_eq_some_iff.mp h
    obtain ⟨ur13, eur13, er13⟩ := Option.bind_eq_some_iff.mp er13
    obtain ⟨fsr13, hor13⟩ := kp_ob_inv eur13
    refine kw_callV (As := [.int (nI 1782)]) (S := []) kcX12 cbX12_isRight_X12_passAsTold lkX12_167 imX12_passAsTold seX12_X12_passAsTold_X12_passAsTold rfl rfl (Nat.le_of_ble_eq_true rfl) dX12_isRight_63 hor13 (X12_passAsTold_c G hp x0 (nI 1782) _ er13) (fun vv hh hq => ?_)
    rw [hq.1, hq.2]
    show kw_V G mX12_isRight 66 [some (.ref x0), some (.int x1), some (.int x2), some (.int x3), none, none, some (.int x6)] [] r13 Q
    refine kv_iinc (w := nI 1) (L' := [some (.ref x0), some (.int x1), some (.int x2), some (.int x3), none, none, some (.int (x6 + (nI 1)))]) dX12_isRight_66 (by decide) rfl (by decide) rfl ?_
    refine kw_goto 53 dX12_isRight_69 (by decide) ?_
    have h := Option.some.inj h
    subst h
    exact hK
def X12_isRight_B53 (x0 : Nat) (x1 : Int32) (x2 : Int32) (x3 : Int32) (z : Int32 × kw_H) : Option (((Int32 × kw_H) ⊕ (Int32 × kw_H))) := X12_isRight_b53 x0 x1 x2 x3 z.1 z.2
theorem X12_isRight_L53_t (G : kw_G) (Q : Option Value → kw_H → Prop) (x0 : Nat) (x1 : Int32) (x2 : Int32) (x3 : Int32) (n : Nat) (z : Int32 × kw_H) (r : Int32 × kw_H) (h : kp_lp (X12_isRight_B53 x0 x1 x2 x3) n z = some r) (hK : Q (some (.int r.1)) r.2) : kw_V G mX12_isRight 53 [some (.ref x0), some (.int x1), some (.int x2), some (.int x3), none, none, some (.int z.1)] [] z.2 Q :=
  kv_lp _ (fun z => kw_V G mX12_isRight 53 [some (.ref x0), some (.int x1), some (.int x2), some (.int x3), none, none, some (.int z.1)] [] z.2 Q) (fun r => Q (some (.int r.1)) r.2) (fun z x hb hx => X12_isRight_b53_t G Q x0 x1 x2 x3 z.1 z.2 x hb (by cases x <;> exact hx)) n z r h hK
def X12_isRight_F (hp : kw_H) (x0 : Nat) (x1 : Int32) (x2 : Int32) (x3 : Int32) (x4 : Int32) (x5 : Int32) : Option (Int32 × kw_H) :=
  ((kp_ob hp x0 11).bind fun _ => X12_copyTown_F hp x0 (nI 0) (nI 1782)).bind fun r1 =>
  (kp_gR r1 x0 [11] 0).bind fun v2 =>
  (kp_gR r1 x0 [11] 0).bind fun v3 =>
  (kp_ldI r1 v3 ((nI 6) + x5)).bind fun v4 =>
  (kp_stI r1 v2 ((nI 1788) + x4) v4).bind fun hp5 =>
  (kp_gR hp5 x0 [11] 0).bind fun v6 =>
  (kp_gR hp5 x0 [11] 0).bind fun v7 =>
  (kp_ldI hp5 v7 ((nI 6) + x4)).bind fun v8 =>
  (kp_stI hp5 v6 ((nI 1788) + x5) v8).bind fun hp9 =>
  kp_lp (X12_isRight_B53 x0 x1 x2 x3) 2000 (nI 0, hp9)
set_option maxRecDepth 100000 in
set_option maxHeartbeats 4000000 in
theorem X12_isRight_c (G : kw_G) (hp : kw_H) (x0 : Nat) (x1 : Int32) (x2 : Int32) (x3 : Int32) (x4 : Int32) (x5 : Int32) (r : Int32 × kw_H) (h : X12_isRight_F hp x0 x1 x2 x3 x4 x5 = some r) : kw_Met G mX12_isRight [.ref x0, .int x1, .int x2, .int x3, .int x4, .int x5] hp (fun v h2 => v = some (.int r.1) ∧ h2 = r.2) := by
  refine kw_met (L := [some (.ref x0), some (.int x1), some (.int x2), some (.int x3), some (.int x4), some (.int x5), none]) (r := 1) (by decide +kernel) (Nat.le_of_ble_eq_true rfl) rfl ?_
  unfold X12_isRight_F at h
  obtain ⟨Q, hQ⟩ : ∃ Q : Option Value → kw_H → Prop, Q = (fun v h2 => v = some (.int r.1) ∧ h2 = r.2) := ⟨_, rfl⟩
  have hK : Q (some (.int r.1)) r.2 := by rw [hQ]; exact ⟨rfl, rfl⟩
  rw [← hQ]
  clear hQ
  refine kw_aload_n dX12_isRight_0 rfl ?_
  refine kw_iconst (v := nI 0) dX12_isRight_1 (by decide) ?_
  refine kw_sipush (v := nI 1782) dX12_isRight_2 (by decide) ?_
  obtain ⟨r1, er1, h⟩ := Option.bind_eq_some_iff.mp h
  obtain ⟨ur1, eur1, er1⟩ := Option.bind_eq_some_iff.mp er1
  obtain ⟨fsr1, hor1⟩ := kp_ob_inv eur1
  refine kw_callV (As := [.int (nI 0), .int (nI 1782)]) (S := []) kcX12 cbX12_isRight_X12_copyTown lkX12_128 imX12_copyTown seX12_X12_copyTown_X12_copyTown rfl rfl (Nat.le_of_ble_eq_true rfl) dX12_isRight_5 hor1 (X12_copyTown_c G hp x0 (nI 0) (nI 1782) _ er1) (fun vv hh hq => ?_)
  rw [hq.1, hq.2]
  show kw_V G mX12_isRight 8 [some (.ref x0), some (.int x1), some (.int x2), some (.int x3), some (.int x4), some (.int x5), none] [] r1 Q
  refine kw_aload_n dX12_isRight_8 rfl ?_
  obtain ⟨v2, ev2, h⟩ := Option.bind_eq_some_iff.mp h
  refine kv_gR gfX12_7 dX12_isRight_9 ev2 ?_
  refine kw_sipush (v := nI 1788) dX12_isRight_12 (by decide) ?_
  refine kw_iload dX12_isRight_15 rfl ?_
  refine kw_iadd dX12_isRight_17 ?_
  refine kw_aload_n dX12_isRight_18 rfl ?_
  obtain ⟨v3, ev3, h⟩ := Option.bind_eq_some_iff.mp h
  refine kv_gR gfX12_7 dX12_isRight_19 ev3 ?_
  refine kw_bipush (v := nI 6) dX12_isRight_22 (by decide) ?_
  refine kw_iload dX12_isRight_24 rfl ?_
  refine kw_iadd dX12_isRight_26 ?_
  obtain ⟨v4, ev4, h⟩ := Option.bind_eq_some_iff.mp h
  refine kv_ldI dX12_isRight_27 ev4 ?_
  obtain ⟨hp5, ehp5, h⟩ := Option.bind_eq_some_iff.mp h
  refine kv_stI dX12_isRight_28 ehp5 ?_
  refine kw_aload_n dX12_isRight_29 rfl ?_
  obtain ⟨v6, ev6, h⟩ := Option.bind_eq_some_iff.mp h
  refine kv_gR gfX12_7 dX12_isRight_30 ev6 ?_
  refine kw_sipush (v := nI 1788) dX12_isRight_33 (by decide) ?_
  refine kw_iload dX12_isRight_36 rfl ?_
  refine kw_iadd dX12_isRight_38 ?_
  refine kw_aload_n dX12_isRight_39 rfl ?_
  obtain ⟨v7, ev7, h⟩ := Option.bind_eq_some_iff.mp h
  refine kv_gR gfX12_7 dX12_isRight_40 ev7 ?_
  refine kw_bipush (v := nI 6) dX12_isRight_43 (by decide) ?_
  refine kw_iload dX12_isRight_45 rfl ?_
  refine kw_iadd dX12_isRight_47 ?_
  obtain ⟨v8, ev8, h⟩ := Option.bind_eq_some_iff.mp h
  refine kv_ldI dX12_isRight_48 ev8 ?_
  obtain ⟨hp9, ehp9, h⟩ := Option.bind_eq_some_iff.mp h
  refine kv_stI dX12_isRight_49 ehp9 ?_
  refine kw_iconst (v := nI 0) dX12_isRight_50 (by decide) ?_
  refine kw_istore (L' := [some (.ref x0), some (.int x1), some (.int x2), some (.int x3), some (.int x4), some (.int x5), some (.int (nI 0))]) dX12_isRight_51 (by decide) rfl ?_
  refine kw_mask [true, true, true, true, false, false, true] (L' := [some (.ref x0), some (.int x1), some (.int x2), some (.int x3), none, none, some (.int (nI 0))]) rfl ?_
  exact X12_isRight_L53_t G Q x0 x1 x2 x3 _ (nI 0, hp9) _ h hK
/-! KitchenWheelsModel.right(IIII)I -/
def X12_right_K77 (G : kw_G) (Q : Option Value → kw_H → Prop) (x0 : Nat) (x1 : Int32) (x2 : Int32) (x3 : Int32) (x4 : Int32) (r : (Int32 × kw_H) ⊕ (Int32 × kw_H)) : Prop := match r with
  | .inl z => kw_V G mX12_right 77 [some (.ref x0), some (.int x1), some (.int x2), some (.int x3), some (.int x4), some (.int z.1), none] [] z.2 Q
  | .inr r => Q (some (.int r.1)) r.2
def X12_right_J149 (hp : kw_H) : Option (Int32 × kw_H) :=
  some (((-1000000), hp))
set_option maxRecDepth 100000 in
set_option maxHeartbeats 4000000 in
theorem X12_right_J149_t (G : kw_G) (Q : Option Value → kw_H → Prop) (hp : kw_H) (r : Int32 × kw_H) (h : X12_right_J149 hp = some r) (hK : Q (some (.int r.1)) r.2) : kw_V G mX12_right 149 [none, none, none, none, none, none, none] [] hp Q := by
  unfold X12_right_J149 at h
  refine kw_ldc (v := (-1000000)) dX12_right_149 ckX12_99 ?_
  have h := Option.some.inj h
  subst h
  exact kw_iret rfl dX12_right_151 hK
def X12_right_K94 (G : kw_G) (Q : Option Value → kw_H → Prop) (x0 : Nat) (x1 : Int32) (x2 : Int32) (x3 : Int32) (x4 : Int32) (x5 : Int32) (r : (Int32 × kw_H) ⊕ (((Int32 × kw_H) ⊕ (Int32 × kw_H)))) : Prop := match r with
  | .inl z => kw_V G mX12_right 94 [some (.ref x0), some (.int x1), some (.int x2), some (.int x3), some (.int x4), some (.int x5), some (.int z.1)] [] z.2 Q
  | .inr r => X12_right_K77 G Q x0 x1 x2 x3 x4 r
def X12_right_J143 (hp : kw_H) (x0 : Nat) (x1 : Int32) (x2 : Int32) (x3 : Int32) (x4 : Int32) (x5 : Int32) : Option (((Int32 × kw_H) ⊕ (Int32 × kw_H))) :=
  some (.inl (x5 + (nI 1), hp))
set_option maxRecDepth 100000 in
set_option maxHeartbeats 4000000 in
theorem X12_right_J143_t (G : kw_G) (Q : Option Value → kw_H → Prop) (hp : kw_H) (x0 : Nat) (x1 : Int32) (x2 : Int32) (x3 : Int32) (x4 : Int32) (x5 : Int32) (r : ((Int32 × kw_H) ⊕ (Int32 × kw_H))) (h : X12_right_J143 hp x0 x1 x2 x3 x4 x5 = some r) (hK : X12_right_K77 G Q x0 x1 x2 x3 x4 r) : kw_V G mX12_right 143 [some (.ref x0), some (.int x1), some (.int x2), some (.int x3), some (.int x4), some (.int x5), none] [] hp Q := by
  unfold X12_right_J143 at h
  refine kv_iinc (w := nI 1) (L' := [some (.ref x0), some (.int x1), some (.int x2), some (.int x3), some (.int x4), some (.int (x5 + (nI 1))), none]) dX12_right_143 (by decide) rfl (by decide) rfl ?_
  refine kw_goto 77 dX12_right_146 (by decide) ?_
  have h := Option.some.inj h
  subst h
  exact hK
def X12_right_J119 (hp : kw_H) (x4 : Int32) (x5 : Int32) (x6 : Int32) : Option (Int32 × kw_H) :=
  (if x4 = 0 then
  some ((nI 1, hp))
else
  some ((((nI 10) * x5) + x6, hp)))
set_option maxRecDepth 100000 in
set_option maxHeartbeats 4000000 in
theorem X12_right_J119_t (G : kw_G) (Q : Option Value → kw_H → Prop) (hp : kw_H) (x4 : Int32) (x5 : Int32) (x6 : Int32) (r : Int32 × kw_H) (h : X12_right_J119 hp x4 x5 x6 = some r) (hK : Q (some (.int r.1)) r.2) : kw_V G mX12_right 119 [none, none, none, none, some (.int x4), some (.int x5), some (.int x6)] [] hp Q := by
  unfold X12_right_J119 at h
  refine kw_iload dX12_right_119 rfl ?_
  refine kw_if_ne 128 dX12_right_121 (by decide) (fun c14 => ?_) (fun c14 => ?_)
  · have h := (if_neg c14).symm.trans h
    refine kw_bipush (v := nI 10) dX12_right_128 (by decide) ?_
    refine kw_iload dX12_right_130 rfl ?_
    refine kw_imul dX12_right_132 ?_
    refine kw_iload dX12_right_133 rfl ?_
    refine kw_iadd dX12_right_135 ?_
    have h := Option.some.inj h
    subst h
    exact kw_iret rfl dX12_right_136 hK
  · have h := (if_pos c14).symm.trans h
    refine kw_iconst (v := nI 1) dX12_right_124 (by decide) ?_
    refine kw_goto 136 dX12_right_125 (by decide) ?_
    have h := Option.some.inj h
    subst h
    exact kw_iret rfl dX12_right_136 hK
def X12_right_b94 (x0 : Nat) (x1 : Int32) (x2 : Int32) (x3 : Int32) (x4 : Int32) (x5 : Int32) (x6 : Int32) (hp : kw_H) : Option (((Int32 × kw_H) ⊕ (((Int32 × kw_H) ⊕ (Int32 × kw_H))))) :=
  (kp_gR hp x0 [11] 0).bind fun v10 =>
  (kp_ldI hp v10 (nI 0)).bind fun v11 =>
  (if v11 ≤ x6 then
  (X12_right_J143 hp x0 x1 x2 x3 x4 x5).map (fun r => .inr (r))
else
  ((kp_ob hp x0 11).bind fun _ => X12_isRight_F hp x0 x1 x2 x3 x5 x6).bind fun r13 =>
  (if r13.1 = 0 then
  some (.inl (x6 + (nI 1), r13.2))
else
  (X12_right_J119 r13.2 x4 x5 x6).map (fun r => .inr (.inr (r)))))
set_option maxRecDepth 100000 in
set_option maxHeartbeats 4000000 in
theorem X12_right_b94_t (G : kw_G) (Q : Option Value → kw_H → Prop) (x0 : Nat) (x1 : Int32) (x2 : Int32) (x3 : Int32) (x4 : Int32) (x5 : Int32) (x6 : Int32) (hp : kw_H) (r : ((Int32 × kw_H) ⊕ (((Int32 × kw_H) ⊕ (Int32 × kw_H))))) (h : X12_right_b94 x0 x1 x2 x3 x4 x5 x6 hp = some r) (hK : X12_right_K94 G Q x0 x1 x2 x3 x4 x5 r) : kw_V G mX12_right 94 [some (.ref x0), some (.int x1), some (.int x2), some (.int x3), some (.int x4), some (.int x5), some (.int x6)] [] hp Q := by
  unfold X12_right_b94 at h
  refine kw_iload dX12_right_94 rfl ?_
  refine kw_aload_n dX12_right_96 rfl ?_
  obtain ⟨v10, ev10, h⟩ := Option.bind_eq_some_iff.mp h
  refine kv_gR gfX12_7 dX12_right_97 ev10 ?_
  refine kw_iconst (v := nI 0) dX12_right_100 (by decide) ?_
  obtain ⟨v11, ev11, h⟩ := Option.bind_eq_some_iff.mp h
  refine kv_ldI dX12_right_101 ev11 ?_
  refine kw_icmp_ge 143 dX12_right_102 (by decide) (fun c17 => ?_) (fun c17 => ?_)
  · have h := (if_pos c17).symm.trans h
    refine kw_mask [true, true, true, true, true, true, false] (L' := [some (.ref x0), some (.int x1), some (.int x2), some (.int x3), some (.int x4), some (.int x5), none]) rfl ?_
    obtain ⟨r12, hr12, hrr12⟩ := Option.map_eq_some_iff.mp h
    subst hrr12
    exact X12_right_J143_t G Q hp x0 x1 x2 x3 x4 x5 r12 hr12 hK
  · have h := (if_neg c17).symm.trans h
    refine kw_aload_n dX12_right_105 rfl ?_
    refine kw_iload_n dX12_right_106 rfl ?_
    refine kw_iload_n dX12_right_107 rfl ?_
    refine kw_iload_n dX12_right_108 rfl ?_
    refine kw_iload dX12_right_109 rfl ?_
    refine kw_iload dX12_right_111 rfl ?_
    obtain ⟨r13, er13, h⟩ := Option.bind_eq_some_iff.mp h
    obtain ⟨ur13, eur13, er13⟩ := Option.bind_eq_some_iff.mp er13
    obtain ⟨fsr13, hor13⟩ := kp_ob_inv eur13
    refine kw_callV (As := [.int x1, .int x2, .int x3, .int x5, .int x6]) (S := []) kcX12 cbX12_right_X12_isRight lkX12_211 imX12_isRight seX12_X12_isRight_X12_isRight rfl rfl (Nat.le_of_ble_eq_true rfl) dX12_right_113 hor13 (X12_isRight_c G hp x0 x1 x2 x3 x5 x6 _ er13) (fun vv hh hq => ?_)
    rw [hq.1, hq.2]
    show kw_V G mX12_right 116 [some (.ref x0), some (.int x1), some (.int x2), some (.int x3), some (.int x4), some (.int x5), some (.int x6)] [.int r13.1] r13.2 Q
    refine kw_if_eq 137 dX12_right_116 (by decide) (fun c16 => ?_) (fun c16 => ?_)
    · have h := (if_pos c16).symm.trans h
      refine kv_iinc (w := nI 1) (L' := [some (.ref x0), some (.int x1), some (.int x2), some (.int x3), some (.int x4), some (.int x5), some (.int (x6 + (nI 1)))]) dX12_right_137 (by decide) rfl (by decide) rfl ?_
      refine kw_goto 94 dX12_right_140 (by decide) ?_
      have h := Option.some.inj h
      subst h
      exact hK
    · have h := (if_neg c16).symm.trans h
      refine kw_mask [false, false, false, false, true, true, true] (L' := [none, none, none, none, some (.int x4), some (.int x5), some (.int x6)]) rfl ?_
      obtain ⟨r15, hr15, hrr15⟩ := Option.map_eq_some_iff.mp h
      subst hrr15
      exact X12_right_J119_t G Q r13.2 x4 x5 x6 r15 hr15 hK
def X12_right_B94 (x0 : Nat) (x1 : Int32) (x2 : Int32) (x3 : Int32) (x4 : Int32) (x5 : Int32) (z : Int32 × kw_H) : Option (((Int32 × kw_H) ⊕ (((Int32 × kw_H) ⊕ (Int32 × kw_H))))) := X12_right_b94 x0 x1 x2 x3 x4 x5 z.1 z.2
theorem X12_right_L94_t (G : kw_G) (Q : Option Value → kw_H → Prop) (x0 : Nat) (x1 : Int32) (x2 : Int32) (x3 : Int32) (x4 : Int32) (x5 : Int32) (n : Nat) (z : Int32 × kw_H) (r : ((Int32 × kw_H) ⊕ (Int32 × kw_H))) (h : kp_lp (X12_right_B94 x0 x1 x2 x3 x4 x5) n z = some r) (hK : X12_right_K77 G Q x0 x1 x2 x3 x4 r) : kw_V G mX12_right 94 [some (.ref x0), some (.int x1), some (.int x2), some (.int x3), some (.int x4), some (.int x5), some (.int z.1)] [] z.2 Q :=
  kv_lp _ (fun z => kw_V G mX12_right 94 [some (.ref x0), some (.int x1), some (.int x2), some (.int x3), some (.int x4), some (.int x5), some (.int z.1)] [] z.2 Q) (fun r => X12_right_K77 G Q x0 x1 x2 x3 x4 r) (fun z x hb hx => X12_right_b94_t G Q x0 x1 x2 x3 x4 x5 z.1 z.2 x hb (by cases x <;> exact hx)) n z r h hK
def X12_right_b77 (x0 : Nat) (x1 : Int32) (x2 : Int32) (x3 : Int32) (x4 : Int32) (x5 : Int32) (hp : kw_H) : Option (((Int32 × kw_H) ⊕ (Int32 × kw_H))) :=
  (kp_gR hp x0 [11] 0).bind fun v7 =>
  (kp_ldI hp v7 (nI 0)).bind fun v8 =>
  (if v8 ≤ x5 then
  (X12_right_J149 hp).map (fun r => .inr (r))
else
  kp_lp (X12_right_B94 x0 x1 x2 x3 x4 x5) 2000 (x5 + (nI 1), hp))
set_option maxRecDepth 100000 in
set_option maxHeartbeats 4000000 in
theorem X12_right_b77_t (G : kw_G) (Q : Option Value → kw_H → Prop) (x0 : Nat) (x1 : Int32) (x2 : Int32) (x3 : Int32) (x4 : Int32) (x5 : Int32) (hp : kw_H) (r : ((Int32 × kw_H) ⊕ (Int32 × kw_H))) (h : X12_right_b77 x0 x1 x2 x3 x4 x5 hp = some r) (hK : X12_right_K77 G Q x0 x1 x2 x3 x4 r) : kw_V G mX12_right 77 [some (.ref x0), some (.int x1), some (.int x2), some (.int x3), some (.int x4), some (.int x5), none] [] hp Q := by
  unfold X12_right_b77 at h
  refine kw_iload dX12_right_77 rfl ?_
  refine kw_aload_n dX12_right_79 rfl ?_
  obtain ⟨v7, ev7, h⟩ := Option.bind_eq_some_iff.mp h
  refine kv_gR gfX12_7 dX12_right_80 ev7 ?_
  refine kw_iconst (v := nI 0) dX12_right_83 (by decide) ?_
  obtain ⟨v8, ev8, h⟩ := Option.bind_eq_some_iff.mp h
  refine kv_ldI dX12_right_84 ev8 ?_
  refine kw_icmp_ge 149 dX12_right_85 (by decide) (fun c18 => ?_) (fun c18 => ?_)
  · have h := (if_pos c18).symm.trans h
    refine kw_mask [false, false, false, false, false, false, true] (L' := [none, none, none, none, none, none, none]) rfl ?_
    obtain ⟨r9, hr9, hrr9⟩ := Option.map_eq_some_iff.mp h
    subst hrr9
    exact X12_right_J149_t G Q hp r9 hr9 hK
  · have h := (if_neg c18).symm.trans h
    refine kw_iload dX12_right_88 rfl ?_
    refine kw_iconst (v := nI 1) dX12_right_90 (by decide) ?_
    refine kw_iadd dX12_right_91 ?_
    refine kw_istore (L' := [some (.ref x0), some (.int x1), some (.int x2), some (.int x3), some (.int x4), some (.int x5), some (.int (x5 + (nI 1)))]) dX12_right_92 (by decide) rfl ?_
    exact X12_right_L94_t G Q x0 x1 x2 x3 x4 x5 _ (x5 + (nI 1), hp) _ h hK
def X12_right_B77 (x0 : Nat) (x1 : Int32) (x2 : Int32) (x3 : Int32) (x4 : Int32) (z : Int32 × kw_H) : Option (((Int32 × kw_H) ⊕ (Int32 × kw_H))) := X12_right_b77 x0 x1 x2 x3 x4 z.1 z.2
theorem X12_right_L77_t (G : kw_G) (Q : Option Value → kw_H → Prop) (x0 : Nat) (x1 : Int32) (x2 : Int32) (x3 : Int32) (x4 : Int32) (n : Nat) (z : Int32 × kw_H) (r : Int32 × kw_H) (h : kp_lp (X12_right_B77 x0 x1 x2 x3 x4) n z = some r) (hK : Q (some (.int r.1)) r.2) : kw_V G mX12_right 77 [some (.ref x0), some (.int x1), some (.int x2), some (.int x3), some (.int x4), some (.int z.1), none] [] z.2 Q :=
  kv_lp _ (fun z => kw_V G mX12_right 77 [some (.ref x0), some (.int x1), some (.int x2), some (.int x3), some (.int x4), some (.int z.1), none] [] z.2 Q) (fun r => Q (some (.int r.1)) r.2) (fun z x hb hx => X12_right_b77_t G Q x0 x1 x2 x3 x4 z.1 z.2 x hb (by cases x <;> exact hx)) n z r h hK
def X12_right_F (hp : kw_H) (x0 : Nat) (x1 : Int32) (x2 : Int32) (x3 : Int32) (x4 : Int32) : Option (Int32 × kw_H) :=
  (kp_gI hp x0 [11] 1).bind fun v1 =>
  (if v1 = 0 then
  some (((-1000002), hp))
else
  (X12_isSix_F hp x1).bind fun r2 =>
  (if r2 = 0 then
  some (((-1000001), hp))
else
  (X12_isSix_F hp x2).bind fun r3 =>
  (if r3 = 0 then
  some (((-1000001), hp))
else
  (X12_in_F hp (Int32.toInt64 x3) (lN 0) (lN 60)).bind fun r4 =>
  (if r4 = 0 then
  some (((-1000001), hp))
else
  (X12_in_F hp (Int32.toInt64 x4) (lN 0) (lN 1)).bind fun r5 =>
  (if r5 = 0 then
  some (((-1000001), hp))
else
  ((kp_ob hp x0 11).bind fun _ => X12_isRight_F hp x0 x1 x2 x3 (nI 0) (nI 0)).bind fun r6 =>
  (if r6.1 = 0 then
  kp_lp (X12_right_B77 x0 x1 x2 x3 x4) 2000 (nI 0, r6.2)
else
  (if x4 = 0 then
  some ((nI 0, r6.2))
else
  some (((-1000000), r6.2)))))))))
set_option maxRecDepth 100000 in
set_option maxHeartbeats 4000000 in
theorem X12_right_c (G : kw_G) (hp : kw_H) (x0 : Nat) (x1 : Int32) (x2 : Int32) (x3 : Int32) (x4 : Int32) (r : Int32 × kw_H) (h : X12_right_F hp x0 x1 x2 x3 x4 = some r) : kw_Met G mX12_right [.ref x0, .int x1, .int x2, .int x3, .int x4] hp (fun v h2 => v = some (.int r.1) ∧ h2 = r.2) := by
  refine kw_met (L := [some (.ref x0), some (.int x1), some (.int x2), some (.int x3), some (.int x4), none, none]) (r := 2) (by decide +kernel) (Nat.le_of_ble_eq_true rfl) rfl ?_
  unfold X12_right_F at h
  obtain ⟨Q, hQ⟩ : ∃ Q : Option Value → kw_H → Prop, Q = (fun v h2 => v = some (.int r.1) ∧ h2 = r.2) := ⟨_, rfl⟩
  have hK : Q (some (.int r.1)) r.2 := by rw [hQ]; exact ⟨rfl, rfl⟩
  rw [← hQ]
  clear hQ
  refine kw_aload_n dX12_right_0 rfl ?_
  obtain ⟨v1, ev1, h⟩ := Option.bind_eq_some_iff.mp h
  refine kv_gI gfX12_132 dX12_right_1 ev1 ?_
  refine kw_if_ne 10 dX12_right_4 (by decide) (fun c25 => ?_) (fun c25 => ?_)
  · have h := (if_neg c25).symm.trans h
    refine kw_iload_n dX12_right_10 rfl ?_
    obtain ⟨r2, er2, h⟩ := Option.bind_eq_some_iff.mp h
    refine kw_callS (As := [.int x1]) (S := []) cbX12_right_X12_isSix lkX12_176 stX12_isSix rfl rfl (Nat.le_of_ble_eq_true rfl) dX12_right_11 (X12_isSix_c G hp x1 _ er2) (fun vv hh hq => ?_)
    rw [hq.1, hq.2]
    show kw_V G mX12_right 14 [some (.ref x0), some (.int x1), some (.int x2), some (.int x3), some (.int x4), none, none] [.int r2] hp Q
    refine kw_if_eq 47 dX12_right_14 (by decide) (fun c24 => ?_) (fun c24 => ?_)
    · have h := (if_pos c24).symm.trans h
      refine kw_ldc (v := (-1000001)) dX12_right_47 ckX12_52 ?_
      have h := Option.some.inj h
      subst h
      exact kw_iret rfl dX12_right_49 hK
    · have h := (if_neg c24).symm.trans h
      refine kw_iload_n dX12_right_17 rfl ?_
      obtain ⟨r3, er3, h⟩ := Option.bind_eq_some_iff.mp h
      refine kw_callS (As := [.int x2]) (S := []) cbX12_right_X12_isSix lkX12_176 stX12_isSix rfl rfl (Nat.le_of_ble_eq_true rfl) dX12_right_18 (X12_isSix_c G hp x2 _ er3) (fun vv hh hq => ?_)
      rw [hq.1, hq.2]
      show kw_V G mX12_right 21 [some (.ref x0), some (.int x1), some (.int x2), some (.int x3), some (.int x4), none, none] [.int r3] hp Q
      refine kw_if_eq 47 dX12_right_21 (by decide) (fun c23 => ?_) (fun c23 => ?_)
      · have h := (if_pos c23).symm.trans h
        refine kw_ldc (v := (-1000001)) dX12_right_47 ckX12_52 ?_
        have h := Option.some.inj h
        subst h
        exact kw_iret rfl dX12_right_49 hK
      · have h := (if_neg c23).symm.trans h
        refine kw_iload_n dX12_right_24 rfl ?_
        refine kw_i2l dX12_right_25 ?_
        refine kw_lconst (v := lN 0) dX12_right_26 (by decide) ?_
        refine kw_ldc2_w (v := lN 60) dX12_right_27 ckX12_186 ?_
        obtain ⟨r4, er4, h⟩ := Option.bind_eq_some_iff.mp h
        refine kw_callS (As := [.long (Int32.toInt64 x3), .long (lN 0), .long (lN 60)]) (S := []) cbX12_right_X12_in lkX12_42 stX12_in rfl rfl (Nat.le_of_ble_eq_true rfl) dX12_right_30 (X12_in_c G hp (Int32.toInt64 x3) (lN 0) (lN 60) _ er4) (fun vv hh hq => ?_)
        rw [hq.1, hq.2]
        show kw_V G mX12_right 33 [some (.ref x0), some (.int x1), some (.int x2), some (.int x3), some (.int x4), none, none] [.int r4] hp Q
        refine kw_if_eq 47 dX12_right_33 (by decide) (fun c22 => ?_) (fun c22 => ?_)
        · have h := (if_pos c22).symm.trans h
          refine kw_ldc (v := (-1000001)) dX12_right_47 ckX12_52 ?_
          have h := Option.some.inj h
          subst h
          exact kw_iret rfl dX12_right_49 hK
        · have h := (if_neg c22).symm.trans h
          refine kw_iload dX12_right_36 rfl ?_
          refine kw_i2l dX12_right_38 ?_
          refine kw_lconst (v := lN 0) dX12_right_39 (by decide) ?_
          refine kw_lconst (v := lN 1) dX12_right_40 (by decide) ?_
          obtain ⟨r5, er5, h⟩ := Option.bind_eq_some_iff.mp h
          refine kw_callS (As := [.long (Int32.toInt64 x4), .long (lN 0), .long (lN 1)]) (S := []) cbX12_right_X12_in lkX12_42 stX12_in rfl rfl (Nat.le_of_ble_eq_true rfl) dX12_right_41 (X12_in_c G hp (Int32.toInt64 x4) (lN 0) (lN 1) _ er5) (fun vv hh hq => ?_)
          rw [hq.1, hq.2]
          show kw_V G mX12_right 44 [some (.ref x0), some (.int x1), some (.int x2), some (.int x3), some (.int x4), none, none] [.int r5] hp Q
          refine kw_if_ne 50 dX12_right_44 (by decide) (fun c21 => ?_) (fun c21 => ?_)
          · have h := (if_neg c21).symm.trans h
            refine kw_aload_n dX12_right_50 rfl ?_
            refine kw_iload_n dX12_right_51 rfl ?_
            refine kw_iload_n dX12_right_52 rfl ?_
            refine kw_iload_n dX12_right_53 rfl ?_
            refine kw_iconst (v := nI 0) dX12_right_54 (by decide) ?_
            refine kw_iconst (v := nI 0) dX12_right_55 (by decide) ?_
            obtain ⟨r6, er6, h⟩ := Option.bind_eq_some_iff.mp h
            obtain ⟨ur6, eur6, er6⟩ := Option.bind_eq_some_iff.mp er6
            obtain ⟨fsr6, hor6⟩ := kp_ob_inv eur6
            refine kw_callV (As := [.int x1, .int x2, .int x3, .int (nI 0), .int (nI 0)]) (S := []) kcX12 cbX12_right_X12_isRight lkX12_211 imX12_isRight seX12_X12_isRight_X12_isRight rfl rfl (Nat.le_of_ble_eq_true rfl) dX12_right_56 hor6 (X12_isRight_c G hp x0 x1 x2 x3 (nI 0) (nI 0) _ er6) (fun vv hh hq => ?_)
            rw [hq.1, hq.2]
            show kw_V G mX12_right 59 [some (.ref x0), some (.int x1), some (.int x2), some (.int x3), some (.int x4), none, none] [.int r6.1] r6.2 Q
            refine kw_if_eq 74 dX12_right_59 (by decide) (fun c20 => ?_) (fun c20 => ?_)
            · have h := (if_pos c20).symm.trans h
              refine kw_iconst (v := nI 0) dX12_right_74 (by decide) ?_
              refine kw_istore (L' := [some (.ref x0), some (.int x1), some (.int x2), some (.int x3), some (.int x4), some (.int (nI 0)), none]) dX12_right_75 (by decide) rfl ?_
              exact X12_right_L77_t G Q x0 x1 x2 x3 x4 _ (nI 0, r6.2) _ h hK
            · have h := (if_neg c20).symm.trans h
              refine kw_iload dX12_right_62 rfl ?_
              refine kw_if_ne 71 dX12_right_64 (by decide) (fun c19 => ?_) (fun c19 => ?_)
              · have h := (if_neg c19).symm.trans h
                refine kw_ldc (v := (-1000000)) dX12_right_71 ckX12_99 ?_
                have h := Option.some.inj h
                subst h
                exact kw_iret rfl dX12_right_73 hK
              · have h := (if_pos c19).symm.trans h
                refine kw_iconst (v := nI 0) dX12_right_67 (by decide) ?_
                refine kw_goto 73 dX12_right_68 (by decide) ?_
                have h := Option.some.inj h
                subst h
                exact kw_iret rfl dX12_right_73 hK
          · have h := (if_pos c21).symm.trans h
            refine kw_ldc (v := (-1000001)) dX12_right_47 ckX12_52 ?_
            have h := Option.some.inj h
            subst h
            exact kw_iret rfl dX12_right_49 hK
  · have h := (if_pos c25).symm.trans h
    refine kw_ldc (v := (-1000002)) dX12_right_7 ckX12_139 ?_
    have h := Option.some.inj h
    subst h
    exact kw_iret rfl dX12_right_9 hK
/-! KitchenWheelsModel.twice()I -/
def X12_twice_K12 (G : kw_G) (Q : Option Value → kw_H → Prop) (hp : kw_H) (x0 : Nat) (r : (Int32) ⊕ (Int32 × kw_H)) : Prop := match r with
  | .inl z => kw_V G mX12_twice 12 [some (.ref x0), some (.int z), none, none, none, none] [] hp Q
  | .inr r => Q (some (.int r.1)) r.2
def X12_twice_K63 (G : kw_G) (Q : Option Value → kw_H → Prop) (x0 : Nat) (x1 : Int32) (r : (Int32 × Int32 × Int32 × kw_H) ⊕ (Int32 × kw_H)) : Prop := match r with
  | .inl z => kw_V G mX12_twice 63 [some (.ref x0), some (.int x1), some (.int z.1), some (.int z.2.1), some (.int z.2.2.1), none] [] z.2.2.2 Q
  | .inr r => Q (some (.int r.1)) r.2
def X12_twice_J151 (hp : kw_H) (x2 : Int32) : Option (Int32 × kw_H) :=
  some ((x2, hp))
set_option maxRecDepth 100000 in
set_option maxHeartbeats 4000000 in
theorem X12_twice_J151_t (G : kw_G) (Q : Option Value → kw_H → Prop) (hp : kw_H) (x2 : Int32) (r : Int32 × kw_H) (h : X12_twice_J151 hp x2 = some r) (hK : Q (some (.int r.1)) r.2) : kw_V G mX12_twice 151 [none, none, some (.int x2), none, none, none] [] hp Q := by
  unfold X12_twice_J151 at h
  refine kw_iload_n dX12_twice_151 rfl ?_
  have h := Option.some.inj h
  subst h
  exact kw_iret rfl dX12_twice_152 hK
def X12_twice_K93 (G : kw_G) (Q : Option Value → kw_H → Prop) (x0 : Nat) (x1 : Int32) (x2 : Int32) (x3 : Int32) (x4 : Int32) (r : (Int32 × kw_H) ⊕ (((Int32 × Int32 × Int32 × kw_H) ⊕ (Int32 × kw_H)))) : Prop := match r with
  | .inl z => kw_V G mX12_twice 93 [some (.ref x0), some (.int x1), some (.int x2), some (.int x3), some (.int x4), some (.int z.1)] [] z.2 Q
  | .inr r => X12_twice_K63 G Q x0 x1 r
def X12_twice_J144 (hp : kw_H) (x0 : Nat) (x1 : Int32) (x2 : Int32) (x4 : Int32) (s0 : Int32) : Option (((Int32 × Int32 × Int32 × kw_H) ⊕ (Int32 × kw_H))) :=
  some (.inl (x2, s0, x4 + (nI 1), hp))
set_option maxRecDepth 100000 in
set_option maxHeartbeats 4000000 in
theorem X12_twice_J144_t (G : kw_G) (Q : Option Value → kw_H → Prop) (hp : kw_H) (x0 : Nat) (x1 : Int32) (x2 : Int32) (x4 : Int32) (s0 : Int32) (r : ((Int32 × Int32 × Int32 × kw_H) ⊕ (Int32 × kw_H))) (h : X12_twice_J144 hp x0 x1 x2 x4 s0 = some r) (hK : X12_twice_K63 G Q x0 x1 r) : kw_V G mX12_twice 144 [some (.ref x0), some (.int x1), some (.int x2), none, some (.int x4), none] [.int s0] hp Q := by
  unfold X12_twice_J144 at h
  refine kw_istore_n (L' := [some (.ref x0), some (.int x1), some (.int x2), some (.int s0), some (.int x4), none]) dX12_twice_144 (by decide) rfl ?_
  refine kv_iinc (w := nI 1) (L' := [some (.ref x0), some (.int x1), some (.int x2), some (.int s0), some (.int (x4 + (nI 1))), none]) dX12_twice_145 (by decide) rfl (by decide) rfl ?_
  refine kw_goto 63 dX12_twice_148 (by decide) ?_
  have h := Option.some.inj h
  subst h
  exact hK
def X12_twice_J131 (hp : kw_H) (x0 : Nat) (x1 : Int32) (x3 : Int32) (x4 : Int32) (x5 : Int32) (s0 : Int32) : Option (((Int32 × Int32 × Int32 × kw_H) ⊕ (Int32 × kw_H))) :=
  (if x3 ≤ x5 then
  X12_twice_J144 hp x0 x1 s0 x4 x3
else
  X12_twice_J144 hp x0 x1 s0 x4 x5)
set_option maxRecDepth 100000 in
set_option maxHeartbeats 4000000 in
theorem X12_twice_J131_t (G : kw_G) (Q : Option Value → kw_H → Prop) (hp : kw_H) (x0 : Nat) (x1 : Int32) (x3 : Int32) (x4 : Int32) (x5 : Int32) (s0 : Int32) (r : ((Int32 × Int32 × Int32 × kw_H) ⊕ (Int32 × kw_H))) (h : X12_twice_J131 hp x0 x1 x3 x4 x5 s0 = some r) (hK : X12_twice_K63 G Q x0 x1 r) : kw_V G mX12_twice 131 [some (.ref x0), some (.int x1), none, some (.int x3), some (.int x4), some (.int x5)] [.int s0] hp Q := by
  unfold X12_twice_J131 at h
  refine kw_istore_n (L' := [some (.ref x0), some (.int x1), some (.int s0), some (.int x3), some (.int x4), some (.int x5)]) dX12_twice_131 (by decide) rfl ?_
  refine kw_iload dX12_twice_132 rfl ?_
  refine kw_iload_n dX12_twice_134 rfl ?_
  refine kw_icmp_ge 143 dX12_twice_135 (by decide) (fun c11 => ?_) (fun c11 => ?_)
  · have h := (if_pos c11).symm.trans h
    refine kw_iload_n dX12_twice_143 rfl ?_
    refine kw_mask [true, true, true, false, true, false] (L' := [some (.ref x0), some (.int x1), some (.int s0), none, some (.int x4), none]) rfl ?_
    exact X12_twice_J144_t G Q hp x0 x1 s0 x4 x3 _ h hK
  · have h := (if_neg c11).symm.trans h
    refine kw_iload dX12_twice_138 rfl ?_
    refine kw_goto 144 dX12_twice_140 (by decide) ?_
    refine kw_mask [true, true, true, false, true, false] (L' := [some (.ref x0), some (.int x1), some (.int s0), none, some (.int x4), none]) rfl ?_
    exact X12_twice_J144_t G Q hp x0 x1 s0 x4 x5 _ h hK
def X12_twice_J113 (hp : kw_H) (x0 : Nat) (x1 : Int32) (x2 : Int32) (x3 : Int32) (x4 : Int32) : Option (((Int32 × Int32 × Int32 × kw_H) ⊕ (Int32 × kw_H))) :=
  ((kp_ob hp x0 11).bind fun _ => X12_differenceTried_F hp x0).bind fun r10 =>
  (if x3 ≤ r10 then
  X12_twice_J131 hp x0 x1 x3 x4 r10 x2
else
  X12_twice_J131 hp x0 x1 x3 x4 r10 x4)
set_option maxRecDepth 100000 in
set_option maxHeartbeats 4000000 in
theorem X12_twice_J113_t (G : kw_G) (Q : Option Value → kw_H → Prop) (hp : kw_H) (x0 : Nat) (x1 : Int32) (x2 : Int32) (x3 : Int32) (x4 : Int32) (r : ((Int32 × Int32 × Int32 × kw_H) ⊕ (Int32 × kw_H))) (h : X12_twice_J113 hp x0 x1 x2 x3 x4 = some r) (hK : X12_twice_K63 G Q x0 x1 r) : kw_V G mX12_twice 113 [some (.ref x0), some (.int x1), some (.int x2), some (.int x3), some (.int x4), none] [] hp Q := by
  unfold X12_twice_J113 at h
  refine kw_aload_n dX12_twice_113 rfl ?_
  obtain ⟨r10, er10, h⟩ := Option.bind_eq_some_iff.mp h
  obtain ⟨ur10, eur10, er10⟩ := Option.bind_eq_some_iff.mp er10
  obtain ⟨fsr10, hor10⟩ := kp_ob_inv eur10
  refine kw_callV (As := []) (S := []) kcX12 cbX12_twice_X12_differenceTried lkX12_207 imX12_differenceTried seX12_X12_differenceTried_X12_differenceTried rfl rfl (Nat.le_of_ble_eq_true rfl) dX12_twice_114 hor10 (X12_differenceTried_c G hp x0 _ er10) (fun vv hh hq => ?_)
  rw [hq.1, hq.2]
  show kw_V G mX12_twice 117 [some (.ref x0), some (.int x1), some (.int x2), some (.int x3), some (.int x4), none] [.int r10] hp Q
  refine kw_istore (L' := [some (.ref x0), some (.int x1), some (.int x2), some (.int x3), some (.int x4), some (.int r10)]) dX12_twice_117 (by decide) rfl ?_
  refine kw_iload dX12_twice_119 rfl ?_
  refine kw_iload_n dX12_twice_121 rfl ?_
  refine kw_icmp_ge 130 dX12_twice_122 (by decide) (fun c12 => ?_) (fun c12 => ?_)
  · have h := (if_pos c12).symm.trans h
    refine kw_iload_n dX12_twice_130 rfl ?_
    refine kw_mask [true, true, false, true, true, true] (L' := [some (.ref x0), some (.int x1), none, some (.int x3), some (.int x4), some (.int r10)]) rfl ?_
    exact X12_twice_J131_t G Q hp x0 x1 x3 x4 r10 x2 _ h hK
  · have h := (if_neg c12).symm.trans h
    refine kw_iload dX12_twice_125 rfl ?_
    refine kw_goto 131 dX12_twice_127 (by decide) ?_
    refine kw_mask [true, true, false, true, true, true] (L' := [some (.ref x0), some (.int x1), none, some (.int x3), some (.int x4), some (.int r10)]) rfl ?_
    exact X12_twice_J131_t G Q hp x0 x1 x3 x4 r10 x4 _ h hK
def X12_twice_b93 (x0 : Nat) (x1 : Int32) (x2 : Int32) (x3 : Int32) (x4 : Int32) (x5 : Int32) (hp : kw_H) : Option (((Int32 × kw_H) ⊕ (((Int32 × Int32 × Int32 × kw_H) ⊕ (Int32 × kw_H))))) :=
  (if (nI 12) ≤ x5 then
  (X12_twice_J113 hp x0 x1 x2 x3 x4).map (fun r => .inr (r))
else
  ((kp_ob hp x0 11).bind fun _ => X12_passAsTold_F hp x0 (nI 1782)).bind fun r14 =>
  some (.inl (x5 + (nI 1), r14)))
set_option maxRecDepth 100000 in
set_option maxHeartbeats 4000000 in
theorem X12_twice_b93_t (G : kw_G) (Q : Option Value → kw_H → Prop) (x0 : Nat) (x1 : Int32) (x2 : Int32) (x3 : Int32) (x4 : Int32) (x5 : Int32) (hp : kw_H) (r : ((Int32 × kw_H) ⊕ (((Int32 × Int32 × Int32 × kw_H) ⊕ (Int32 × kw_H))))) (h : X12_twice_b93 x0 x1 x2 x3 x4 x5 hp = some r) (hK : X12_twice_K93 G Q x0 x1 x2 x3 x4 r) : kw_V G mX12_twice 93 [some (.ref x0), some (.int x1), some (.int x2), some (.int x3), some (.int x4), some (.int x5)] [] hp Q := by
  unfold X12_twice_b93 at h
  refine kw_iload dX12_twice_93 rfl ?_
  refine kw_bipush (v := nI 12) dX12_twice_95 (by decide) ?_
  refine kw_icmp_ge 113 dX12_twice_97 (by decide) (fun c15 => ?_) (fun c15 => ?_)
  · have h := (if_pos c15).symm.trans h
    refine kw_mask [true, true, true, true, true, false] (L' := [some (.ref x0), some (.int x1), some (.int x2), some (.int x3), some (.int x4), none]) rfl ?_
    obtain ⟨r13, hr13, hrr13⟩ := Option.map_eq_some_iff.mp h
    subst hrr13
    exact X12_twice_J113_t G Q hp x0 x1 x2 x3 x4 r13 hr13 hK
  · have h := (if_neg c15).symm.trans h
    refine kw_aload_n dX12_twice_100 rfl ?_
    refine kw_sipush (v := nI 1782) dX12_twice_101 (by decide) ?_
    obtain ⟨r14, er14, h⟩ := Option.bind_eq_some_iff.mp h
    obtain ⟨ur14, eur14, er14⟩ := Option.bind_eq_some_iff.mp er14
    obtain ⟨fsr14, hor14⟩ := kp_ob_inv eur14
    refine kw_callV (As := [.int (nI 1782)]) (S := []) kcX12 cbX12_twice_X12_passAsTold lkX12_167 imX12_passAsTold seX12_X12_passAsTold_X12_passAsTold rfl rfl (Nat.le_of_ble_eq_true rfl) dX12_twice_104 hor14 (X12_passAsTold_c G hp x0 (nI 1782) _ er14) (fun vv hh hq => ?_)
    rw [hq.1, hq.2]
    show kw_V G mX12_twice 107 [some (.ref x0), some (.int x1), some (.int x2), some (.int x3), some (.int x4), some (.int x5)] [] r14 Q
    refine kv_iinc (w := nI 1) (L' := [some (.ref x0), some (.int x1), some (.int x2), some (.int x3), some (.int x4), some (.int (x5 + (nI 1)))]) dX12_twice_107 (by decide) rfl (by decide) rfl ?_
    refine kw_goto 93 dX12_twice_110 (by decide) ?_
    have h := Option.some.inj h
    subst h
    exact hK
def X12_twice_B93 (x0 : Nat) (x1 : Int32) (x2 : Int32) (x3 : Int32) (x4 : Int32) (z : Int32 × kw_H) : Option (((Int32 × kw_H) ⊕ (((Int32 × Int32 × Int32 × kw_H) ⊕ (Int32 × kw_H))))) := X12_twice_b93 x0 x1 x2 x3 x4 z.1 z.2
theorem X12_twice_L93_t (G : kw_G) (Q : Option Value → kw_H → Prop) (x0 : Nat) (x1 : Int32) (x2 : Int32) (x3 : Int32) (x4 : Int32) (n : Nat) (z : Int32 × kw_H) (r : ((Int32 × Int32 × Int32 × kw_H) ⊕ (Int32 × kw_H))) (h : kp_lp (X12_twice_B93 x0 x1 x2 x3 x4) n z = some r) (hK : X12_twice_K63 G Q x0 x1 r) : kw_V G mX12_twice 93 [some (.ref x0), some (.int x1), some (.int x2), some (.int x3), some (.int x4), some (.int z.1)] [] z.2 Q :=
  kv_lp _ (fun z => kw_V G mX12_twice 93 [some (.ref x0), some (.int x1), some (.int x2), some (.int x3), some (.int x4), some (.int z.1)] [] z.2 Q) (fun r => X12_twice_K63 G Q x0 x1 r) (fun z x hb hx => X12_twice_b93_t G Q x0 x1 x2 x3 x4 z.1 z.2 x hb (by cases x <;> exact hx)) n z r h hK
def X12_twice_b63 (x0 : Nat) (x1 : Int32) (x2 : Int32) (x3 : Int32) (x4 : Int32) (hp : kw_H) : Option (((Int32 × Int32 × Int32 × kw_H) ⊕ (Int32 × kw_H))) :=
  (if (nI 6) ≤ x4 then
  (X12_twice_J151 hp x2).map (fun r => .inr (r))
else
  ((kp_ob hp x0 11).bind fun _ => X12_copyTown_F hp x0 (nI 0) (nI 1782)).bind fun r7 =>
  (kp_gR r7 x0 [11] 0).bind fun v8 =>
  (kp_stI r7 v8 ((nI 1788) + x1) x4).bind fun hp9 =>
  kp_lp (X12_twice_B93 x0 x1 x2 x3 x4) 2000 (nI 0, hp9))
set_option maxRecDepth 100000 in
set_option maxHeartbeats 4000000 in
theorem X12_twice_b63_t (G : kw_G) (Q : Option Value → kw_H → Prop) (x0 : Nat) (x1 : Int32) (x2 : Int32) (x3 : Int32) (x4 : Int32) (hp : kw_H) (r : ((Int32 × Int32 × Int32 × kw_H) ⊕ (Int32 × kw_H))) (h : X12_twice_b63 x0 x1 x2 x3 x4 hp = some r) (hK : X12_twice_K63 G Q x0 x1 r) : kw_V G mX12_twice 63 [some (.ref x0), some (.int x1), some (.int x2), some (.int x3), some (.int x4), none] [] hp Q := by
  unfold X12_twice_b63 at h
  refine kw_iload dX12_twice_63 rfl ?_
  refine kw_bipush (v := nI 6) dX12_twice_65 (by decide) ?_
  refine kw_icmp_ge 151 dX12_twice_67 (by decide) (fun c16 => ?_) (fun c16 => ?_)
  · have h := (if_pos c16).symm.trans h
    refine kw_mask [false, false, true, false, false, true] (L' := [none, none, some (.int x2), none, none, none]) rfl ?_
    obtain ⟨r6, hr6, hrr6⟩ := Option.map_eq_some_iff.mp h
    subst hrr6
    exact X12_twice_J151_t G Q hp x2 r6 hr6 hK
  · have h := (if_neg c16).symm.trans h
    refine kw_aload_n dX12_twice_70 rfl ?_
    refine kw_iconst (v := nI 0) dX12_twice_71 (by decide) ?_
    refine kw_sipush (v := nI 1782) dX12_twice_72 (by decide) ?_
    obtain ⟨r7, er7, h⟩ := Option.bind_eq_some_iff.mp h
    obtain ⟨ur7, eur7, er7⟩ := Option.bind_eq_some_iff.mp er7
    obtain ⟨fsr7, hor7⟩ := kp_ob_inv eur7
    refine kw_callV (As := [.int (nI 0), .int (nI 1782)]) (S := []) kcX12 cbX12_twice_X12_copyTown lkX12_128 imX12_copyTown seX12_X12_copyTown_X12_copyTown rfl rfl (Nat.le_of_ble_eq_true rfl) dX12_twice_75 hor7 (X12_copyTown_c G hp x0 (nI 0) (nI 1782) _ er7) (fun vv hh hq => ?_)
    rw [hq.1, hq.2]
    show kw_V G mX12_twice 78 [some (.ref x0), some (.int x1), some (.int x2), some (.int x3), some (.int x4), none] [] r7 Q
    refine kw_aload_n dX12_twice_78 rfl ?_
    obtain ⟨v8, ev8, h⟩ := Option.bind_eq_some_iff.mp h
    refine kv_gR gfX12_7 dX12_twice_79 ev8 ?_
    refine kw_sipush (v := nI 1788) dX12_twice_82 (by decide) ?_
    refine kw_iload_n dX12_twice_85 rfl ?_
    refine kw_iadd dX12_twice_86 ?_
    refine kw_iload dX12_twice_87 rfl ?_
    obtain ⟨hp9, ehp9, h⟩ := Option.bind_eq_some_iff.mp h
    refine kv_stI dX12_twice_89 ehp9 ?_
    refine kw_iconst (v := nI 0) dX12_twice_90 (by decide) ?_
    refine kw_istore (L' := [some (.ref x0), some (.int x1), some (.int x2), some (.int x3), some (.int x4), some (.int (nI 0))]) dX12_twice_91 (by decide) rfl ?_
    exact X12_twice_L93_t G Q x0 x1 x2 x3 x4 _ (nI 0, hp9) _ h hK
def X12_twice_B63 (x0 : Nat) (x1 : Int32) (z : Int32 × Int32 × Int32 × kw_H) : Option (((Int32 × Int32 × Int32 × kw_H) ⊕ (Int32 × kw_H))) := X12_twice_b63 x0 x1 z.1 z.2.1 z.2.2.1 z.2.2.2
theorem X12_twice_L63_t (G : kw_G) (Q : Option Value → kw_H → Prop) (x0 : Nat) (x1 : Int32) (n : Nat) (z : Int32 × Int32 × Int32 × kw_H) (r : Int32 × kw_H) (h : kp_lp (X12_twice_B63 x0 x1) n z = some r) (hK : Q (some (.int r.1)) r.2) : kw_V G mX12_twice 63 [some (.ref x0), some (.int x1), some (.int z.1), some (.int z.2.1), some (.int z.2.2.1), none] [] z.2.2.2 Q :=
  kv_lp _ (fun z => kw_V G mX12_twice 63 [some (.ref x0), some (.int x1), some (.int z.1), some (.int z.2.1), some (.int z.2.2.1), none] [] z.2.2.2 Q) (fun r => Q (some (.int r.1)) r.2) (fun z x hb hx => X12_twice_b63_t G Q x0 x1 z.1 z.2.1 z.2.2.1 z.2.2.2 x hb (by cases x <;> exact hx)) n z r h hK
def X12_twice_J42 (hp : kw_H) (x0 : Nat) (x1 : Int32) : Option (Int32 × kw_H) :=
  (kp_gR hp x0 [11] 0).bind fun v4 =>
  (kp_ldI hp v4 (nI 0)).bind fun v5 =>
  (if x1 = v5 then
  some (((-1000000), hp))
else
  kp_lp (X12_twice_B63 x0 x1) 2000 (nI 0, nI 1000000, nI 0, hp))
set_option maxRecDepth 100000 in
set_option maxHeartbeats 4000000 in
theorem X12_twice_J42_t (G : kw_G) (Q : Option Value → kw_H → Prop) (hp : kw_H) (x0 : Nat) (x1 : Int32) (r : Int32 × kw_H) (h : X12_twice_J42 hp x0 x1 = some r) (hK : Q (some (.int r.1)) r.2) : kw_V G mX12_twice 42 [some (.ref x0), some (.int x1), none, none, none, none] [] hp Q := by
  unfold X12_twice_J42 at h
  refine kw_iload_n dX12_twice_42 rfl ?_
  refine kw_aload_n dX12_twice_43 rfl ?_
  obtain ⟨v4, ev4, h⟩ := Option.bind_eq_some_iff.mp h
  refine kv_gR gfX12_7 dX12_twice_44 ev4 ?_
  refine kw_iconst (v := nI 0) dX12_twice_47 (by decide) ?_
  obtain ⟨v5, ev5, h⟩ := Option.bind_eq_some_iff.mp h
  refine kv_ldI dX12_twice_48 ev5 ?_
  refine kw_icmp_ne 55 dX12_twice_49 (by decide) (fun c17 => ?_) (fun c17 => ?_)
  · have h := (if_neg c17).symm.trans h
    refine kw_iconst (v := nI 0) dX12_twice_55 (by decide) ?_
    refine kw_istore_n (L' := [some (.ref x0), some (.int x1), some (.int (nI 0)), none, none, none]) dX12_twice_56 (by decide) rfl ?_
    refine kw_ldc (v := nI 1000000) dX12_twice_57 ckX12_203 ?_
    refine kw_istore_n (L' := [some (.ref x0), some (.int x1), some (.int (nI 0)), some (.int (nI 1000000)), none, none]) dX12_twice_59 (by decide) rfl ?_
    refine kw_iconst (v := nI 0) dX12_twice_60 (by decide) ?_
    refine kw_istore (L' := [some (.ref x0), some (.int x1), some (.int (nI 0)), some (.int (nI 1000000)), some (.int (nI 0)), none]) dX12_twice_61 (by decide) rfl ?_
    exact X12_twice_L63_t G Q x0 x1 _ (nI 0, nI 1000000, nI 0, hp) _ h hK
  · have h := (if_pos c17).symm.trans h
    refine kw_ldc (v := (-1000000)) dX12_twice_52 ckX12_99 ?_
    have h := Option.some.inj h
    subst h
    exact kw_iret rfl dX12_twice_54 hK
def X12_twice_b12 (hp : kw_H) (x0 : Nat) (x1 : Int32) : Option (((Int32) ⊕ (Int32 × kw_H))) :=
  (kp_gR hp x0 [11] 0).bind fun v2 =>
  (kp_ldI hp v2 (nI 0)).bind fun v3 =>
  (if v3 ≤ x1 then
  (X12_twice_J42 hp x0 x1).map (fun r => .inr (r))
else
  (kp_gR hp x0 [11] 0).bind fun v19 =>
  (kp_ldI hp v19 ((nI 6) + x1)).bind fun v20 =>
  (if v20 = (nI 6) then
  (X12_twice_J42 hp x0 x1).map (fun r => .inr (r))
else
  some (.inl (x1 + (nI 1)))))
set_option maxRecDepth 100000 in
set_option maxHeartbeats 4000000 in
theorem X12_twice_b12_t (G : kw_G) (Q : Option Value → kw_H → Prop) (hp : kw_H) (x0 : Nat) (x1 : Int32) (r : ((Int32) ⊕ (Int32 × kw_H))) (h : X12_twice_b12 hp x0 x1 = some r) (hK : X12_twice_K12 G Q hp x0 r) : kw_V G mX12_twice 12 [some (.ref x0), some (.int x1), none, none, none, none] [] hp Q := by
  unfold X12_twice_b12 at h
  refine kw_iload_n dX12_twice_12 rfl ?_
  refine kw_aload_n dX12_twice_13 rfl ?_
  obtain ⟨v2, ev2, h⟩ := Option.bind_eq_some_iff.mp h
  refine kv_gR gfX12_7 dX12_twice_14 ev2 ?_
  refine kw_iconst (v := nI 0) dX12_twice_17 (by decide) ?_
  obtain ⟨v3, ev3, h⟩ := Option.bind_eq_some_iff.mp h
  refine kv_ldI dX12_twice_18 ev3 ?_
  refine kw_icmp_ge 42 dX12_twice_19 (by decide) (fun c23 => ?_) (fun c23 => ?_)
  · have h := (if_pos c23).symm.trans h
    obtain ⟨r18, hr18, hrr18⟩ := Option.map_eq_some_iff.mp h
    subst hrr18
    exact X12_twice_J42_t G Q hp x0 x1 r18 hr18 hK
  · have h := (if_neg c23).symm.trans h
    refine kw_aload_n dX12_twice_22 rfl ?_
    obtain ⟨v19, ev19, h⟩ := Option.bind_eq_some_iff.mp h
    refine kv_gR gfX12_7 dX12_twice_23 ev19 ?_
    refine kw_bipush (v := nI 6) dX12_twice_26 (by decide) ?_
    refine kw_iload_n dX12_twice_28 rfl ?_
    refine kw_iadd dX12_twice_29 ?_
    obtain ⟨v20, ev20, h⟩ := Option.bind_eq_some_iff.mp h
    refine kv_ldI dX12_twice_30 ev20 ?_
    refine kw_bipush (v := nI 6) dX12_twice_31 (by decide) ?_
    refine kw_icmp_eq 42 dX12_twice_33 (by decide) (fun c22 => ?_) (fun c22 => ?_)
    · have h := (if_pos c22).symm.trans h
      obtain ⟨r21, hr21, hrr21⟩ := Option.map_eq_some_iff.mp h
      subst hrr21
      exact X12_twice_J42_t G Q hp x0 x1 r21 hr21 hK
    · have h := (if_neg c22).symm.trans h
      refine kv_iinc (w := nI 1) (L' := [some (.ref x0), some (.int (x1 + (nI 1))), none, none, none, none]) dX12_twice_36 (by decide) rfl (by decide) rfl ?_
      refine kw_goto 12 dX12_twice_39 (by decide) ?_
      have h := Option.some.inj h
      subst h
      exact hK
def X12_twice_B12 (hp : kw_H) (x0 : Nat) (z : Int32) : Option (((Int32) ⊕ (Int32 × kw_H))) := X12_twice_b12 hp x0 z
theorem X12_twice_L12_t (G : kw_G) (Q : Option Value → kw_H → Prop) (hp : kw_H) (x0 : Nat) (n : Nat) (z : Int32) (r : Int32 × kw_H) (h : kp_lp (X12_twice_B12 hp x0) n z = some r) (hK : Q (some (.int r.1)) r.2) : kw_V G mX12_twice 12 [some (.ref x0), some (.int z), none, none, none, none] [] hp Q :=
  kv_lp _ (fun z => kw_V G mX12_twice 12 [some (.ref x0), some (.int z), none, none, none, none] [] hp Q) (fun r => Q (some (.int r.1)) r.2) (fun z x hb hx => X12_twice_b12_t G Q hp x0 z x hb (by cases x <;> exact hx)) n z r h hK
def X12_twice_F (hp : kw_H) (x0 : Nat) : Option (Int32 × kw_H) :=
  (kp_gI hp x0 [11] 1).bind fun v1 =>
  (if v1 = 0 then
  some (((-1000002), hp))
else
  kp_lp (X12_twice_B12 hp x0) 2000 (nI 0))
set_option maxRecDepth 100000 in
set_option maxHeartbeats 4000000 in
theorem X12_twice_c (G : kw_G) (hp : kw_H) (x0 : Nat) (r : Int32 × kw_H) (h : X12_twice_F hp x0 = some r) : kw_Met G mX12_twice [.ref x0] hp (fun v h2 => v = some (.int r.1) ∧ h2 = r.2) := by
  refine kw_met (L := [some (.ref x0), none, none, none, none, none]) (r := 5) (by decide +kernel) (Nat.le_of_ble_eq_true rfl) rfl ?_
  unfold X12_twice_F at h
  obtain ⟨Q, hQ⟩ : ∃ Q : Option Value → kw_H → Prop, Q = (fun v h2 => v = some (.int r.1) ∧ h2 = r.2) := ⟨_, rfl⟩
  have hK : Q (some (.int r.1)) r.2 := by rw [hQ]; exact ⟨rfl, rfl⟩
  rw [← hQ]
  clear hQ
  refine kw_aload_n dX12_twice_0 rfl ?_
  obtain ⟨v1, ev1, h⟩ := Option.bind_eq_some_iff.mp h
  refine kv_gI gfX12_132 dX12_twice_1 ev1 ?_
  refine kw_if_ne 10 dX12_twice_4 (by decide) (fun c24 => ?_) (fun c24 => ?_)
  · have h := (if_neg c24).symm.trans h
    refine kw_iconst (v := nI 0) dX12_twice_10 (by decide) ?_
    refine kw_istore_n (L' := [some (.ref x0), some (.int (nI 0)), none, none, none, none]) dX12_twice_11 (by decide) rfl ?_
    exact X12_twice_L12_t G Q hp x0 _ (nI 0) _ h hK
  · have h := (if_pos c24).symm.trans h
    refine kw_ldc (v := (-1000002)) dX12_twice_7 ckX12_139 ?_
    have h := Option.some.inj h
    subst h
    exact kw_iret rfl dX12_twice_9 hK
/-! KitchenWheelsModel.noItems(III)I -/
def X12_noItems_F (hp : kw_H) (x0 : Nat) (x1 : Int32) (x2 : Int32) (x3 : Int32) : Option (Int32 × kw_H) :=
  (kp_gR hp x0 [11] 5).bind fun v1 =>
  (kp_ldI hp v1 x1).bind fun v2 =>
  (if 0 ≤ v2 then
  ((kp_ob hp x0 11).bind fun _ => X12_isSpan_F hp x0 x1 x2 x3).bind fun r3 =>
  (if r3 = 0 then
  ((kp_ob hp x0 11).bind fun _ => X12_find_F hp x0 (nI 2)).bind fun r4 =>
  some ((r4.1, r4.2))
else
  some ((nI 0, hp)))
else
  ((kp_ob hp x0 11).bind fun _ => X12_find_F hp x0 (nI 1)).bind fun r6 =>
  some ((r6.1, r6.2)))
set_option maxRecDepth 100000 in
set_option maxHeartbeats 4000000 in
theorem X12_noItems_c (G : kw_G) (hp : kw_H) (x0 : Nat) (x1 : Int32) (x2 : Int32) (x3 : Int32) (r : Int32 × kw_H) (h : X12_noItems_F hp x0 x1 x2 x3 = some r) : kw_Met G mX12_noItems [.ref x0, .int x1, .int x2, .int x3] hp (fun v h2 => v = some (.int r.1) ∧ h2 = r.2) := by
  refine kw_met (L := [some (.ref x0), some (.int x1), some (.int x2), some (.int x3)]) (r := 0) (by decide +kernel) (Nat.le_of_ble_eq_true rfl) rfl ?_
  unfold X12_noItems_F at h
  obtain ⟨Q, hQ⟩ : ∃ Q : Option Value → kw_H → Prop, Q = (fun v h2 => v = some (.int r.1) ∧ h2 = r.2) := ⟨_, rfl⟩
  have hK : Q (some (.int r.1)) r.2 := by rw [hQ]; exact ⟨rfl, rfl⟩
  rw [← hQ]
  clear hQ
  refine kw_aload_n dX12_noItems_0 rfl ?_
  obtain ⟨v1, ev1, h⟩ := Option.bind_eq_some_iff.mp h
  refine kv_gR gfX12_20 dX12_noItems_1 ev1 ?_
  refine kw_iload_n dX12_noItems_4 rfl ?_
  obtain ⟨v2, ev2, h⟩ := Option.bind_eq_some_iff.mp h
  refine kv_ldI dX12_noItems_5 ev2 ?_
  refine kw_if_ge 17 dX12_noItems_6 (by decide) (fun c7 => ?_) (fun c7 => ?_)
  · have h := (if_pos c7).symm.trans h
    refine kw_aload_n dX12_noItems_17 rfl ?_
    refine kw_iload_n dX12_noItems_18 rfl ?_
    refine kw_iload_n dX12_noItems_19 rfl ?_
    refine kw_iload_n dX12_noItems_20 rfl ?_
    obtain ⟨r3, er3, h⟩ := Option.bind_eq_some_iff.mp h
    obtain ⟨ur3, eur3, er3⟩ := Option.bind_eq_some_iff.mp er3
    obtain ⟨fsr3, hor3⟩ := kp_ob_inv eur3
    refine kw_callV (As := [.int x1, .int x2, .int x3]) (S := []) kcX12 cbX12_noItems_X12_isSpan lkX12_64 imX12_isSpan seX12_X12_isSpan_X12_isSpan rfl rfl (Nat.le_of_ble_eq_true rfl) dX12_noItems_21 hor3 (X12_isSpan_c G hp x0 x1 x2 x3 _ er3) (fun vv hh hq => ?_)
    rw [hq.1, hq.2]
    show kw_V G mX12_noItems 24 [some (.ref x0), some (.int x1), some (.int x2), some (.int x3)] [.int r3] hp Q
    refine kw_if_eq 31 dX12_noItems_24 (by decide) (fun c5 => ?_) (fun c5 => ?_)
    · have h := (if_pos c5).symm.trans h
      refine kw_aload_n dX12_noItems_31 rfl ?_
      refine kw_iconst (v := nI 2) dX12_noItems_32 (by decide) ?_
      obtain ⟨r4, er4, h⟩ := Option.bind_eq_some_iff.mp h
      obtain ⟨ur4, eur4, er4⟩ := Option.bind_eq_some_iff.mp er4
      obtain ⟨fsr4, hor4⟩ := kp_ob_inv eur4
      refine kw_callV (As := [.int (nI 2)]) (S := []) kcX12 cbX12_noItems_X12_find lkX12_53 imX12_find seX12_X12_find_X12_find rfl rfl (Nat.le_of_ble_eq_true rfl) dX12_noItems_33 hor4 (X12_find_c G hp x0 (nI 2) _ er4) (fun vv hh hq => ?_)
      rw [hq.1, hq.2]
      show kw_V G mX12_noItems 36 [some (.ref x0), some (.int x1), some (.int x2), some (.int x3)] [.int r4.1] r4.2 Q
      have h := Option.some.inj h
      subst h
      exact kw_iret rfl dX12_noItems_36 hK
    · have h := (if_neg c5).symm.trans h
      refine kw_iconst (v := nI 0) dX12_noItems_27 (by decide) ?_
      refine kw_goto 36 dX12_noItems_28 (by decide) ?_
      have h := Option.some.inj h
      subst h
      exact kw_iret rfl dX12_noItems_36 hK
  · have h := (if_neg c7).symm.trans h
    refine kw_aload_n dX12_noItems_9 rfl ?_
    refine kw_iconst (v := nI 1) dX12_noItems_10 (by decide) ?_
    obtain ⟨r6, er6, h⟩ := Option.bind_eq_some_iff.mp h
    obtain ⟨ur6, eur6, er6⟩ := Option.bind_eq_some_iff.mp er6
    obtain ⟨fsr6, hor6⟩ := kp_ob_inv eur6
    refine kw_callV (As := [.int (nI 1)]) (S := []) kcX12 cbX12_noItems_X12_find lkX12_53 imX12_find seX12_X12_find_X12_find rfl rfl (Nat.le_of_ble_eq_true rfl) dX12_noItems_11 hor6 (X12_find_c G hp x0 (nI 1) _ er6) (fun vv hh hq => ?_)
    rw [hq.1, hq.2]
    show kw_V G mX12_noItems 14 [some (.ref x0), some (.int x1), some (.int x2), some (.int x3)] [.int r6.1] r6.2 Q
    refine kw_goto 36 dX12_noItems_14 (by decide) ?_
    have h := Option.some.inj h
    subst h
    exact kw_iret rfl dX12_noItems_36 hK
/-! KitchenWheelsModel.firstDoer(I)I -/
def X12_firstDoer_K8 (G : kw_G) (Q : Option Value → kw_H → Prop) (hp : kw_H) (x2 : Int32) (r : (Int32) ⊕ (Int32)) : Prop := match r with
  | .inl z => kw_V G mX12_firstDoer 8 [none, none, some (.int x2), some (.int z)] [] hp Q
  | .inr r => Q (some (.int r)) hp
def X12_firstDoer_J30 (hp : kw_H) : Option (Int32) :=
  some ((-1))
set_option maxRecDepth 100000 in
set_option maxHeartbeats 4000000 in
theorem X12_firstDoer_J30_t (G : kw_G) (Q : Option Value → kw_H → Prop) (hp : kw_H) (r : Int32) (h : X12_firstDoer_J30 hp = some r) (hK : Q (some (.int r)) hp) : kw_V G mX12_firstDoer 30 [none, none, none, none] [] hp Q := by
  unfold X12_firstDoer_J30 at h
  refine kw_iconst (v := (-1)) dX12_firstDoer_30 (by decide) ?_
  have h := Option.some.inj h
  subst h
  exact kw_iret rfl dX12_firstDoer_31 hK
def X12_firstDoer_J22 (hp : kw_H) (x3 : Int32) : Option (Int32) :=
  some (x3)
set_option maxRecDepth 100000 in
set_option maxHeartbeats 4000000 in
theorem X12_firstDoer_J22_t (G : kw_G) (Q : Option Value → kw_H → Prop) (hp : kw_H) (x3 : Int32) (r : Int32) (h : X12_firstDoer_J22 hp x3 = some r) (hK : Q (some (.int r)) hp) : kw_V G mX12_firstDoer 22 [none, none, none, some (.int x3)] [] hp Q := by
  unfold X12_firstDoer_J22 at h
  refine kw_iload_n dX12_firstDoer_22 rfl ?_
  have h := Option.some.inj h
  subst h
  exact kw_iret rfl dX12_firstDoer_23 hK
def X12_firstDoer_b8 (hp : kw_H) (x2 : Int32) (x3 : Int32) : Option (((Int32) ⊕ (Int32))) :=
  (if (nI 6) ≤ x3 then
  (X12_firstDoer_J30 hp).map (fun r => .inr (r))
else
  (X12_has_F hp x2 x3).bind fun r3 =>
  (if r3 = 0 then
  some (.inl (x3 + (nI 1)))
else
  (X12_firstDoer_J22 hp x3).map (fun r => .inr (r))))
set_option maxRecDepth 100000 in
set_option maxHeartbeats 4000000 in
theorem X12_firstDoer_b8_t (G : kw_G) (Q : Option Value → kw_H → Prop) (hp : kw_H) (x2 : Int32) (x3 : Int32) (r : ((Int32) ⊕ (Int32))) (h : X12_firstDoer_b8 hp x2 x3 = some r) (hK : X12_firstDoer_K8 G Q hp x2 r) : kw_V G mX12_firstDoer 8 [none, none, some (.int x2), some (.int x3)] [] hp Q := by
  unfold X12_firstDoer_b8 at h
  refine kw_iload_n dX12_firstDoer_8 rfl ?_
  refine kw_bipush (v := nI 6) dX12_firstDoer_9 (by decide) ?_
  refine kw_icmp_ge 30 dX12_firstDoer_11 (by decide) (fun c6 => ?_) (fun c6 => ?_)
  · have h := (if_pos c6).symm.trans h
    refine kw_mask [true, true, false, false] (L' := [none, none, none, none]) rfl ?_
    obtain ⟨r2, hr2, hrr2⟩ := Option.map_eq_some_iff.mp h
    subst hrr2
    exact X12_firstDoer_J30_t G Q hp r2 hr2 hK
  · have h := (if_neg c6).symm.trans h
    refine kw_iload_n dX12_firstDoer_14 rfl ?_
    refine kw_iload_n dX12_firstDoer_15 rfl ?_
    obtain ⟨r3, er3, h⟩ := Option.bind_eq_some_iff.mp h
    refine kw_callS (As := [.int x2, .int x3]) (S := []) cbX12_firstDoer_X12_has lkX12_148 stX12_has rfl rfl (Nat.le_of_ble_eq_true rfl) dX12_firstDoer_16 (X12_has_c G hp x2 x3 _ er3) (fun vv hh hq => ?_)
    rw [hq.1, hq.2]
    show kw_V G mX12_firstDoer 19 [none, none, some (.int x2), some (.int x3)] [.int r3] hp Q
    refine kw_if_eq 24 dX12_firstDoer_19 (by decide) (fun c5 => ?_) (fun c5 => ?_)
    · have h := (if_pos c5).symm.trans h
      refine kv_iinc (w := nI 1) (L' := [none, none, some (.int x2), some (.int (x3 + (nI 1)))]) dX12_firstDoer_24 (by decide) rfl (by decide) rfl ?_
      refine kw_goto 8 dX12_firstDoer_27 (by decide) ?_
      have h := Option.some.inj h
      subst h
      exact hK
    · have h := (if_neg c5).symm.trans h
      refine kw_mask [true, true, false, true] (L' := [none, none, none, some (.int x3)]) rfl ?_
      obtain ⟨r4, hr4, hrr4⟩ := Option.map_eq_some_iff.mp h
      subst hrr4
      exact X12_firstDoer_J22_t G Q hp x3 r4 hr4 hK
def X12_firstDoer_B8 (hp : kw_H) (x2 : Int32) (z : Int32) : Option (((Int32) ⊕ (Int32))) := X12_firstDoer_b8 hp x2 z
theorem X12_firstDoer_L8_t (G : kw_G) (Q : Option Value → kw_H → Prop) (hp : kw_H) (x2 : Int32) (n : Nat) (z : Int32) (r : Int32) (h : kp_lp (X12_firstDoer_B8 hp x2) n z = some r) (hK : Q (some (.int r)) hp) : kw_V G mX12_firstDoer 8 [none, none, some (.int x2), some (.int z)] [] hp Q :=
  kv_lp _ (fun z => kw_V G mX12_firstDoer 8 [none, none, some (.int x2), some (.int z)] [] hp Q) (fun r => Q (some (.int r)) hp) (fun z x hb hx => X12_firstDoer_b8_t G Q hp x2 z x hb (by cases x <;> exact hx)) n z r h hK
def X12_firstDoer_F (hp : kw_H) (x0 : Nat) (x1 : Int32) : Option (Int32) :=
  ((kp_ob hp x0 11).bind fun _ => X12_doersTried_F hp x0 x1).bind fun r1 =>
  kp_lp (X12_firstDoer_B8 hp r1) 2000 (nI 0)
set_option maxRecDepth 100000 in
set_option maxHeartbeats 4000000 in
theorem X12_firstDoer_c (G : kw_G) (hp : kw_H) (x0 : Nat) (x1 : Int32) (r : Int32) (h : X12_firstDoer_F hp x0 x1 = some r) : kw_Met G mX12_firstDoer [.ref x0, .int x1] hp (fun v h2 => v = some (.int r) ∧ h2 = hp) := by
  refine kw_met (L := [some (.ref x0), some (.int x1), none, none]) (r := 2) (by decide +kernel) (Nat.le_of_ble_eq_true rfl) rfl ?_
  unfold X12_firstDoer_F at h
  obtain ⟨Q, hQ⟩ : ∃ Q : Option Value → kw_H → Prop, Q = (fun v h2 => v = some (.int r) ∧ h2 = hp) := ⟨_, rfl⟩
  have hK : Q (some (.int r)) hp := by rw [hQ]; exact ⟨rfl, rfl⟩
  rw [← hQ]
  clear hQ
  refine kw_aload_n dX12_firstDoer_0 rfl ?_
  refine kw_iload_n dX12_firstDoer_1 rfl ?_
  obtain ⟨r1, er1, h⟩ := Option.bind_eq_some_iff.mp h
  obtain ⟨ur1, eur1, er1⟩ := Option.bind_eq_some_iff.mp er1
  obtain ⟨fsr1, hor1⟩ := kp_ob_inv eur1
  refine kw_callV (As := [.int x1]) (S := []) kcX12 cbX12_firstDoer_X12_doersTried lkX12_194 imX12_doersTried seX12_X12_doersTried_X12_doersTried rfl rfl (Nat.le_of_ble_eq_true rfl) dX12_firstDoer_2 hor1 (X12_doersTried_c G hp x0 x1 _ er1) (fun vv hh hq => ?_)
  rw [hq.1, hq.2]
  show kw_V G mX12_firstDoer 5 [some (.ref x0), some (.int x1), none, none] [.int r1] hp Q
  refine kw_istore_n (L' := [some (.ref x0), some (.int x1), some (.int r1), none]) dX12_firstDoer_5 (by decide) rfl ?_
  refine kw_iconst (v := nI 0) dX12_firstDoer_6 (by decide) ?_
  refine kw_istore_n (L' := [some (.ref x0), some (.int x1), some (.int r1), some (.int (nI 0))]) dX12_firstDoer_7 (by decide) rfl ?_
  refine kw_mask [false, false, true, true] (L' := [none, none, some (.int r1), some (.int (nI 0))]) rfl ?_
  exact X12_firstDoer_L8_t G Q hp r1 _ (nI 0) _ h hK
/-! KitchenWheelsModel.isSeenSo(IIIII)Z -/
def X12_isSeenSo_K17 (G : kw_G) (Q : Option Value → kw_H → Prop) (x0 : Nat) (x1 : Int32) (x3 : Int32) (x4 : Int32) (x5 : Int32) (r : (Int32 × kw_H) ⊕ (Int32 × kw_H)) : Prop := match r with
  | .inl z => kw_V G mX12_isSeenSo 17 [some (.ref x0), some (.int x1), none, some (.int x3), some (.int x4), some (.int x5), some (.int z.1)] [] z.2 Q
  | .inr r => Q (some (.int r.1)) r.2
def X12_isSeenSo_J62 (hp : kw_H) : Option (Int32 × kw_H) :=
  some ((nI 1, hp))
set_option maxRecDepth 100000 in
set_option maxHeartbeats 4000000 in
theorem X12_isSeenSo_J62_t (G : kw_G) (Q : Option Value → kw_H → Prop) (hp : kw_H) (r : Int32 × kw_H) (h : X12_isSeenSo_J62 hp = some r) (hK : Q (some (.int r.1)) r.2) : kw_V G mX12_isSeenSo 62 [none, none, none, none, none, none, none] [] hp Q := by
  unfold X12_isSeenSo_J62 at h
  refine kw_iconst (v := nI 1) dX12_isSeenSo_62 (by decide) ?_
  have h := Option.some.inj h
  subst h
  exact kw_zret rfl (Or.inr rfl) dX12_isSeenSo_63 hK
def X12_isSeenSo_J47 (hp : kw_H) : Option (Int32 × kw_H) :=
  some ((nI 0, hp))
set_option maxRecDepth 100000 in
set_option maxHeartbeats 4000000 in
theorem X12_isSeenSo_J47_t (G : kw_G) (Q : Option Value → kw_H → Prop) (hp : kw_H) (r : Int32 × kw_H) (h : X12_isSeenSo_J47 hp = some r) (hK : Q (some (.int r.1)) r.2) : kw_V G mX12_isSeenSo 47 [none, none, none, none, none, none, none] [] hp Q := by
  unfold X12_isSeenSo_J47 at h
  refine kw_iconst (v := nI 0) dX12_isSeenSo_47 (by decide) ?_
  have h := Option.some.inj h
  subst h
  exact kw_zret rfl (Or.inl rfl) dX12_isSeenSo_48 hK
def X12_isSeenSo_b17 (x0 : Nat) (x1 : Int32) (x3 : Int32) (x4 : Int32) (x5 : Int32) (x6 : Int32) (hp : kw_H) : Option (((Int32 × kw_H) ⊕ (Int32 × kw_H))) :=
  (if x5 ≤ x6 then
  (X12_isSeenSo_J62 hp).map (fun r => .inr (r))
else
  ((kp_ob hp x0 11).bind fun _ => X12_firstDoer_F hp x0 x1).bind fun r5 =>
  (kp_gR hp x0 [11] 6).bind fun v6 =>
  (kp_ldI hp v6 ((((nI 40) * x3) + x4) + x6)).bind fun v7 =>
  (if r5 = v7 then
  ((kp_ob hp x0 11).bind fun _ => X12_passAsTold_F hp x0 (nI 1782)).bind fun r8 =>
  some (.inl (x6 + (nI 1), r8))
else
  (X12_isSeenSo_J47 hp).map (fun r => .inr (r))))
set_option maxRecDepth 100000 in
set_option maxHeartbeats 4000000 in
theorem X12_isSeenSo_b17_t (G : kw_G) (Q : Option Value → kw_H → Prop) (x0 : Nat) (x1 : Int32) (x3 : Int32) (x4 : Int32) (x5 : Int32) (x6 : Int32) (hp : kw_H) (r : ((Int32 × kw_H) ⊕ (Int32 × kw_H))) (h : X12_isSeenSo_b17 x0 x1 x3 x4 x5 x6 hp = some r) (hK : X12_isSeenSo_K17 G Q x0 x1 x3 x4 x5 r) : kw_V G mX12_isSeenSo 17 [some (.ref x0), some (.int x1), none, some (.int x3), some (.int x4), some (.int x5), some (.int x6)] [] hp Q := by
  unfold X12_isSeenSo_b17 at h
  refine kw_iload dX12_isSeenSo_17 rfl ?_
  refine kw_iload dX12_isSeenSo_19 rfl ?_
  refine kw_icmp_ge 62 dX12_isSeenSo_21 (by decide) (fun c11 => ?_) (fun c11 => ?_)
  · have h := (if_pos c11).symm.trans h
    refine kw_mask [false, false, true, false, false, false, false] (L' := [none, none, none, none, none, none, none]) rfl ?_
    obtain ⟨r4, hr4, hrr4⟩ := Option.map_eq_some_iff.mp h
    subst hrr4
    exact X12_isSeenSo_J62_t G Q hp r4 hr4 hK
  · have h := (if_neg c11).symm.trans h
    refine kw_aload_n dX12_isSeenSo_24 rfl ?_
    refine kw_iload_n dX12_isSeenSo_25 rfl ?_
    obtain ⟨r5, er5, h⟩ := Option.bind_eq_some_iff.mp h
    obtain ⟨ur5, eur5, er5⟩ := Option.bind_eq_some_iff.mp er5
    obtain ⟨fsr5, hor5⟩ := kp_ob_inv eur5
    refine kw_callV (As := [.int x1]) (S := []) kcX12 cbX12_isSeenSo_X12_firstDoer lkX12_215 imX12_firstDoer seX12_X12_firstDoer_X12_firstDoer rfl rfl (Nat.le_of_ble_eq_true rfl) dX12_isSeenSo_26 hor5 (X12_firstDoer_c G hp x0 x1 _ er5) (fun vv hh hq => ?_)
    rw [hq.1, hq.2]
    show kw_V G mX12_isSeenSo 29 [some (.ref x0), some (.int x1), none, some (.int x3), some (.int x4), some (.int x5), some (.int x6)] [.int r5] hp Q
    refine kw_aload_n dX12_isSeenSo_29 rfl ?_
    obtain ⟨v6, ev6, h⟩ := Option.bind_eq_some_iff.mp h
    refine kv_gR gfX12_23 dX12_isSeenSo_30 ev6 ?_
    refine kw_bipush (v := nI 40) dX12_isSeenSo_33 (by decide) ?_
    refine kw_iload_n dX12_isSeenSo_35 rfl ?_
    refine kw_imul dX12_isSeenSo_36 ?_
    refine kw_iload dX12_isSeenSo_37 rfl ?_
    refine kw_iadd dX12_isSeenSo_39 ?_
    refine kw_iload dX12_isSeenSo_40 rfl ?_
    refine kw_iadd dX12_isSeenSo_42 ?_
    obtain ⟨v7, ev7, h⟩ := Option.bind_eq_some_iff.mp h
    refine kv_ldI dX12_isSeenSo_43 ev7 ?_
    refine kw_icmp_eq 49 dX12_isSeenSo_44 (by decide) (fun c10 => ?_) (fun c10 => ?_)
    · have h := (if_pos c10).symm.trans h
      refine kw_aload_n dX12_isSeenSo_49 rfl ?_
      refine kw_sipush (v := nI 1782) dX12_isSeenSo_50 (by decide) ?_
      obtain ⟨r8, er8, h⟩ := Option.bind_eq_some_iff.mp h
      obtain ⟨ur8, eur8, er8⟩ := Option.bind_eq_some_iff.mp er8
      obtain ⟨fsr8, hor8⟩ := kp_ob_inv eur8
      refine kw_callV (As := [.int (nI 1782)]) (S := []) kcX12 cbX12_isSeenSo_X12_passAsTold lkX12_167 imX12_passAsTold seX12_X12_passAsTold_X12_passAsTold rfl rfl (Nat.le_of_ble_eq_true rfl) dX12_isSeenSo_53 hor8 (X12_passAsTold_c G hp x0 (nI 1782) _ er8) (fun vv hh hq => ?_)
      rw [hq.1, hq.2]
      show kw_V G mX12_isSeenSo 56 [some (.ref x0), some (.int x1), none, some (.int x3), some (.int x4), some (.int x5), some (.int x6)] [] r8 Q
      refine kv_iinc (w := nI 1) (L' := [some (.ref x0), some (.int x1), none, some (.int x3), some (.int x4), some (.int x5), some (.int (x6 + (nI 1)))]) dX12_isSeenSo_56 (by decide) rfl (by decide) rfl ?_
      refine kw_goto 17 dX12_isSeenSo_59 (by decide) ?_
      have h := Option.some.inj h
      subst h
      exact hK
    · have h := (if_neg c10).symm.trans h
      refine kw_mask [false, false, true, false, false, false, false] (L' := [none, none, none, none, none, none, none]) rfl ?_
      obtain ⟨r9, hr9, hrr9⟩ := Option.map_eq_some_iff.mp h
      subst hrr9
      exact X12_isSeenSo_J47_t G Q hp r9 hr9 hK
def X12_isSeenSo_B17 (x0 : Nat) (x1 : Int32) (x3 : Int32) (x4 : Int32) (x5 : Int32) (z : Int32 × kw_H) : Option (((Int32 × kw_H) ⊕ (Int32 × kw_H))) := X12_isSeenSo_b17 x0 x1 x3 x4 x5 z.1 z.2
theorem X12_isSeenSo_L17_t (G : kw_G) (Q : Option Value → kw_H → Prop) (x0 : Nat) (x1 : Int32) (x3 : Int32) (x4 : Int32) (x5 : Int32) (n : Nat) (z : Int32 × kw_H) (r : Int32 × kw_H) (h : kp_lp (X12_isSeenSo_B17 x0 x1 x3 x4 x5) n z = some r) (hK : Q (some (.int r.1)) r.2) : kw_V G mX12_isSeenSo 17 [some (.ref x0), some (.int x1), none, some (.int x3), some (.int x4), some (.int x5), some (.int z.1)] [] z.2 Q :=
  kv_lp _ (fun z => kw_V G mX12_isSeenSo 17 [some (.ref x0), some (.int x1), none, some (.int x3), some (.int x4), some (.int x5), some (.int z.1)] [] z.2 Q) (fun r => Q (some (.int r.1)) r.2) (fun z x hb hx => X12_isSeenSo_b17_t G Q x0 x1 x3 x4 x5 z.1 z.2 x hb (by cases x <;> exact hx)) n z r h hK
def X12_isSeenSo_F (hp : kw_H) (x0 : Nat) (x1 : Int32) (x2 : Int32) (x3 : Int32) (x4 : Int32) (x5 : Int32) : Option (Int32 × kw_H) :=
  ((kp_ob hp x0 11).bind fun _ => X12_layTried_F hp x0 (nI 0)).bind fun r1 =>
  (kp_gR r1 x0 [11] 0).bind fun v2 =>
  (kp_stI r1 v2 (nI 1786) x2).bind fun hp3 =>
  kp_lp (X12_isSeenSo_B17 x0 x1 x3 x4 x5) 2000 (nI 0, hp3)
set_option maxRecDepth 100000 in
set_option maxHeartbeats 4000000 in
theorem X12_isSeenSo_c (G : kw_G) (hp : kw_H) (x0 : Nat) (x1 : Int32) (x2 : Int32) (x3 : Int32) (x4 : Int32) (x5 : Int32) (r : Int32 × kw_H) (h : X12_isSeenSo_F hp x0 x1 x2 x3 x4 x5 = some r) : kw_Met G mX12_isSeenSo [.ref x0, .int x1, .int x2, .int x3, .int x4, .int x5] hp (fun v h2 => v = some (.int r.1) ∧ h2 = r.2) := by
  refine kw_met (L := [some (.ref x0), some (.int x1), some (.int x2), some (.int x3), some (.int x4), some (.int x5), none]) (r := 1) (by decide +kernel) (Nat.le_of_ble_eq_true rfl) rfl ?_
  unfold X12_isSeenSo_F at h
  obtain ⟨Q, hQ⟩ : ∃ Q : Option Value → kw_H → Prop, Q = (fun v h2 => v = some (.int r.1) ∧ h2 = r.2) := ⟨_, rfl⟩
  have hK : Q (some (.int r.1)) r.2 := by rw [hQ]; exact ⟨rfl, rfl⟩
  rw [← hQ]
  clear hQ
  refine kw_aload_n dX12_isSeenSo_0 rfl ?_
  refine kw_iconst (v := nI 0) dX12_isSeenSo_1 (by decide) ?_
  obtain ⟨r1, er1, h⟩ := Option.bind_eq_some_iff.mp h
  obtain ⟨ur1, eur1, er1⟩ := Option.bind_eq_some_iff.mp er1
  obtain ⟨fsr1, hor1⟩ := kp_ob_inv eur1
  refine kw_callV (As := [.int (nI 0)]) (S := []) kcX12 cbX12_isSeenSo_X12_layTried lkX12_188 imX12_layTried seX12_X12_layTried_X12_layTried rfl rfl (Nat.le_of_ble_eq_true rfl) dX12_isSeenSo_2 hor1 (X12_layTried_c G hp x0 (nI 0) _ er1) (fun vv hh hq => ?_)
  rw [hq.1, hq.2]
  show kw_V G mX12_isSeenSo 5 [some (.ref x0), some (.int x1), some (.int x2), some (.int x3), some (.int x4), some (.int x5), none] [] r1 Q
  refine kw_aload_n dX12_isSeenSo_5 rfl ?_
  obtain ⟨v2, ev2, h⟩ := Option.bind_eq_some_iff.mp h
  refine kv_gR gfX12_7 dX12_isSeenSo_6 ev2 ?_
  refine kw_sipush (v := nI 1786) dX12_isSeenSo_9 (by decide) ?_
  refine kw_iload_n dX12_isSeenSo_12 rfl ?_
  obtain ⟨hp3, ehp3, h⟩ := Option.bind_eq_some_iff.mp h
  refine kv_stI dX12_isSeenSo_13 ehp3 ?_
  refine kw_iconst (v := nI 0) dX12_isSeenSo_14 (by decide) ?_
  refine kw_istore (L' := [some (.ref x0), some (.int x1), some (.int x2), some (.int x3), some (.int x4), some (.int x5), some (.int (nI 0))]) dX12_isSeenSo_15 (by decide) rfl ?_
  refine kw_mask [true, true, false, true, true, true, true] (L' := [some (.ref x0), some (.int x1), none, some (.int x3), some (.int x4), some (.int x5), some (.int (nI 0))]) rfl ?_
  exact X12_isSeenSo_L17_t G Q x0 x1 x3 x4 x5 _ (nI 0, hp3) _ h hK
/-! KitchenWheelsModel.seen(IIII)I -/
def X12_seen_K64 (G : kw_G) (Q : Option Value → kw_H → Prop) (x0 : Nat) (x1 : Int32) (x2 : Int32) (x3 : Int32) (x4 : Int32) (r : (Int32 × Int32 × kw_H) ⊕ (Int32 × kw_H)) : Prop := match r with
  | .inl z => kw_V G mX12_seen 64 [some (.ref x0), some (.int x1), some (.int x2), some (.int x3), some (.int x4), none, some (.int z.1), some (.int z.2.1)] [] z.2.2 Q
  | .inr r => Q (some (.int r.1)) r.2
def X12_seen_J108 (hp : kw_H) (x0 : Nat) (x6 : Int32) : Option (Int32 × kw_H) :=
  ((kp_ob hp x0 11).bind fun _ => X12_well_F hp x0 x6).bind fun r8 =>
  some ((r8.1, r8.2))
set_option maxRecDepth 100000 in
set_option maxHeartbeats 4000000 in
theorem X12_seen_J108_t (G : kw_G) (Q : Option Value → kw_H → Prop) (hp : kw_H) (x0 : Nat) (x6 : Int32) (r : Int32 × kw_H) (h : X12_seen_J108 hp x0 x6 = some r) (hK : Q (some (.int r.1)) r.2) : kw_V G mX12_seen 108 [some (.ref x0), none, none, none, none, none, some (.int x6), none] [] hp Q := by
  unfold X12_seen_J108 at h
  refine kw_aload_n dX12_seen_108 rfl ?_
  refine kw_iload dX12_seen_109 rfl ?_
  obtain ⟨r8, er8, h⟩ := Option.bind_eq_some_iff.mp h
  obtain ⟨ur8, eur8, er8⟩ := Option.bind_eq_some_iff.mp er8
  obtain ⟨fsr8, hor8⟩ := kp_ob_inv eur8
  refine kw_callV (As := [.int x6]) (S := []) kcX12 cbX12_seen_X12_well lkX12_57 imX12_well seX12_X12_well_X12_well rfl rfl (Nat.le_of_ble_eq_true rfl) dX12_seen_111 hor8 (X12_well_c G hp x0 x6 _ er8) (fun vv hh hq => ?_)
  rw [hq.1, hq.2]
  show kw_V G mX12_seen 114 [some (.ref x0), none, none, none, none, none, some (.int x6), none] [.int r8.1] r8.2 Q
  have h := Option.some.inj h
  subst h
  exact kw_iret rfl dX12_seen_114 hK
def X12_seen_J99 (hp : kw_H) (x0 : Nat) (x1 : Int32) (x2 : Int32) (x3 : Int32) (x4 : Int32) (x7 : Int32) (s0 : Int32) (s1 : Int32) : Option (((Int32 × Int32 × kw_H) ⊕ (Int32 × kw_H))) :=
  some (.inl (s1 ||| s0, x7 + (nI 1), hp))
set_option maxRecDepth 100000 in
set_option maxHeartbeats 4000000 in
theorem X12_seen_J99_t (G : kw_G) (Q : Option Value → kw_H → Prop) (hp : kw_H) (x0 : Nat) (x1 : Int32) (x2 : Int32) (x3 : Int32) (x4 : Int32) (x7 : Int32) (s0 : Int32) (s1 : Int32) (r : ((Int32 × Int32 × kw_H) ⊕ (Int32 × kw_H))) (h : X12_seen_J99 hp x0 x1 x2 x3 x4 x7 s0 s1 = some r) (hK : X12_seen_K64 G Q x0 x1 x2 x3 x4 r) : kw_V G mX12_seen 99 [some (.ref x0), some (.int x1), some (.int x2), some (.int x3), some (.int x4), none, none, some (.int x7)] [.int s0, .int s1] hp Q := by
  unfold X12_seen_J99 at h
  refine kw_ior dX12_seen_99 ?_
  refine kw_istore (L' := [some (.ref x0), some (.int x1), some (.int x2), some (.int x3), some (.int x4), none, some (.int (s1 ||| s0)), some (.int x7)]) dX12_seen_100 (by decide) rfl ?_
  refine kv_iinc (w := nI 1) (L' := [some (.ref x0), some (.int x1), some (.int x2), some (.int x3), some (.int x4), none, some (.int (s1 ||| s0)), some (.int (x7 + (nI 1)))]) dX12_seen_102 (by decide) rfl (by decide) rfl ?_
  refine kw_goto 64 dX12_seen_105 (by decide) ?_
  have h := Option.some.inj h
  subst h
  exact hK
def X12_seen_b64 (x0 : Nat) (x1 : Int32) (x2 : Int32) (x3 : Int32) (x4 : Int32) (x6 : Int32) (x7 : Int32) (hp : kw_H) : Option (((Int32 × Int32 × kw_H) ⊕ (Int32 × kw_H))) :=
  (kp_gR hp x0 [11] 0).bind fun v6 =>
  (kp_ldI hp v6 (nI 1)).bind fun v7 =>
  (if v7 ≤ x7 then
  (X12_seen_J108 hp x0 x6).map (fun r => .inr (r))
else
  ((kp_ob hp x0 11).bind fun _ => X12_isSeenSo_F hp x0 x1 x7 x2 x3 x4).bind fun r10 =>
  (if r10.1 = 0 then
  X12_seen_J99 r10.2 x0 x1 x2 x3 x4 x7 (nI 0) x6
else
  X12_seen_J99 r10.2 x0 x1 x2 x3 x4 x7 ((nI 1) <<< (x7 &&& 31)) x6))
set_option maxRecDepth 100000 in
set_option maxHeartbeats 4000000 in
theorem X12_seen_b64_t (G : kw_G) (Q : Option Value → kw_H → Prop) (x0 : Nat) (x1 : Int32) (x2 : Int32) (x3 : Int32) (x4 : Int32) (x6 : Int32) (x7 : Int32) (hp : kw_H) (r : ((Int32 × Int32 × kw_H) ⊕ (Int32 × kw_H))) (h : X12_seen_b64 x0 x1 x2 x3 x4 x6 x7 hp = some r) (hK : X12_seen_K64 G Q x0 x1 x2 x3 x4 r) : kw_V G mX12_seen 64 [some (.ref x0), some (.int x1), some (.int x2), some (.int x3), some (.int x4), none, some (.int x6), some (.int x7)] [] hp Q := by
  unfold X12_seen_b64 at h
  refine kw_iload dX12_seen_64 rfl ?_
  refine kw_aload_n dX12_seen_66 rfl ?_
  obtain ⟨v6, ev6, h⟩ := Option.bind_eq_some_iff.mp h
  refine kv_gR gfX12_7 dX12_seen_67 ev6 ?_
  refine kw_iconst (v := nI 1) dX12_seen_70 (by decide) ?_
  obtain ⟨v7, ev7, h⟩ := Option.bind_eq_some_iff.mp h
  refine kv_ldI dX12_seen_71 ev7 ?_
  refine kw_icmp_ge 108 dX12_seen_72 (by decide) (fun c12 => ?_) (fun c12 => ?_)
  · have h := (if_pos c12).symm.trans h
    refine kw_mask [true, false, false, false, false, true, true, false] (L' := [some (.ref x0), none, none, none, none, none, some (.int x6), none]) rfl ?_
    obtain ⟨r9, hr9, hrr9⟩ := Option.map_eq_some_iff.mp h
    subst hrr9
    exact X12_seen_J108_t G Q hp x0 x6 r9 hr9 hK
  · have h := (if_neg c12).symm.trans h
    refine kw_iload dX12_seen_75 rfl ?_
    refine kw_aload_n dX12_seen_77 rfl ?_
    refine kw_iload_n dX12_seen_78 rfl ?_
    refine kw_iload dX12_seen_79 rfl ?_
    refine kw_iload_n dX12_seen_81 rfl ?_
    refine kw_iload_n dX12_seen_82 rfl ?_
    refine kw_iload dX12_seen_83 rfl ?_
    obtain ⟨r10, er10, h⟩ := Option.bind_eq_some_iff.mp h
    obtain ⟨ur10, eur10, er10⟩ := Option.bind_eq_some_iff.mp er10
    obtain ⟨fsr10, hor10⟩ := kp_ob_inv eur10
    refine kw_callV (As := [.int x1, .int x7, .int x2, .int x3, .int x4]) (S := [.int x6]) kcX12 cbX12_seen_X12_isSeenSo lkX12_223 imX12_isSeenSo seX12_X12_isSeenSo_X12_isSeenSo rfl rfl (Nat.le_of_ble_eq_true rfl) dX12_seen_85 hor10 (X12_isSeenSo_c G hp x0 x1 x7 x2 x3 x4 _ er10) (fun vv hh hq => ?_)
    rw [hq.1, hq.2]
    show kw_V G mX12_seen 88 [some (.ref x0), some (.int x1), some (.int x2), some (.int x3), some (.int x4), none, some (.int x6), some (.int x7)] [.int r10.1, .int x6] r10.2 Q
    refine kw_if_eq 98 dX12_seen_88 (by decide) (fun c11 => ?_) (fun c11 => ?_)
    · have h := (if_pos c11).symm.trans h
      refine kw_iconst (v := nI 0) dX12_seen_98 (by decide) ?_
      refine kw_mask [true, true, true, true, true, true, false, true] (L' := [some (.ref x0), some (.int x1), some (.int x2), some (.int x3), some (.int x4), none, none, some (.int x7)]) rfl ?_
      exact X12_seen_J99_t G Q r10.2 x0 x1 x2 x3 x4 x7 (nI 0) x6 _ h hK
    · have h := (if_neg c11).symm.trans h
      refine kw_iconst (v := nI 1) dX12_seen_91 (by decide) ?_
      refine kw_iload dX12_seen_92 rfl ?_
      refine kw_ishl dX12_seen_94 ?_
      refine kw_goto 99 dX12_seen_95 (by decide) ?_
      refine kw_mask [true, true, true, true, true, true, false, true] (L' := [some (.ref x0), some (.int x1), some (.int x2), some (.int x3), some (.int x4), none, none, some (.int x7)]) rfl ?_
      exact X12_seen_J99_t G Q r10.2 x0 x1 x2 x3 x4 x7 ((nI 1) <<< (x7 &&& 31)) x6 _ h hK
def X12_seen_B64 (x0 : Nat) (x1 : Int32) (x2 : Int32) (x3 : Int32) (x4 : Int32) (z : Int32 × Int32 × kw_H) : Option (((Int32 × Int32 × kw_H) ⊕ (Int32 × kw_H))) := X12_seen_b64 x0 x1 x2 x3 x4 z.1 z.2.1 z.2.2
theorem X12_seen_L64_t (G : kw_G) (Q : Option Value → kw_H → Prop) (x0 : Nat) (x1 : Int32) (x2 : Int32) (x3 : Int32) (x4 : Int32) (n : Nat) (z : Int32 × Int32 × kw_H) (r : Int32 × kw_H) (h : kp_lp (X12_seen_B64 x0 x1 x2 x3 x4) n z = some r) (hK : Q (some (.int r.1)) r.2) : kw_V G mX12_seen 64 [some (.ref x0), some (.int x1), some (.int x2), some (.int x3), some (.int x4), none, some (.int z.1), some (.int z.2.1)] [] z.2.2 Q :=
  kv_lp _ (fun z => kw_V G mX12_seen 64 [some (.ref x0), some (.int x1), some (.int x2), some (.int x3), some (.int x4), none, some (.int z.1), some (.int z.2.1)] [] z.2.2 Q) (fun r => Q (some (.int r.1)) r.2) (fun z x hb hx => X12_seen_b64_t G Q x0 x1 x2 x3 x4 z.1 z.2.1 z.2.2 x hb (by cases x <;> exact hx)) n z r h hK
def X12_seen_F (hp : kw_H) (x0 : Nat) (x1 : Int32) (x2 : Int32) (x3 : Int32) (x4 : Int32) : Option (Int32 × kw_H) :=
  (kp_gI hp x0 [11] 1).bind fun v1 =>
  (if v1 = 0 then
  some (((-1000002), hp))
else
  (X12_isSix_F hp x1).bind fun r2 =>
  (if r2 = 0 then
  some (((-1000001), hp))
else
  (X12_isRow_F hp x2).bind fun r3 =>
  (if r3 = 0 then
  some (((-1000001), hp))
else
  (X12_in_F hp (Int32.toInt64 x4) (lN 1) (lN 12)).bind fun r4 =>
  (if r4 = 0 then
  some (((-1000001), hp))
else
  ((kp_ob hp x0 11).bind fun _ => X12_noItems_F hp x0 x2 x3 x4).bind fun r5 =>
  (if r5.1 = 0 then
  kp_lp (X12_seen_B64 x0 x1 x2 x3 x4) 2000 (nI 0, nI 0, r5.2)
else
  some ((r5.1, r5.2)))))))
set_option maxRecDepth 100000 in
set_option maxHeartbeats 4000000 in
theorem X12_seen_c (G : kw_G) (hp : kw_H) (x0 : Nat) (x1 : Int32) (x2 : Int32) (x3 : Int32) (x4 : Int32) (r : Int32 × kw_H) (h : X12_seen_F hp x0 x1 x2 x3 x4 = some r) : kw_Met G mX12_seen [.ref x0, .int x1, .int x2, .int x3, .int x4] hp (fun v h2 => v = some (.int r.1) ∧ h2 = r.2) := by
  refine kw_met (L := [some (.ref x0), some (.int x1), some (.int x2), some (.int x3), some (.int x4), none, none, none]) (r := 3) (by decide +kernel) (Nat.le_of_ble_eq_true rfl) rfl ?_
  unfold X12_seen_F at h
  obtain ⟨Q, hQ⟩ : ∃ Q : Option Value → kw_H → Prop, Q = (fun v h2 => v = some (.int r.1) ∧ h2 = r.2) := ⟨_, rfl⟩
  have hK : Q (some (.int r.1)) r.2 := by rw [hQ]; exact ⟨rfl, rfl⟩
  rw [← hQ]
  clear hQ
  refine kw_aload_n dX12_seen_0 rfl ?_
  obtain ⟨v1, ev1, h⟩ := Option.bind_eq_some_iff.mp h
  refine kv_gI gfX12_132 dX12_seen_1 ev1 ?_
  refine kw_if_ne 10 dX12_seen_4 (by decide) (fun c17 => ?_) (fun c17 => ?_)
  · have h := (if_neg c17).symm.trans h
    refine kw_iload_n dX12_seen_10 rfl ?_
    obtain ⟨r2, er2, h⟩ := Option.bind_eq_some_iff.mp h
    refine kw_callS (As := [.int x1]) (S := []) cbX12_seen_X12_isSix lkX12_176 stX12_isSix rfl rfl (Nat.le_of_ble_eq_true rfl) dX12_seen_11 (X12_isSix_c G hp x1 _ er2) (fun vv hh hq => ?_)
    rw [hq.1, hq.2]
    show kw_V G mX12_seen 14 [some (.ref x0), some (.int x1), some (.int x2), some (.int x3), some (.int x4), none, none, none] [.int r2] hp Q
    refine kw_if_eq 37 dX12_seen_14 (by decide) (fun c16 => ?_) (fun c16 => ?_)
    · have h := (if_pos c16).symm.trans h
      refine kw_ldc (v := (-1000001)) dX12_seen_37 ckX12_52 ?_
      have h := Option.some.inj h
      subst h
      exact kw_iret rfl dX12_seen_39 hK
    · have h := (if_neg c16).symm.trans h
      refine kw_iload_n dX12_seen_17 rfl ?_
      obtain ⟨r3, er3, h⟩ := Option.bind_eq_some_iff.mp h
      refine kw_callS (As := [.int x2]) (S := []) cbX12_seen_X12_isRow lkX12_46 stX12_isRow rfl rfl (Nat.le_of_ble_eq_true rfl) dX12_seen_18 (X12_isRow_c G hp x2 _ er3) (fun vv hh hq => ?_)
      rw [hq.1, hq.2]
      show kw_V G mX12_seen 21 [some (.ref x0), some (.int x1), some (.int x2), some (.int x3), some (.int x4), none, none, none] [.int r3] hp Q
      refine kw_if_eq 37 dX12_seen_21 (by decide) (fun c15 => ?_) (fun c15 => ?_)
      · have h := (if_pos c15).symm.trans h
        refine kw_ldc (v := (-1000001)) dX12_seen_37 ckX12_52 ?_
        have h := Option.some.inj h
        subst h
        exact kw_iret rfl dX12_seen_39 hK
      · have h := (if_neg c15).symm.trans h
        refine kw_iload dX12_seen_24 rfl ?_
        refine kw_i2l dX12_seen_26 ?_
        refine kw_lconst (v := lN 1) dX12_seen_27 (by decide) ?_
        refine kw_ldc2_w (v := lN 12) dX12_seen_28 ckX12_218 ?_
        obtain ⟨r4, er4, h⟩ := Option.bind_eq_some_iff.mp h
        refine kw_callS (As := [.long (Int32.toInt64 x4), .long (lN 1), .long (lN 12)]) (S := []) cbX12_seen_X12_in lkX12_42 stX12_in rfl rfl (Nat.le_of_ble_eq_true rfl) dX12_seen_31 (X12_in_c G hp (Int32.toInt64 x4) (lN 1) (lN 12) _ er4) (fun vv hh hq => ?_)
        rw [hq.1, hq.2]
        show kw_V G mX12_seen 34 [some (.ref x0), some (.int x1), some (.int x2), some (.int x3), some (.int x4), none, none, none] [.int r4] hp Q
        refine kw_if_ne 40 dX12_seen_34 (by decide) (fun c14 => ?_) (fun c14 => ?_)
        · have h := (if_neg c14).symm.trans h
          refine kw_aload_n dX12_seen_40 rfl ?_
          refine kw_iload_n dX12_seen_41 rfl ?_
          refine kw_iload_n dX12_seen_42 rfl ?_
          refine kw_iload dX12_seen_43 rfl ?_
          obtain ⟨r5, er5, h⟩ := Option.bind_eq_some_iff.mp h
          obtain ⟨ur5, eur5, er5⟩ := Option.bind_eq_some_iff.mp er5
          obtain ⟨fsr5, hor5⟩ := kp_ob_inv eur5
          refine kw_callV (As := [.int x2, .int x3, .int x4]) (S := []) kcX12 cbX12_seen_X12_noItems lkX12_220 imX12_noItems seX12_X12_noItems_X12_noItems rfl rfl (Nat.le_of_ble_eq_true rfl) dX12_seen_45 hor5 (X12_noItems_c G hp x0 x2 x3 x4 _ er5) (fun vv hh hq => ?_)
          rw [hq.1, hq.2]
          show kw_V G mX12_seen 48 [some (.ref x0), some (.int x1), some (.int x2), some (.int x3), some (.int x4), none, none, none] [.int r5.1] r5.2 Q
          refine kw_istore (L' := [some (.ref x0), some (.int x1), some (.int x2), some (.int x3), some (.int x4), some (.int r5.1), none, none]) dX12_seen_48 (by decide) rfl ?_
          refine kw_iload dX12_seen_50 rfl ?_
          refine kw_if_eq 58 dX12_seen_52 (by decide) (fun c13 => ?_) (fun c13 => ?_)
          · have h := (if_pos c13).symm.trans h
            refine kw_iconst (v := nI 0) dX12_seen_58 (by decide) ?_
            refine kw_istore (L' := [some (.ref x0), some (.int x1), some (.int x2), some (.int x3), some (.int x4), some (.int r5.1), some (.int (nI 0)), none]) dX12_seen_59 (by decide) rfl ?_
            refine kw_iconst (v := nI 0) dX12_seen_61 (by decide) ?_
            refine kw_istore (L' := [some (.ref x0), some (.int x1), some (.int x2), some (.int x3), some (.int x4), some (.int r5.1), some (.int (nI 0)), some (.int (nI 0))]) dX12_seen_62 (by decide) rfl ?_
            refine kw_mask [true, true, true, true, true, false, true, true] (L' := [some (.ref x0), some (.int x1), some (.int x2), some (.int x3), some (.int x4), none, some (.int (nI 0)), some (.int (nI 0))]) rfl ?_
            exact X12_seen_L64_t G Q x0 x1 x2 x3 x4 _ (nI 0, nI 0, r5.2) _ h hK
          · have h := (if_neg c13).symm.trans h
            refine kw_iload dX12_seen_55 rfl ?_
            have h := Option.some.inj h
            subst h
            exact kw_iret rfl dX12_seen_57 hK
        · have h := (if_pos c14).symm.trans h
          refine kw_ldc (v := (-1000001)) dX12_seen_37 ckX12_52 ?_
          have h := Option.some.inj h
          subst h
          exact kw_iret rfl dX12_seen_39 hK
  · have h := (if_pos c17).symm.trans h
    refine kw_ldc (v := (-1000002)) dX12_seen_7 ckX12_139 ?_
    have h := Option.some.inj h
    subst h
    exact kw_iret rfl dX12_seen_9 hK
/-! KitchenWheelsModel.isTurnedSo(IIIII)Z -/
def X12_isTurnedSo_K19 (G : kw_G) (Q : Option Value → kw_H → Prop) (x0 : Nat) (x3 : Int32) (x4 : Int32) (x5 : Int32) (r : (Int32 × kw_H) ⊕ (Int32 × kw_H)) : Prop := match r with
  | .inl z => kw_V G mX12_isTurnedSo 19 [some (.ref x0), none, none, some (.int x3), some (.int x4), some (.int x5), some (.int z.1)] [] z.2 Q
  | .inr r => Q (some (.int r.1)) r.2
def X12_isTurnedSo_J67 (hp : kw_H) : Option (Int32 × kw_H) :=
  some ((nI 1, hp))
set_option maxRecDepth 100000 in
set_option maxHeartbeats 4000000 in
theorem X12_isTurnedSo_J67_t (G : kw_G) (Q : Option Value → kw_H → Prop) (hp : kw_H) (r : Int32 × kw_H) (h : X12_isTurnedSo_J67 hp = some r) (hK : Q (some (.int r.1)) r.2) : kw_V G mX12_isTurnedSo 67 [none, none, none, none, none, none, none] [] hp Q := by
  unfold X12_isTurnedSo_J67 at h
  refine kw_iconst (v := nI 1) dX12_isTurnedSo_67 (by decide) ?_
  have h := Option.some.inj h
  subst h
  exact kw_zret rfl (Or.inr rfl) dX12_isTurnedSo_68 hK
def X12_isTurnedSo_J59 (hp : kw_H) : Option (Int32 × kw_H) :=
  some ((nI 0, hp))
set_option maxRecDepth 100000 in
set_option maxHeartbeats 4000000 in
theorem X12_isTurnedSo_J59_t (G : kw_G) (Q : Option Value → kw_H → Prop) (hp : kw_H) (r : Int32 × kw_H) (h : X12_isTurnedSo_J59 hp = some r) (hK : Q (some (.int r.1)) r.2) : kw_V G mX12_isTurnedSo 59 [none, none, none, none, none, none, none] [] hp Q := by
  unfold X12_isTurnedSo_J59 at h
  refine kw_iconst (v := nI 0) dX12_isTurnedSo_59 (by decide) ?_
  have h := Option.some.inj h
  subst h
  exact kw_zret rfl (Or.inl rfl) dX12_isTurnedSo_60 hK
def X12_isTurnedSo_b19 (x0 : Nat) (x3 : Int32) (x4 : Int32) (x5 : Int32) (x6 : Int32) (hp : kw_H) : Option (((Int32 × kw_H) ⊕ (Int32 × kw_H))) :=
  (if x5 ≤ x6 then
  (X12_isTurnedSo_J67 hp).map (fun r => .inr (r))
else
  ((kp_ob hp x0 11).bind fun _ => X12_passAsTold_F hp x0 (nI 1782)).bind fun r5 =>
  (kp_gR r5 x0 [11] 0).bind fun v6 =>
  (kp_ldI r5 v6 (nI 1786)).bind fun v7 =>
  (kp_gR r5 x0 [11] 6).bind fun v8 =>
  (kp_ldI r5 v8 ((((nI 40) * x3) + x4) + x6)).bind fun v9 =>
  (if v7 = v9 then
  some (.inl (x6 + (nI 1), r5))
else
  (X12_isTurnedSo_J59 r5).map (fun r => .inr (r))))
set_option maxRecDepth 100000 in
set_option maxHeartbeats 4000000 in
theorem X12_isTurnedSo_b19_t (G : kw_G) (Q : Option Value → kw_H → Prop) (x0 : Nat) (x3 : Int32) (x4 : Int32) (x5 : Int32) (x6 : Int32) (hp : kw_H) (r : ((Int32 × kw_H) ⊕ (Int32 × kw_H))) (h : X12_isTurnedSo_b19 x0 x3 x4 x5 x6 hp = some r) (hK : X12_isTurnedSo_K19 G Q x0 x3 x4 x5 r) : kw_V G mX12_isTurnedSo 19 [some (.ref x0), none, none, some (.int x3), some (.int x4), some (.int x5), some (.int x6)] [] hp Q := by
  unfold X12_isTurnedSo_b19 at h
  refine kw_iload dX12_isTurnedSo_19 rfl ?_
  refine kw_iload dX12_isTurnedSo_21 rfl ?_
  refine kw_icmp_ge 67 dX12_isTurnedSo_23 (by decide) (fun c12 => ?_) (fun c12 => ?_)
  · have h := (if_pos c12).symm.trans h
    refine kw_mask [false, true, true, false, false, false, false] (L' := [none, none, none, none, none, none, none]) rfl ?_
    obtain ⟨r4, hr4, hrr4⟩ := Option.map_eq_some_iff.mp h
    subst hrr4
    exact X12_isTurnedSo_J67_t G Q hp r4 hr4 hK
  · have h := (if_neg c12).symm.trans h
    refine kw_aload_n dX12_isTurnedSo_26 rfl ?_
    refine kw_sipush (v := nI 1782) dX12_isTurnedSo_27 (by decide) ?_
    obtain ⟨r5, er5, h⟩ := Option.bind_eq_some_iff.mp h
    obtain ⟨ur5, eur5, er5⟩ := Option.bind_eq_some_iff.mp er5
    obtain ⟨fsr5, hor5⟩ := kp_ob_inv eur5
    refine kw_callV (As := [.int (nI 1782)]) (S := []) kcX12 cbX12_isTurnedSo_X12_passAsTold lkX12_167 imX12_passAsTold seX12_X12_passAsTold_X12_passAsTold rfl rfl (Nat.le_of_ble_eq_true rfl) dX12_isTurnedSo_30 hor5 (X12_passAsTold_c G hp x0 (nI 1782) _ er5) (fun vv hh hq => ?_)
    rw [hq.1, hq.2]
    show kw_V G mX12_isTurnedSo 33 [some (.ref x0), none, none, some (.int x3), some (.int x4), some (.int x5), some (.int x6)] [] r5 Q
    refine kw_aload_n dX12_isTurnedSo_33 rfl ?_
    obtain ⟨v6, ev6, h⟩ := Option.bind_eq_some_iff.mp h
    refine kv_gR gfX12_7 dX12_isTurnedSo_34 ev6 ?_
    refine kw_sipush (v := nI 1786) dX12_isTurnedSo_37 (by decide) ?_
    obtain ⟨v7, ev7, h⟩ := Option.bind_eq_some_iff.mp h
    refine kv_ldI dX12_isTurnedSo_40 ev7 ?_
    refine kw_aload_n dX12_isTurnedSo_41 rfl ?_
    obtain ⟨v8, ev8, h⟩ := Option.bind_eq_some_iff.mp h
    refine kv_gR gfX12_23 dX12_isTurnedSo_42 ev8 ?_
    refine kw_bipush (v := nI 40) dX12_isTurnedSo_45 (by decide) ?_
    refine kw_iload_n dX12_isTurnedSo_47 rfl ?_
    refine kw_imul dX12_isTurnedSo_48 ?_
    refine kw_iload dX12_isTurnedSo_49 rfl ?_
    refine kw_iadd dX12_isTurnedSo_51 ?_
    refine kw_iload dX12_isTurnedSo_52 rfl ?_
    refine kw_iadd dX12_isTurnedSo_54 ?_
    obtain ⟨v9, ev9, h⟩ := Option.bind_eq_some_iff.mp h
    refine kv_ldI dX12_isTurnedSo_55 ev9 ?_
    refine kw_icmp_eq 61 dX12_isTurnedSo_56 (by decide) (fun c11 => ?_) (fun c11 => ?_)
    · have h := (if_pos c11).symm.trans h
      refine kv_iinc (w := nI 1) (L' := [some (.ref x0), none, none, some (.int x3), some (.int x4), some (.int x5), some (.int (x6 + (nI 1)))]) dX12_isTurnedSo_61 (by decide) rfl (by decide) rfl ?_
      refine kw_goto 19 dX12_isTurnedSo_64 (by decide) ?_
      have h := Option.some.inj h
      subst h
      exact hK
    · have h := (if_neg c11).symm.trans h
      refine kw_mask [false, true, true, false, false, false, false] (L' := [none, none, none, none, none, none, none]) rfl ?_
      obtain ⟨r10, hr10, hrr10⟩ := Option.map_eq_some_iff.mp h
      subst hrr10
      exact X12_isTurnedSo_J59_t G Q r5 r10 hr10 hK
def X12_isTurnedSo_B19 (x0 : Nat) (x3 : Int32) (x4 : Int32) (x5 : Int32) (z : Int32 × kw_H) : Option (((Int32 × kw_H) ⊕ (Int32 × kw_H))) := X12_isTurnedSo_b19 x0 x3 x4 x5 z.1 z.2
theorem X12_isTurnedSo_L19_t (G : kw_G) (Q : Option Value → kw_H → Prop) (x0 : Nat) (x3 : Int32) (x4 : Int32) (x5 : Int32) (n : Nat) (z : Int32 × kw_H) (r : Int32 × kw_H) (h : kp_lp (X12_isTurnedSo_B19 x0 x3 x4 x5) n z = some r) (hK : Q (some (.int r.1)) r.2) : kw_V G mX12_isTurnedSo 19 [some (.ref x0), none, none, some (.int x3), some (.int x4), some (.int x5), some (.int z.1)] [] z.2 Q :=
  kv_lp _ (fun z => kw_V G mX12_isTurnedSo 19 [some (.ref x0), none, none, some (.int x3), some (.int x4), some (.int x5), some (.int z.1)] [] z.2 Q) (fun r => Q (some (.int r.1)) r.2) (fun z x hb hx => X12_isTurnedSo_b19_t G Q x0 x3 x4 x5 z.1 z.2 x hb (by cases x <;> exact hx)) n z r h hK
def X12_isTurnedSo_F (hp : kw_H) (x0 : Nat) (x1 : Int32) (x2 : Int32) (x3 : Int32) (x4 : Int32) (x5 : Int32) : Option (Int32 × kw_H) :=
  ((kp_ob hp x0 11).bind fun _ => X12_layTried_F hp x0 (nI 0)).bind fun r1 =>
  (kp_gR r1 x0 [11] 0).bind fun v2 =>
  (kp_stI r1 v2 ((nI 1804) + x1) x2).bind fun hp3 =>
  kp_lp (X12_isTurnedSo_B19 x0 x3 x4 x5) 2000 (nI 0, hp3)
set_option maxRecDepth 100000 in
set_option maxHeartbeats 4000000 in
theorem X12_isTurnedSo_c (G : kw_G) (hp : kw_H) (x0 : Nat) (x1 : Int32) (x2 : Int32) (x3 : Int32) (x4 : Int32) (x5 : Int32) (r : Int32 × kw_H) (h : X12_isTurnedSo_F hp x0 x1 x2 x3 x4 x5 = some r) : kw_Met G mX12_isTurnedSo [.ref x0, .int x1, .int x2, .int x3, .int x4, .int x5] hp (fun v h2 => v = some (.int r.1) ∧ h2 = r.2) := by
  refine kw_met (L := [some (.ref x0), some (.int x1), some (.int x2), some (.int x3), some (.int x4), some (.int x5), none]) (r := 1) (by decide +kernel) (Nat.le_of_ble_eq_true rfl) rfl ?_
  unfold X12_isTurnedSo_F at h
  obtain ⟨Q, hQ⟩ : ∃ Q : Option Value → kw_H → Prop, Q = (fun v h2 => v = some (.int r.1) ∧ h2 = r.2) := ⟨_, rfl⟩
  have hK : Q (some (.int r.1)) r.2 := by rw [hQ]; exact ⟨rfl, rfl⟩
  rw [← hQ]
  clear hQ
  refine kw_aload_n dX12_isTurnedSo_0 rfl ?_
  refine kw_iconst (v := nI 0) dX12_isTurnedSo_1 (by decide) ?_
  obtain ⟨r1, er1, h⟩ := Option.bind_eq_some_iff.mp h
  obtain ⟨ur1, eur1, er1⟩ := Option.bind_eq_some_iff.mp er1
  obtain ⟨fsr1, hor1⟩ := kp_ob_inv eur1
  refine kw_callV (As := [.int (nI 0)]) (S := []) kcX12 cbX12_isTurnedSo_X12_layTried lkX12_188 imX12_layTried seX12_X12_layTried_X12_layTried rfl rfl (Nat.le_of_ble_eq_true rfl) dX12_isTurnedSo_2 hor1 (X12_layTried_c G hp x0 (nI 0) _ er1) (fun vv hh hq => ?_)
  rw [hq.1, hq.2]
  show kw_V G mX12_isTurnedSo 5 [some (.ref x0), some (.int x1), some (.int x2), some (.int x3), some (.int x4), some (.int x5), none] [] r1 Q
  refine kw_aload_n dX12_isTurnedSo_5 rfl ?_
  obtain ⟨v2, ev2, h⟩ := Option.bind_eq_some_iff.mp h
  refine kv_gR gfX12_7 dX12_isTurnedSo_6 ev2 ?_
  refine kw_sipush (v := nI 1804) dX12_isTurnedSo_9 (by decide) ?_
  refine kw_iload_n dX12_isTurnedSo_12 rfl ?_
  refine kw_iadd dX12_isTurnedSo_13 ?_
  refine kw_iload_n dX12_isTurnedSo_14 rfl ?_
  obtain ⟨hp3, ehp3, h⟩ := Option.bind_eq_some_iff.mp h
  refine kv_stI dX12_isTurnedSo_15 ehp3 ?_
  refine kw_iconst (v := nI 0) dX12_isTurnedSo_16 (by decide) ?_
  refine kw_istore (L' := [some (.ref x0), some (.int x1), some (.int x2), some (.int x3), some (.int x4), some (.int x5), some (.int (nI 0))]) dX12_isTurnedSo_17 (by decide) rfl ?_
  refine kw_mask [true, false, false, true, true, true, true] (L' := [some (.ref x0), none, none, some (.int x3), some (.int x4), some (.int x5), some (.int (nI 0))]) rfl ?_
  exact X12_isTurnedSo_L19_t G Q x0 x3 x4 x5 _ (nI 0, hp3) _ h hK
/-! KitchenWheelsModel.who(IIII)I -/
def X12_who_K55 (G : kw_G) (Q : Option Value → kw_H → Prop) (x0 : Nat) (x1 : Int32) (x2 : Int32) (x3 : Int32) (x4 : Int32) (r : (Int32 × Int32 × kw_H) ⊕ (Int32 × kw_H)) : Prop := match r with
  | .inl z => kw_V G mX12_who 55 [some (.ref x0), some (.int x1), some (.int x2), some (.int x3), some (.int x4), none, some (.int z.1), some (.int z.2.1)] [] z.2.2 Q
  | .inr r => Q (some (.int r.1)) r.2
def X12_who_J95 (hp : kw_H) (x0 : Nat) (x6 : Int32) : Option (Int32 × kw_H) :=
  ((kp_ob hp x0 11).bind fun _ => X12_well_F hp x0 x6).bind fun r5 =>
  some ((r5.1, r5.2))
set_option maxRecDepth 100000 in
set_option maxHeartbeats 4000000 in
theorem X12_who_J95_t (G : kw_G) (Q : Option Value → kw_H → Prop) (hp : kw_H) (x0 : Nat) (x6 : Int32) (r : Int32 × kw_H) (h : X12_who_J95 hp x0 x6 = some r) (hK : Q (some (.int r.1)) r.2) : kw_V G mX12_who 95 [some (.ref x0), none, none, none, none, none, some (.int x6), none] [] hp Q := by
  unfold X12_who_J95 at h
  refine kw_aload_n dX12_who_95 rfl ?_
  refine kw_iload dX12_who_96 rfl ?_
  obtain ⟨r5, er5, h⟩ := Option.bind_eq_some_iff.mp h
  obtain ⟨ur5, eur5, er5⟩ := Option.bind_eq_some_iff.mp er5
  obtain ⟨fsr5, hor5⟩ := kp_ob_inv eur5
  refine kw_callV (As := [.int x6]) (S := []) kcX12 cbX12_who_X12_well lkX12_57 imX12_well seX12_X12_well_X12_well rfl rfl (Nat.le_of_ble_eq_true rfl) dX12_who_98 hor5 (X12_well_c G hp x0 x6 _ er5) (fun vv hh hq => ?_)
  rw [hq.1, hq.2]
  show kw_V G mX12_who 101 [some (.ref x0), none, none, none, none, none, some (.int x6), none] [.int r5.1] r5.2 Q
  have h := Option.some.inj h
  subst h
  exact kw_iret rfl dX12_who_101 hK
def X12_who_J86 (hp : kw_H) (x0 : Nat) (x1 : Int32) (x2 : Int32) (x3 : Int32) (x4 : Int32) (x7 : Int32) (s0 : Int32) (s1 : Int32) : Option (((Int32 × Int32 × kw_H) ⊕ (Int32 × kw_H))) :=
  some (.inl (s1 ||| s0, x7 + (nI 1), hp))
set_option maxRecDepth 100000 in
set_option maxHeartbeats 4000000 in
theorem X12_who_J86_t (G : kw_G) (Q : Option Value → kw_H → Prop) (hp : kw_H) (x0 : Nat) (x1 : Int32) (x2 : Int32) (x3 : Int32) (x4 : Int32) (x7 : Int32) (s0 : Int32) (s1 : Int32) (r : ((Int32 × Int32 × kw_H) ⊕ (Int32 × kw_H))) (h : X12_who_J86 hp x0 x1 x2 x3 x4 x7 s0 s1 = some r) (hK : X12_who_K55 G Q x0 x1 x2 x3 x4 r) : kw_V G mX12_who 86 [some (.ref x0), some (.int x1), some (.int x2), some (.int x3), some (.int x4), none, none, some (.int x7)] [.int s0, .int s1] hp Q := by
  unfold X12_who_J86 at h
  refine kw_ior dX12_who_86 ?_
  refine kw_istore (L' := [some (.ref x0), some (.int x1), some (.int x2), some (.int x3), some (.int x4), none, some (.int (s1 ||| s0)), some (.int x7)]) dX12_who_87 (by decide) rfl ?_
  refine kv_iinc (w := nI 1) (L' := [some (.ref x0), some (.int x1), some (.int x2), some (.int x3), some (.int x4), none, some (.int (s1 ||| s0)), some (.int (x7 + (nI 1)))]) dX12_who_89 (by decide) rfl (by decide) rfl ?_
  refine kw_goto 55 dX12_who_92 (by decide) ?_
  have h := Option.some.inj h
  subst h
  exact hK
def X12_who_b55 (x0 : Nat) (x1 : Int32) (x2 : Int32) (x3 : Int32) (x4 : Int32) (x6 : Int32) (x7 : Int32) (hp : kw_H) : Option (((Int32 × Int32 × kw_H) ⊕ (Int32 × kw_H))) :=
  (if (nI 6) ≤ x7 then
  (X12_who_J95 hp x0 x6).map (fun r => .inr (r))
else
  ((kp_ob hp x0 11).bind fun _ => X12_isTurnedSo_F hp x0 x1 x7 x2 x3 x4).bind fun r7 =>
  (if r7.1 = 0 then
  X12_who_J86 r7.2 x0 x1 x2 x3 x4 x7 (nI 0) x6
else
  X12_who_J86 r7.2 x0 x1 x2 x3 x4 x7 ((nI 1) <<< (x7 &&& 31)) x6))
set_option maxRecDepth 100000 in
set_option maxHeartbeats 4000000 in
theorem X12_who_b55_t (G : kw_G) (Q : Option Value → kw_H → Prop) (x0 : Nat) (x1 : Int32) (x2 : Int32) (x3 : Int32) (x4 : Int32) (x6 : Int32) (x7 : Int32) (hp : kw_H) (r : ((Int32 × Int32 × kw_H) ⊕ (Int32 × kw_H))) (h : X12_who_b55 x0 x1 x2 x3 x4 x6 x7 hp = some r) (hK : X12_who_K55 G Q x0 x1 x2 x3 x4 r) : kw_V G mX12_who 55 [some (.ref x0), some (.int x1), some (.int x2), some (.int x3), some (.int x4), none, some (.int x6), some (.int x7)] [] hp Q := by
  unfold X12_who_b55 at h
  refine kw_iload dX12_who_55 rfl ?_
  refine kw_bipush (v := nI 6) dX12_who_57 (by decide) ?_
  refine kw_icmp_ge 95 dX12_who_59 (by decide) (fun c9 => ?_) (fun c9 => ?_)
  · have h := (if_pos c9).symm.trans h
    refine kw_mask [true, false, false, false, false, true, true, false] (L' := [some (.ref x0), none, none, none, none, none, some (.int x6), none]) rfl ?_
    obtain ⟨r6, hr6, hrr6⟩ := Option.map_eq_some_iff.mp h
    subst hrr6
    exact X12_who_J95_t G Q hp x0 x6 r6 hr6 hK
  · have h := (if_neg c9).symm.trans h
    refine kw_iload dX12_who_62 rfl ?_
    refine kw_aload_n dX12_who_64 rfl ?_
    refine kw_iload_n dX12_who_65 rfl ?_
    refine kw_iload dX12_who_66 rfl ?_
    refine kw_iload_n dX12_who_68 rfl ?_
    refine kw_iload_n dX12_who_69 rfl ?_
    refine kw_iload dX12_who_70 rfl ?_
    obtain ⟨r7, er7, h⟩ := Option.bind_eq_some_iff.mp h
    obtain ⟨ur7, eur7, er7⟩ := Option.bind_eq_some_iff.mp er7
    obtain ⟨fsr7, hor7⟩ := kp_ob_inv eur7
    refine kw_callV (As := [.int x1, .int x7, .int x2, .int x3, .int x4]) (S := [.int x6]) kcX12 cbX12_who_X12_isTurnedSo lkX12_226 imX12_isTurnedSo seX12_X12_isTurnedSo_X12_isTurnedSo rfl rfl (Nat.le_of_ble_eq_true rfl) dX12_who_72 hor7 (X12_isTurnedSo_c G hp x0 x1 x7 x2 x3 x4 _ er7) (fun vv hh hq => ?_)
    rw [hq.1, hq.2]
    show kw_V G mX12_who 75 [some (.ref x0), some (.int x1), some (.int x2), some (.int x3), some (.int x4), none, some (.int x6), some (.int x7)] [.int r7.1, .int x6] r7.2 Q
    refine kw_if_eq 85 dX12_who_75 (by decide) (fun c8 => ?_) (fun c8 => ?_)
    · have h := (if_pos c8).symm.trans h
      refine kw_iconst (v := nI 0) dX12_who_85 (by decide) ?_
      refine kw_mask [true, true, true, true, true, true, false, true] (L' := [some (.ref x0), some (.int x1), some (.int x2), some (.int x3), some (.int x4), none, none, some (.int x7)]) rfl ?_
      exact X12_who_J86_t G Q r7.2 x0 x1 x2 x3 x4 x7 (nI 0) x6 _ h hK
    · have h := (if_neg c8).symm.trans h
      refine kw_iconst (v := nI 1) dX12_who_78 (by decide) ?_
      refine kw_iload dX12_who_79 rfl ?_
      refine kw_ishl dX12_who_81 ?_
      refine kw_goto 86 dX12_who_82 (by decide) ?_
      refine kw_mask [true, true, true, true, true, true, false, true] (L' := [some (.ref x0), some (.int x1), some (.int x2), some (.int x3), some (.int x4), none, none, some (.int x7)]) rfl ?_
      exact X12_who_J86_t G Q r7.2 x0 x1 x2 x3 x4 x7 ((nI 1) <<< (x7 &&& 31)) x6 _ h hK
def X12_who_B55 (x0 : Nat) (x1 : Int32) (x2 : Int32) (x3 : Int32) (x4 : Int32) (z : Int32 × Int32 × kw_H) : Option (((Int32 × Int32 × kw_H) ⊕ (Int32 × kw_H))) := X12_who_b55 x0 x1 x2 x3 x4 z.1 z.2.1 z.2.2
theorem X12_who_L55_t (G : kw_G) (Q : Option Value → kw_H → Prop) (x0 : Nat) (x1 : Int32) (x2 : Int32) (x3 : Int32) (x4 : Int32) (n : Nat) (z : Int32 × Int32 × kw_H) (r : Int32 × kw_H) (h : kp_lp (X12_who_B55 x0 x1 x2 x3 x4) n z = some r) (hK : Q (some (.int r.1)) r.2) : kw_V G mX12_who 55 [some (.ref x0), some (.int x1), some (.int x2), some (.int x3), some (.int x4), none, some (.int z.1), some (.int z.2.1)] [] z.2.2 Q :=
  kv_lp _ (fun z => kw_V G mX12_who 55 [some (.ref x0), some (.int x1), some (.int x2), some (.int x3), some (.int x4), none, some (.int z.1), some (.int z.2.1)] [] z.2.2 Q) (fun r => Q (some (.int r.1)) r.2) (fun z x hb hx => X12_who_b55_t G Q x0 x1 x2 x3 x4 z.1 z.2.1 z.2.2 x hb (by cases x <;> exact hx)) n z r h hK
def X12_who_F (hp : kw_H) (x0 : Nat) (x1 : Int32) (x2 : Int32) (x3 : Int32) (x4 : Int32) : Option (Int32 × kw_H) :=
  ((kp_ob hp x0 11).bind fun _ => X12_isTurner_F hp x0 x1).bind fun r1 =>
  (if r1 = 0 then
  some (((-1000001), hp))
else
  (X12_isRow_F hp x2).bind fun r2 =>
  (if r2 = 0 then
  some (((-1000001), hp))
else
  (X12_in_F hp (Int32.toInt64 x4) (lN 1) (lN 12)).bind fun r3 =>
  (if r3 = 0 then
  some (((-1000001), hp))
else
  ((kp_ob hp x0 11).bind fun _ => X12_noItems_F hp x0 x2 x3 x4).bind fun r4 =>
  (if r4.1 = 0 then
  kp_lp (X12_who_B55 x0 x1 x2 x3 x4) 2000 (nI 0, nI 1, r4.2)
else
  some ((r4.1, r4.2))))))
set_option maxRecDepth 100000 in
set_option maxHeartbeats 4000000 in
theorem X12_who_c (G : kw_G) (hp : kw_H) (x0 : Nat) (x1 : Int32) (x2 : Int32) (x3 : Int32) (x4 : Int32) (r : Int32 × kw_H) (h : X12_who_F hp x0 x1 x2 x3 x4 = some r) : kw_Met G mX12_who [.ref x0, .int x1, .int x2, .int x3, .int x4] hp (fun v h2 => v = some (.int r.1) ∧ h2 = r.2) := by
  refine kw_met (L := [some (.ref x0), some (.int x1), some (.int x2), some (.int x3), some (.int x4), none, none, none]) (r := 3) (by decide +kernel) (Nat.le_of_ble_eq_true rfl) rfl ?_
  unfold X12_who_F at h
  obtain ⟨Q, hQ⟩ : ∃ Q : Option Value → kw_H → Prop, Q = (fun v h2 => v = some (.int r.1) ∧ h2 = r.2) := ⟨_, rfl⟩
  have hK : Q (some (.int r.1)) r.2 := by rw [hQ]; exact ⟨rfl, rfl⟩
  rw [← hQ]
  clear hQ
  refine kw_aload_n dX12_who_0 rfl ?_
  refine kw_iload_n dX12_who_1 rfl ?_
  obtain ⟨r1, er1, h⟩ := Option.bind_eq_some_iff.mp h
  obtain ⟨ur1, eur1, er1⟩ := Option.bind_eq_some_iff.mp er1
  obtain ⟨fsr1, hor1⟩ := kp_ob_inv eur1
  refine kw_callV (As := [.int x1]) (S := []) kcX12 cbX12_who_X12_isTurner lkX12_183 imX12_isTurner seX12_X12_isTurner_X12_isTurner rfl rfl (Nat.le_of_ble_eq_true rfl) dX12_who_2 hor1 (X12_isTurner_c G hp x0 x1 _ er1) (fun vv hh hq => ?_)
  rw [hq.1, hq.2]
  show kw_V G mX12_who 5 [some (.ref x0), some (.int x1), some (.int x2), some (.int x3), some (.int x4), none, none, none] [.int r1] hp Q
  refine kw_if_eq 28 dX12_who_5 (by decide) (fun c13 => ?_) (fun c13 => ?_)
  · have h := (if_pos c13).symm.trans h
    refine kw_ldc (v := (-1000001)) dX12_who_28 ckX12_52 ?_
    have h := Option.some.inj h
    subst h
    exact kw_iret rfl dX12_who_30 hK
  · have h := (if_neg c13).symm.trans h
    refine kw_iload_n dX12_who_8 rfl ?_
    obtain ⟨r2, er2, h⟩ := Option.bind_eq_some_iff.mp h
    refine kw_callS (As := [.int x2]) (S := []) cbX12_who_X12_isRow lkX12_46 stX12_isRow rfl rfl (Nat.le_of_ble_eq_true rfl) dX12_who_9 (X12_isRow_c G hp x2 _ er2) (fun vv hh hq => ?_)
    rw [hq.1, hq.2]
    show kw_V G mX12_who 12 [some (.ref x0), some (.int x1), some (.int x2), some (.int x3), some (.int x4), none, none, none] [.int r2] hp Q
    refine kw_if_eq 28 dX12_who_12 (by decide) (fun c12 => ?_) (fun c12 => ?_)
    · have h := (if_pos c12).symm.trans h
      refine kw_ldc (v := (-1000001)) dX12_who_28 ckX12_52 ?_
      have h := Option.some.inj h
      subst h
      exact kw_iret rfl dX12_who_30 hK
    · have h := (if_neg c12).symm.trans h
      refine kw_iload dX12_who_15 rfl ?_
      refine kw_i2l dX12_who_17 ?_
      refine kw_lconst (v := lN 1) dX12_who_18 (by decide) ?_
      refine kw_ldc2_w (v := lN 12) dX12_who_19 ckX12_218 ?_
      obtain ⟨r3, er3, h⟩ := Option.bind_eq_some_iff.mp h
      refine kw_callS (As := [.long (Int32.toInt64 x4), .long (lN 1), .long (lN 12)]) (S := []) cbX12_who_X12_in lkX12_42 stX12_in rfl rfl (Nat.le_of_ble_eq_true rfl) dX12_who_22 (X12_in_c G hp (Int32.toInt64 x4) (lN 1) (lN 12) _ er3) (fun vv hh hq => ?_)
      rw [hq.1, hq.2]
      show kw_V G mX12_who 25 [some (.ref x0), some (.int x1), some (.int x2), some (.int x3), some (.int x4), none, none, none] [.int r3] hp Q
      refine kw_if_ne 31 dX12_who_25 (by decide) (fun c11 => ?_) (fun c11 => ?_)
      · have h := (if_neg c11).symm.trans h
        refine kw_aload_n dX12_who_31 rfl ?_
        refine kw_iload_n dX12_who_32 rfl ?_
        refine kw_iload_n dX12_who_33 rfl ?_
        refine kw_iload dX12_who_34 rfl ?_
        obtain ⟨r4, er4, h⟩ := Option.bind_eq_some_iff.mp h
        obtain ⟨ur4, eur4, er4⟩ := Option.bind_eq_some_iff.mp er4
        obtain ⟨fsr4, hor4⟩ := kp_ob_inv eur4
        refine kw_callV (As := [.int x2, .int x3, .int x4]) (S := []) kcX12 cbX12_who_X12_noItems lkX12_220 imX12_noItems seX12_X12_noItems_X12_noItems rfl rfl (Nat.le_of_ble_eq_true rfl) dX12_who_36 hor4 (X12_noItems_c G hp x0 x2 x3 x4 _ er4) (fun vv hh hq => ?_)
        rw [hq.1, hq.2]
        show kw_V G mX12_who 39 [some (.ref x0), some (.int x1), some (.int x2), some (.int x3), some (.int x4), none, none, none] [.int r4.1] r4.2 Q
        refine kw_istore (L' := [some (.ref x0), some (.int x1), some (.int x2), some (.int x3), some (.int x4), some (.int r4.1), none, none]) dX12_who_39 (by decide) rfl ?_
        refine kw_iload dX12_who_41 rfl ?_
        refine kw_if_eq 49 dX12_who_43 (by decide) (fun c10 => ?_) (fun c10 => ?_)
        · have h := (if_pos c10).symm.trans h
          refine kw_iconst (v := nI 0) dX12_who_49 (by decide) ?_
          refine kw_istore (L' := [some (.ref x0), some (.int x1), some (.int x2), some (.int x3), some (.int x4), some (.int r4.1), some (.int (nI 0)), none]) dX12_who_50 (by decide) rfl ?_
          refine kw_iconst (v := nI 1) dX12_who_52 (by decide) ?_
          refine kw_istore (L' := [some (.ref x0), some (.int x1), some (.int x2), some (.int x3), some (.int x4), some (.int r4.1), some (.int (nI 0)), some (.int (nI 1))]) dX12_who_53 (by decide) rfl ?_
          refine kw_mask [true, true, true, true, true, false, true, true] (L' := [some (.ref x0), some (.int x1), some (.int x2), some (.int x3), some (.int x4), none, some (.int (nI 0)), some (.int (nI 1))]) rfl ?_
          exact X12_who_L55_t G Q x0 x1 x2 x3 x4 _ (nI 0, nI 1, r4.2) _ h hK
        · have h := (if_neg c10).symm.trans h
          refine kw_iload dX12_who_46 rfl ?_
          have h := Option.some.inj h
          subst h
          exact kw_iret rfl dX12_who_48 hK
      · have h := (if_pos c11).symm.trans h
        refine kw_ldc (v := (-1000001)) dX12_who_28 ckX12_52 ?_
        have h := Option.some.inj h
        subst h
        exact kw_iret rfl dX12_who_30 hK
/-! KitchenWheelsModel.areTogether(III)Z -/
def X12_areTogether_K6 (G : kw_G) (Q : Option Value → kw_H → Prop) (hp : kw_H) (x0 : Nat) (x1 : Int32) (x2 : Int32) (x3 : Int32) (r : (Int32 × Int32) ⊕ (Int32)) : Prop := match r with
  | .inl z => kw_V G mX12_areTogether 6 [some (.ref x0), some (.int x1), some (.int x2), some (.int x3), some (.int z.1), some (.int z.2)] [] hp Q
  | .inr r => Q (some (.int r)) hp
def X12_areTogether_J61 (hp : kw_H) (x4 : Int32) : Option (Int32) :=
  (kp_bool x4).bind fun v1 =>
  some (v1)
set_option maxRecDepth 100000 in
set_option maxHeartbeats 4000000 in
theorem X12_areTogether_J61_t (G : kw_G) (Q : Option Value → kw_H → Prop) (hp : kw_H) (x4 : Int32) (r : Int32) (h : X12_areTogether_J61 hp x4 = some r) (hK : Q (some (.int r)) hp) : kw_V G mX12_areTogether 61 [none, none, none, none, some (.int x4), none] [] hp Q := by
  unfold X12_areTogether_J61 at h
  refine kw_iload dX12_areTogether_61 rfl ?_
  obtain ⟨v1, ev1, h⟩ := Option.bind_eq_some_iff.mp h
  obtain ⟨qv1, bv1⟩ := kv_bool ev1
  have h := Option.some.inj h
  subst h
  rw [qv1]
  exact kw_zret rfl bv1 dX12_areTogether_63 hK
def X12_areTogether_J53 (hp : kw_H) (x0 : Nat) (x1 : Int32) (x2 : Int32) (x3 : Int32) (x5 : Int32) (s0 : Int32) : Option (((Int32 × Int32) ⊕ (Int32))) :=
  some (.inl (s0, x5 + (nI 1)))
set_option maxRecDepth 100000 in
set_option maxHeartbeats 4000000 in
theorem X12_areTogether_J53_t (G : kw_G) (Q : Option Value → kw_H → Prop) (hp : kw_H) (x0 : Nat) (x1 : Int32) (x2 : Int32) (x3 : Int32) (x5 : Int32) (s0 : Int32) (r : ((Int32 × Int32) ⊕ (Int32))) (h : X12_areTogether_J53 hp x0 x1 x2 x3 x5 s0 = some r) (hK : X12_areTogether_K6 G Q hp x0 x1 x2 x3 r) : kw_V G mX12_areTogether 53 [some (.ref x0), some (.int x1), some (.int x2), some (.int x3), none, some (.int x5)] [.int s0] hp Q := by
  unfold X12_areTogether_J53 at h
  refine kw_istore (L' := [some (.ref x0), some (.int x1), some (.int x2), some (.int x3), some (.int s0), some (.int x5)]) dX12_areTogether_53 (by decide) rfl ?_
  refine kv_iinc (w := nI 1) (L' := [some (.ref x0), some (.int x1), some (.int x2), some (.int x3), some (.int s0), some (.int (x5 + (nI 1)))]) dX12_areTogether_55 (by decide) rfl (by decide) rfl ?_
  refine kw_goto 6 dX12_areTogether_58 (by decide) ?_
  have h := Option.some.inj h
  subst h
  exact hK
def X12_areTogether_J48 (hp : kw_H) (x0 : Nat) (x1 : Int32) (x2 : Int32) (x3 : Int32) (x5 : Int32) : Option (((Int32 × Int32) ⊕ (Int32))) :=
  X12_areTogether_J53 hp x0 x1 x2 x3 x5 (nI 1)
set_option maxRecDepth 100000 in
set_option maxHeartbeats 4000000 in
theorem X12_areTogether_J48_t (G : kw_G) (Q : Option Value → kw_H → Prop) (hp : kw_H) (x0 : Nat) (x1 : Int32) (x2 : Int32) (x3 : Int32) (x5 : Int32) (r : ((Int32 × Int32) ⊕ (Int32))) (h : X12_areTogether_J48 hp x0 x1 x2 x3 x5 = some r) (hK : X12_areTogether_K6 G Q hp x0 x1 x2 x3 r) : kw_V G mX12_areTogether 48 [some (.ref x0), some (.int x1), some (.int x2), some (.int x3), none, some (.int x5)] [] hp Q := by
  unfold X12_areTogether_J48 at h
  refine kw_iconst (v := nI 1) dX12_areTogether_48 (by decide) ?_
  refine kw_goto 53 dX12_areTogether_49 (by decide) ?_
  exact X12_areTogether_J53_t G Q hp x0 x1 x2 x3 x5 (nI 1) _ h hK
def X12_areTogether_J52 (hp : kw_H) (x0 : Nat) (x1 : Int32) (x2 : Int32) (x3 : Int32) (x5 : Int32) : Option (((Int32 × Int32) ⊕ (Int32))) :=
  X12_areTogether_J53 hp x0 x1 x2 x3 x5 (nI 0)
set_option maxRecDepth 100000 in
set_option maxHeartbeats 4000000 in
theorem X12_areTogether_J52_t (G : kw_G) (Q : Option Value → kw_H → Prop) (hp : kw_H) (x0 : Nat) (x1 : Int32) (x2 : Int32) (x3 : Int32) (x5 : Int32) (r : ((Int32 × Int32) ⊕ (Int32))) (h : X12_areTogether_J52 hp x0 x1 x2 x3 x5 = some r) (hK : X12_areTogether_K6 G Q hp x0 x1 x2 x3 r) : kw_V G mX12_areTogether 52 [some (.ref x0), some (.int x1), some (.int x2), some (.int x3), none, some (.int x5)] [] hp Q := by
  unfold X12_areTogether_J52 at h
  refine kw_iconst (v := nI 0) dX12_areTogether_52 (by decide) ?_
  exact X12_areTogether_J53_t G Q hp x0 x1 x2 x3 x5 (nI 0) _ h hK
def X12_areTogether_b6 (hp : kw_H) (x0 : Nat) (x1 : Int32) (x2 : Int32) (x3 : Int32) (x4 : Int32) (x5 : Int32) : Option (((Int32 × Int32) ⊕ (Int32))) :=
  (if ((nI 6) * x3) ≤ x5 then
  (X12_areTogether_J61 hp x4).map (fun r => .inr (r))
else
  (if x4 = 0 then
  (kp_gR hp x0 [11] 16).bind fun v3 =>
  (kp_ldI hp v3 x5).bind fun v4 =>
  (X12_has_F hp v4 x1).bind fun r5 =>
  (if r5 = 0 then
  X12_areTogether_J52 hp x0 x1 x2 x3 x5
else
  (kp_gR hp x0 [11] 16).bind fun v6 =>
  (kp_ldI hp v6 x5).bind fun v7 =>
  (X12_has_F hp v7 x2).bind fun r8 =>
  (if r8 = 0 then
  X12_areTogether_J52 hp x0 x1 x2 x3 x5
else
  X12_areTogether_J48 hp x0 x1 x2 x3 x5))
else
  X12_areTogether_J48 hp x0 x1 x2 x3 x5))
set_option maxRecDepth 100000 in
set_option maxHeartbeats 4000000 in
theorem X12_areTogether_b6_t (G : kw_G) (Q : Option Value → kw_H → Prop) (hp : kw_H) (x0 : Nat) (x1 : Int32) (x2 : Int32) (x3 : Int32) (x4 : Int32) (x5 : Int32) (r : ((Int32 × Int32) ⊕ (Int32))) (h : X12_areTogether_b6 hp x0 x1 x2 x3 x4 x5 = some r) (hK : X12_areTogether_K6 G Q hp x0 x1 x2 x3 r) : kw_V G mX12_areTogether 6 [some (.ref x0), some (.int x1), some (.int x2), some (.int x3), some (.int x4), some (.int x5)] [] hp Q := by
  unfold X12_areTogether_b6 at h
  refine kw_iload dX12_areTogether_6 rfl ?_
  refine kw_bipush (v := nI 6) dX12_areTogether_8 (by decide) ?_
  refine kw_iload_n dX12_areTogether_10 rfl ?_
  refine kw_imul dX12_areTogether_11 ?_
  refine kw_icmp_ge 61 dX12_areTogether_12 (by decide) (fun c12 => ?_) (fun c12 => ?_)
  · have h := (if_pos c12).symm.trans h
    refine kw_mask [false, false, false, false, true, false] (L' := [none, none, none, none, some (.int x4), none]) rfl ?_
    obtain ⟨r2, hr2, hrr2⟩ := Option.map_eq_some_iff.mp h
    subst hrr2
    exact X12_areTogether_J61_t G Q hp x4 r2 hr2 hK
  · have h := (if_neg c12).symm.trans h
    refine kw_iload dX12_areTogether_15 rfl ?_
    refine kw_if_ne 48 dX12_areTogether_17 (by decide) (fun c11 => ?_) (fun c11 => ?_)
    · have h := (if_neg c11).symm.trans h
      refine kw_mask [true, true, true, true, false, true] (L' := [some (.ref x0), some (.int x1), some (.int x2), some (.int x3), none, some (.int x5)]) rfl ?_
      exact X12_areTogether_J48_t G Q hp x0 x1 x2 x3 x5 _ h hK
    · have h := (if_pos c11).symm.trans h
      refine kw_aload_n dX12_areTogether_20 rfl ?_
      obtain ⟨v3, ev3, h⟩ := Option.bind_eq_some_iff.mp h
      refine kv_gR gfX12_32 dX12_areTogether_21 ev3 ?_
      refine kw_iload dX12_areTogether_24 rfl ?_
      obtain ⟨v4, ev4, h⟩ := Option.bind_eq_some_iff.mp h
      refine kv_ldI dX12_areTogether_26 ev4 ?_
      refine kw_iload_n dX12_areTogether_27 rfl ?_
      obtain ⟨r5, er5, h⟩ := Option.bind_eq_some_iff.mp h
      refine kw_callS (As := [.int v4, .int x1]) (S := []) cbX12_areTogether_X12_has lkX12_148 stX12_has rfl rfl (Nat.le_of_ble_eq_true rfl) dX12_areTogether_28 (X12_has_c G hp v4 x1 _ er5) (fun vv hh hq => ?_)
      rw [hq.1, hq.2]
      show kw_V G mX12_areTogether 31 [some (.ref x0), some (.int x1), some (.int x2), some (.int x3), some (.int x4), some (.int x5)] [.int r5] hp Q
      refine kw_if_eq 52 dX12_areTogether_31 (by decide) (fun c10 => ?_) (fun c10 => ?_)
      · have h := (if_pos c10).symm.trans h
        refine kw_mask [true, true, true, true, false, true] (L' := [some (.ref x0), some (.int x1), some (.int x2), some (.int x3), none, some (.int x5)]) rfl ?_
        exact X12_areTogether_J52_t G Q hp x0 x1 x2 x3 x5 _ h hK
      · have h := (if_neg c10).symm.trans h
        refine kw_aload_n dX12_areTogether_34 rfl ?_
        obtain ⟨v6, ev6, h⟩ := Option.bind_eq_some_iff.mp h
        refine kv_gR gfX12_32 dX12_areTogether_35 ev6 ?_
        refine kw_iload dX12_areTogether_38 rfl ?_
        obtain ⟨v7, ev7, h⟩ := Option.bind_eq_some_iff.mp h
        refine kv_ldI dX12_areTogether_40 ev7 ?_
        refine kw_iload_n dX12_areTogether_41 rfl ?_
        obtain ⟨r8, er8, h⟩ := Option.bind_eq_some_iff.mp h
        refine kw_callS (As := [.int v7, .int x2]) (S := []) cbX12_areTogether_X12_has lkX12_148 stX12_has rfl rfl (Nat.le_of_ble_eq_true rfl) dX12_areTogether_42 (X12_has_c G hp v7 x2 _ er8) (fun vv hh hq => ?_)
        rw [hq.1, hq.2]
        show kw_V G mX12_areTogether 45 [some (.ref x0), some (.int x1), some (.int x2), some (.int x3), some (.int x4), some (.int x5)] [.int r8] hp Q
        refine kw_if_eq 52 dX12_areTogether_45 (by decide) (fun c9 => ?_) (fun c9 => ?_)
        · have h := (if_pos c9).symm.trans h
          refine kw_mask [true, true, true, true, false, true] (L' := [some (.ref x0), some (.int x1), some (.int x2), some (.int x3), none, some (.int x5)]) rfl ?_
          exact X12_areTogether_J52_t G Q hp x0 x1 x2 x3 x5 _ h hK
        · have h := (if_neg c9).symm.trans h
          refine kw_mask [true, true, true, true, false, true] (L' := [some (.ref x0), some (.int x1), some (.int x2), some (.int x3), none, some (.int x5)]) rfl ?_
          exact X12_areTogether_J48_t G Q hp x0 x1 x2 x3 x5 _ h hK
def X12_areTogether_B6 (hp : kw_H) (x0 : Nat) (x1 : Int32) (x2 : Int32) (x3 : Int32) (z : Int32 × Int32) : Option (((Int32 × Int32) ⊕ (Int32))) := X12_areTogether_b6 hp x0 x1 x2 x3 z.1 z.2
theorem X12_areTogether_L6_t (G : kw_G) (Q : Option Value → kw_H → Prop) (hp : kw_H) (x0 : Nat) (x1 : Int32) (x2 : Int32) (x3 : Int32) (n : Nat) (z : Int32 × Int32) (r : Int32) (h : kp_lp (X12_areTogether_B6 hp x0 x1 x2 x3) n z = some r) (hK : Q (some (.int r)) hp) : kw_V G mX12_areTogether 6 [some (.ref x0), some (.int x1), some (.int x2), some (.int x3), some (.int z.1), some (.int z.2)] [] hp Q :=
  kv_lp _ (fun z => kw_V G mX12_areTogether 6 [some (.ref x0), some (.int x1), some (.int x2), some (.int x3), some (.int z.1), some (.int z.2)] [] hp Q) (fun r => Q (some (.int r)) hp) (fun z x hb hx => X12_areTogether_b6_t G Q hp x0 x1 x2 x3 z.1 z.2 x hb (by cases x <;> exact hx)) n z r h hK
def X12_areTogether_F (hp : kw_H) (x0 : Nat) (x1 : Int32) (x2 : Int32) (x3 : Int32) : Option (Int32) :=
  kp_lp (X12_areTogether_B6 hp x0 x1 x2 x3) 2000 (nI 0, nI 0)
set_option maxRecDepth 100000 in
set_option maxHeartbeats 4000000 in
theorem X12_areTogether_c (G : kw_G) (hp : kw_H) (x0 : Nat) (x1 : Int32) (x2 : Int32) (x3 : Int32) (r : Int32) (h : X12_areTogether_F hp x0 x1 x2 x3 = some r) : kw_Met G mX12_areTogether [.ref x0, .int x1, .int x2, .int x3] hp (fun v h2 => v = some (.int r) ∧ h2 = hp) := by
  refine kw_met (L := [some (.ref x0), some (.int x1), some (.int x2), some (.int x3), none, none]) (r := 2) (by decide +kernel) (Nat.le_of_ble_eq_true rfl) rfl ?_
  unfold X12_areTogether_F at h
  obtain ⟨Q, hQ⟩ : ∃ Q : Option Value → kw_H → Prop, Q = (fun v h2 => v = some (.int r) ∧ h2 = hp) := ⟨_, rfl⟩
  have hK : Q (some (.int r)) hp := by rw [hQ]; exact ⟨rfl, rfl⟩
  rw [← hQ]
  clear hQ
  refine kw_iconst (v := nI 0) dX12_areTogether_0 (by decide) ?_
  refine kw_istore (L' := [some (.ref x0), some (.int x1), some (.int x2), some (.int x3), some (.int (nI 0)), none]) dX12_areTogether_1 (by decide) rfl ?_
  refine kw_iconst (v := nI 0) dX12_areTogether_3 (by decide) ?_
  refine kw_istore (L' := [some (.ref x0), some (.int x1), some (.int x2), some (.int x3), some (.int (nI 0)), some (.int (nI 0))]) dX12_areTogether_4 (by decide) rfl ?_
  exact X12_areTogether_L6_t G Q hp x0 x1 x2 x3 _ (nI 0, nI 0) _ h hK
/-! KitchenWheelsModel.pairs(I)I -/
def X12_pairs_K32 (G : kw_G) (Q : Option Value → kw_H → Prop) (x0 : Nat) (x1 : Int32) (r : (Int32 × kw_H) ⊕ (Int32 × kw_H)) : Prop := match r with
  | .inl z => kw_V G mX12_pairs 32 [some (.ref x0), some (.int x1), some (.int z.1), none, none] [] z.2 Q
  | .inr r => Q (some (.int r.1)) r.2
def X12_pairs_K84 (G : kw_G) (Q : Option Value → kw_H → Prop) (hp : kw_H) (x0 : Nat) (x1 : Int32) (r : (Int32 × Int32) ⊕ (Int32 × kw_H)) : Prop := match r with
  | .inl z => kw_V G mX12_pairs 84 [some (.ref x0), some (.int x1), some (.int z.1), some (.int z.2), none] [] hp Q
  | .inr r => Q (some (.int r.1)) r.2
def X12_pairs_J130 (hp : kw_H) (x2 : Int32) : Option (Int32 × kw_H) :=
  some ((x2, hp))
set_option maxRecDepth 100000 in
set_option maxHeartbeats 4000000 in
theorem X12_pairs_J130_t (G : kw_G) (Q : Option Value → kw_H → Prop) (hp : kw_H) (x2 : Int32) (r : Int32 × kw_H) (h : X12_pairs_J130 hp x2 = some r) (hK : Q (some (.int r.1)) r.2) : kw_V G mX12_pairs 130 [none, none, some (.int x2), none, none] [] hp Q := by
  unfold X12_pairs_J130 at h
  refine kw_iload_n dX12_pairs_130 rfl ?_
  have h := Option.some.inj h
  subst h
  exact kw_iret rfl dX12_pairs_131 hK
def X12_pairs_K93 (G : kw_G) (Q : Option Value → kw_H → Prop) (hp : kw_H) (x0 : Nat) (x1 : Int32) (x3 : Int32) (r : (Int32 × Int32) ⊕ (((Int32 × Int32) ⊕ (Int32 × kw_H)))) : Prop := match r with
  | .inl z => kw_V G mX12_pairs 93 [some (.ref x0), some (.int x1), some (.int z.1), some (.int x3), some (.int z.2)] [] hp Q
  | .inr r => X12_pairs_K84 G Q hp x0 x1 r
def X12_pairs_J124 (hp : kw_H) (x0 : Nat) (x1 : Int32) (x2 : Int32) (x3 : Int32) : Option (((Int32 × Int32) ⊕ (Int32 × kw_H))) :=
  some (.inl (x2, x3 + (nI 1)))
set_option maxRecDepth 100000 in
set_option maxHeartbeats 4000000 in
theorem X12_pairs_J124_t (G : kw_G) (Q : Option Value → kw_H → Prop) (hp : kw_H) (x0 : Nat) (x1 : Int32) (x2 : Int32) (x3 : Int32) (r : ((Int32 × Int32) ⊕ (Int32 × kw_H))) (h : X12_pairs_J124 hp x0 x1 x2 x3 = some r) (hK : X12_pairs_K84 G Q hp x0 x1 r) : kw_V G mX12_pairs 124 [some (.ref x0), some (.int x1), some (.int x2), some (.int x3), none] [] hp Q := by
  unfold X12_pairs_J124 at h
  refine kv_iinc (w := nI 1) (L' := [some (.ref x0), some (.int x1), some (.int x2), some (.int (x3 + (nI 1))), none]) dX12_pairs_124 (by decide) rfl (by decide) rfl ?_
  refine kw_goto 84 dX12_pairs_127 (by decide) ?_
  have h := Option.some.inj h
  subst h
  exact hK
def X12_pairs_J116 (hp : kw_H) (x0 : Nat) (x1 : Int32) (x3 : Int32) (x4 : Int32) (s0 : Int32) (s1 : Int32) : Option (((Int32 × Int32) ⊕ (((Int32 × Int32) ⊕ (Int32 × kw_H))))) :=
  some (.inl (s1 + s0, x4 + (nI 1)))
set_option maxRecDepth 100000 in
set_option maxHeartbeats 4000000 in
theorem X12_pairs_J116_t (G : kw_G) (Q : Option Value → kw_H → Prop) (hp : kw_H) (x0 : Nat) (x1 : Int32) (x3 : Int32) (x4 : Int32) (s0 : Int32) (s1 : Int32) (r : ((Int32 × Int32) ⊕ (((Int32 × Int32) ⊕ (Int32 × kw_H))))) (h : X12_pairs_J116 hp x0 x1 x3 x4 s0 s1 = some r) (hK : X12_pairs_K93 G Q hp x0 x1 x3 r) : kw_V G mX12_pairs 116 [some (.ref x0), some (.int x1), none, some (.int x3), some (.int x4)] [.int s0, .int s1] hp Q := by
  unfold X12_pairs_J116 at h
  refine kw_iadd dX12_pairs_116 ?_
  refine kw_istore_n (L' := [some (.ref x0), some (.int x1), some (.int (s1 + s0)), some (.int x3), some (.int x4)]) dX12_pairs_117 (by decide) rfl ?_
  refine kv_iinc (w := nI 1) (L' := [some (.ref x0), some (.int x1), some (.int (s1 + s0)), some (.int x3), some (.int (x4 + (nI 1)))]) dX12_pairs_118 (by decide) rfl (by decide) rfl ?_
  refine kw_goto 93 dX12_pairs_121 (by decide) ?_
  have h := Option.some.inj h
  subst h
  exact hK
def X12_pairs_b93 (hp : kw_H) (x0 : Nat) (x1 : Int32) (x3 : Int32) (x2 : Int32) (x4 : Int32) : Option (((Int32 × Int32) ⊕ (((Int32 × Int32) ⊕ (Int32 × kw_H))))) :=
  (if x3 ≤ x4 then
  (X12_pairs_J124 hp x0 x1 x2 x3).map (fun r => .inr (r))
else
  ((kp_ob hp x0 11).bind fun _ => X12_areTogether_F hp x0 x3 x4 x1).bind fun r6 =>
  (if r6 = 0 then
  X12_pairs_J116 hp x0 x1 x3 x4 (nI 0) x2
else
  X12_pairs_J116 hp x0 x1 x3 x4 (nI 1) x2))
set_option maxRecDepth 100000 in
set_option maxHeartbeats 4000000 in
theorem X12_pairs_b93_t (G : kw_G) (Q : Option Value → kw_H → Prop) (hp : kw_H) (x0 : Nat) (x1 : Int32) (x3 : Int32) (x2 : Int32) (x4 : Int32) (r : ((Int32 × Int32) ⊕ (((Int32 × Int32) ⊕ (Int32 × kw_H))))) (h : X12_pairs_b93 hp x0 x1 x3 x2 x4 = some r) (hK : X12_pairs_K93 G Q hp x0 x1 x3 r) : kw_V G mX12_pairs 93 [some (.ref x0), some (.int x1), some (.int x2), some (.int x3), some (.int x4)] [] hp Q := by
  unfold X12_pairs_b93 at h
  refine kw_iload dX12_pairs_93 rfl ?_
  refine kw_iload_n dX12_pairs_95 rfl ?_
  refine kw_icmp_ge 124 dX12_pairs_96 (by decide) (fun c8 => ?_) (fun c8 => ?_)
  · have h := (if_pos c8).symm.trans h
    refine kw_mask [true, true, true, true, false] (L' := [some (.ref x0), some (.int x1), some (.int x2), some (.int x3), none]) rfl ?_
    obtain ⟨r5, hr5, hrr5⟩ := Option.map_eq_some_iff.mp h
    subst hrr5
    exact X12_pairs_J124_t G Q hp x0 x1 x2 x3 r5 hr5 hK
  · have h := (if_neg c8).symm.trans h
    refine kw_iload_n dX12_pairs_99 rfl ?_
    refine kw_aload_n dX12_pairs_100 rfl ?_
    refine kw_iload_n dX12_pairs_101 rfl ?_
    refine kw_iload dX12_pairs_102 rfl ?_
    refine kw_iload_n dX12_pairs_104 rfl ?_
    obtain ⟨r6, er6, h⟩ := Option.bind_eq_some_iff.mp h
    obtain ⟨ur6, eur6, er6⟩ := Option.bind_eq_some_iff.mp er6
    obtain ⟨fsr6, hor6⟩ := kp_ob_inv eur6
    refine kw_callV (As := [.int x3, .int x4, .int x1]) (S := [.int x2]) kcX12 cbX12_pairs_X12_areTogether lkX12_229 imX12_areTogether seX12_X12_areTogether_X12_areTogether rfl rfl (Nat.le_of_ble_eq_true rfl) dX12_pairs_105 hor6 (X12_areTogether_c G hp x0 x3 x4 x1 _ er6) (fun vv hh hq => ?_)
    rw [hq.1, hq.2]
    show kw_V G mX12_pairs 108 [some (.ref x0), some (.int x1), some (.int x2), some (.int x3), some (.int x4)] [.int r6, .int x2] hp Q
    refine kw_if_eq 115 dX12_pairs_108 (by decide) (fun c7 => ?_) (fun c7 => ?_)
    · have h := (if_pos c7).symm.trans h
      refine kw_iconst (v := nI 0) dX12_pairs_115 (by decide) ?_
      refine kw_mask [true, true, false, true, true] (L' := [some (.ref x0), some (.int x1), none, some (.int x3), some (.int x4)]) rfl ?_
      exact X12_pairs_J116_t G Q hp x0 x1 x3 x4 (nI 0) x2 _ h hK
    · have h := (if_neg c7).symm.trans h
      refine kw_iconst (v := nI 1) dX12_pairs_111 (by decide) ?_
      refine kw_goto 116 dX12_pairs_112 (by decide) ?_
      refine kw_mask [true, true, false, true, true] (L' := [some (.ref x0), some (.int x1), none, some (.int x3), some (.int x4)]) rfl ?_
      exact X12_pairs_J116_t G Q hp x0 x1 x3 x4 (nI 1) x2 _ h hK
def X12_pairs_B93 (hp : kw_H) (x0 : Nat) (x1 : Int32) (x3 : Int32) (z : Int32 × Int32) : Option (((Int32 × Int32) ⊕ (((Int32 × Int32) ⊕ (Int32 × kw_H))))) := X12_pairs_b93 hp x0 x1 x3 z.1 z.2
theorem X12_pairs_L93_t (G : kw_G) (Q : Option Value → kw_H → Prop) (hp : kw_H) (x0 : Nat) (x1 : Int32) (x3 : Int32) (n : Nat) (z : Int32 × Int32) (r : ((Int32 × Int32) ⊕ (Int32 × kw_H))) (h : kp_lp (X12_pairs_B93 hp x0 x1 x3) n z = some r) (hK : X12_pairs_K84 G Q hp x0 x1 r) : kw_V G mX12_pairs 93 [some (.ref x0), some (.int x1), some (.int z.1), some (.int x3), some (.int z.2)] [] hp Q :=
  kv_lp _ (fun z => kw_V G mX12_pairs 93 [some (.ref x0), some (.int x1), some (.int z.1), some (.int x3), some (.int z.2)] [] hp Q) (fun r => X12_pairs_K84 G Q hp x0 x1 r) (fun z x hb hx => X12_pairs_b93_t G Q hp x0 x1 x3 z.1 z.2 x hb (by cases x <;> exact hx)) n z r h hK
def X12_pairs_b84 (hp : kw_H) (x0 : Nat) (x1 : Int32) (x2 : Int32) (x3 : Int32) : Option (((Int32 × Int32) ⊕ (Int32 × kw_H))) :=
  (if (nI 6) ≤ x3 then
  (X12_pairs_J130 hp x2).map (fun r => .inr (r))
else
  kp_lp (X12_pairs_B93 hp x0 x1 x3) 2000 (x2, nI 0))
set_option maxRecDepth 100000 in
set_option maxHeartbeats 4000000 in
theorem X12_pairs_b84_t (G : kw_G) (Q : Option Value → kw_H → Prop) (hp : kw_H) (x0 : Nat) (x1 : Int32) (x2 : Int32) (x3 : Int32) (r : ((Int32 × Int32) ⊕ (Int32 × kw_H))) (h : X12_pairs_b84 hp x0 x1 x2 x3 = some r) (hK : X12_pairs_K84 G Q hp x0 x1 r) : kw_V G mX12_pairs 84 [some (.ref x0), some (.int x1), some (.int x2), some (.int x3), none] [] hp Q := by
  unfold X12_pairs_b84 at h
  refine kw_iload_n dX12_pairs_84 rfl ?_
  refine kw_bipush (v := nI 6) dX12_pairs_85 (by decide) ?_
  refine kw_icmp_ge 130 dX12_pairs_87 (by decide) (fun c9 => ?_) (fun c9 => ?_)
  · have h := (if_pos c9).symm.trans h
    refine kw_mask [false, false, true, false, true] (L' := [none, none, some (.int x2), none, none]) rfl ?_
    obtain ⟨r4, hr4, hrr4⟩ := Option.map_eq_some_iff.mp h
    subst hrr4
    exact X12_pairs_J130_t G Q hp x2 r4 hr4 hK
  · have h := (if_neg c9).symm.trans h
    refine kw_iconst (v := nI 0) dX12_pairs_90 (by decide) ?_
    refine kw_istore (L' := [some (.ref x0), some (.int x1), some (.int x2), some (.int x3), some (.int (nI 0))]) dX12_pairs_91 (by decide) rfl ?_
    exact X12_pairs_L93_t G Q hp x0 x1 x3 _ (x2, nI 0) _ h hK
def X12_pairs_B84 (hp : kw_H) (x0 : Nat) (x1 : Int32) (z : Int32 × Int32) : Option (((Int32 × Int32) ⊕ (Int32 × kw_H))) := X12_pairs_b84 hp x0 x1 z.1 z.2
theorem X12_pairs_L84_t (G : kw_G) (Q : Option Value → kw_H → Prop) (hp : kw_H) (x0 : Nat) (x1 : Int32) (n : Nat) (z : Int32 × Int32) (r : Int32 × kw_H) (h : kp_lp (X12_pairs_B84 hp x0 x1) n z = some r) (hK : Q (some (.int r.1)) r.2) : kw_V G mX12_pairs 84 [some (.ref x0), some (.int x1), some (.int z.1), some (.int z.2), none] [] hp Q :=
  kv_lp _ (fun z => kw_V G mX12_pairs 84 [some (.ref x0), some (.int x1), some (.int z.1), some (.int z.2), none] [] hp Q) (fun r => Q (some (.int r.1)) r.2) (fun z x hb hx => X12_pairs_b84_t G Q hp x0 x1 z.1 z.2 x hb (by cases x <;> exact hx)) n z r h hK
def X12_pairs_J80 (hp : kw_H) (x0 : Nat) (x1 : Int32) : Option (Int32 × kw_H) :=
  kp_lp (X12_pairs_B84 hp x0 x1) 2000 (nI 0, nI 0)
set_option maxRecDepth 100000 in
set_option maxHeartbeats 4000000 in
theorem X12_pairs_J80_t (G : kw_G) (Q : Option Value → kw_H → Prop) (hp : kw_H) (x0 : Nat) (x1 : Int32) (r : Int32 × kw_H) (h : X12_pairs_J80 hp x0 x1 = some r) (hK : Q (some (.int r.1)) r.2) : kw_V G mX12_pairs 80 [some (.ref x0), some (.int x1), none, none, none] [] hp Q := by
  unfold X12_pairs_J80 at h
  refine kw_iconst (v := nI 0) dX12_pairs_80 (by decide) ?_
  refine kw_istore_n (L' := [some (.ref x0), some (.int x1), some (.int (nI 0)), none, none]) dX12_pairs_81 (by decide) rfl ?_
  refine kw_iconst (v := nI 0) dX12_pairs_82 (by decide) ?_
  refine kw_istore_n (L' := [some (.ref x0), some (.int x1), some (.int (nI 0)), some (.int (nI 0)), none]) dX12_pairs_83 (by decide) rfl ?_
  exact X12_pairs_L84_t G Q hp x0 x1 _ (nI 0, nI 0) _ h hK
def X12_pairs_K39 (G : kw_G) (Q : Option Value → kw_H → Prop) (x0 : Nat) (x1 : Int32) (x2 : Int32) (r : (Int32 × kw_H) ⊕ (((Int32 × kw_H) ⊕ (Int32 × kw_H)))) : Prop := match r with
  | .inl z => kw_V G mX12_pairs 39 [some (.ref x0), some (.int x1), some (.int x2), some (.int z.1), none] [] z.2 Q
  | .inr r => X12_pairs_K32 G Q x0 x1 r
def X12_pairs_J67 (hp : kw_H) (x0 : Nat) (x1 : Int32) (x2 : Int32) : Option (((Int32 × kw_H) ⊕ (Int32 × kw_H))) :=
  ((kp_ob hp x0 11).bind fun _ => X12_passAsTold_F hp x0 (nI 1782)).bind fun r11 =>
  some (.inl (x2 + (nI 1), r11))
set_option maxRecDepth 100000 in
set_option maxHeartbeats 4000000 in
theorem X12_pairs_J67_t (G : kw_G) (Q : Option Value → kw_H → Prop) (hp : kw_H) (x0 : Nat) (x1 : Int32) (x2 : Int32) (r : ((Int32 × kw_H) ⊕ (Int32 × kw_H))) (h : X12_pairs_J67 hp x0 x1 x2 = some r) (hK : X12_pairs_K32 G Q x0 x1 r) : kw_V G mX12_pairs 67 [some (.ref x0), some (.int x1), some (.int x2), none, none] [] hp Q := by
  unfold X12_pairs_J67 at h
  refine kw_aload_n dX12_pairs_67 rfl ?_
  refine kw_sipush (v := nI 1782) dX12_pairs_68 (by decide) ?_
  obtain ⟨r11, er11, h⟩ := Option.bind_eq_some_iff.mp h
  obtain ⟨ur11, eur11, er11⟩ := Option.bind_eq_some_iff.mp er11
  obtain ⟨fsr11, hor11⟩ := kp_ob_inv eur11
  refine kw_callV (As := [.int (nI 1782)]) (S := []) kcX12 cbX12_pairs_X12_passAsTold lkX12_167 imX12_passAsTold seX12_X12_passAsTold_X12_passAsTold rfl rfl (Nat.le_of_ble_eq_true rfl) dX12_pairs_71 hor11 (X12_passAsTold_c G hp x0 (nI 1782) _ er11) (fun vv hh hq => ?_)
  rw [hq.1, hq.2]
  show kw_V G mX12_pairs 74 [some (.ref x0), some (.int x1), some (.int x2), none, none] [] r11 Q
  refine kv_iinc (w := nI 1) (L' := [some (.ref x0), some (.int x1), some (.int (x2 + (nI 1))), none, none]) dX12_pairs_74 (by decide) rfl (by decide) rfl ?_
  refine kw_goto 32 dX12_pairs_77 (by decide) ?_
  have h := Option.some.inj h
  subst h
  exact hK
def X12_pairs_b39 (x0 : Nat) (x1 : Int32) (x2 : Int32) (x3 : Int32) (hp : kw_H) : Option (((Int32 × kw_H) ⊕ (((Int32 × kw_H) ⊕ (Int32 × kw_H))))) :=
  (if (nI 6) ≤ x3 then
  (X12_pairs_J67 hp x0 x1 x2).map (fun r => .inr (r))
else
  (kp_gR hp x0 [11] 16).bind fun v13 =>
  ((kp_ob hp x0 11).bind fun _ => X12_doersTried_F hp x0 x3).bind fun r14 =>
  (kp_stI hp v13 (((nI 6) * x2) + x3) r14).bind fun hp15 =>
  some (.inl (x3 + (nI 1), hp15)))
set_option maxRecDepth 100000 in
set_option maxHeartbeats 4000000 in
theorem X12_pairs_b39_t (G : kw_G) (Q : Option Value → kw_H → Prop) (x0 : Nat) (x1 : Int32) (x2 : Int32) (x3 : Int32) (hp : kw_H) (r : ((Int32 × kw_H) ⊕ (((Int32 × kw_H) ⊕ (Int32 × kw_H))))) (h : X12_pairs_b39 x0 x1 x2 x3 hp = some r) (hK : X12_pairs_K39 G Q x0 x1 x2 r) : kw_V G mX12_pairs 39 [some (.ref x0), some (.int x1), some (.int x2), some (.int x3), none] [] hp Q := by
  unfold X12_pairs_b39 at h
  refine kw_iload_n dX12_pairs_39 rfl ?_
  refine kw_bipush (v := nI 6) dX12_pairs_40 (by decide) ?_
  refine kw_icmp_ge 67 dX12_pairs_42 (by decide) (fun c16 => ?_) (fun c16 => ?_)
  · have h := (if_pos c16).symm.trans h
    refine kw_mask [true, true, true, false, true] (L' := [some (.ref x0), some (.int x1), some (.int x2), none, none]) rfl ?_
    obtain ⟨r12, hr12, hrr12⟩ := Option.map_eq_some_iff.mp h
    subst hrr12
    exact X12_pairs_J67_t G Q hp x0 x1 x2 r12 hr12 hK
  · have h := (if_neg c16).symm.trans h
    refine kw_aload_n dX12_pairs_45 rfl ?_
    obtain ⟨v13, ev13, h⟩ := Option.bind_eq_some_iff.mp h
    refine kv_gR gfX12_32 dX12_pairs_46 ev13 ?_
    refine kw_bipush (v := nI 6) dX12_pairs_49 (by decide) ?_
    refine kw_iload_n dX12_pairs_51 rfl ?_
    refine kw_imul dX12_pairs_52 ?_
    refine kw_iload_n dX12_pairs_53 rfl ?_
    refine kw_iadd dX12_pairs_54 ?_
    refine kw_aload_n dX12_pairs_55 rfl ?_
    refine kw_iload_n dX12_pairs_56 rfl ?_
    obtain ⟨r14, er14, h⟩ := Option.bind_eq_some_iff.mp h
    obtain ⟨ur14, eur14, er14⟩ := Option.bind_eq_some_iff.mp er14
    obtain ⟨fsr14, hor14⟩ := kp_ob_inv eur14
    refine kw_callV (As := [.int x3]) (S := [.int (((nI 6) * x2) + x3), .ref v13]) kcX12 cbX12_pairs_X12_doersTried lkX12_194 imX12_doersTried seX12_X12_doersTried_X12_doersTried rfl rfl (Nat.le_of_ble_eq_true rfl) dX12_pairs_57 hor14 (X12_doersTried_c G hp x0 x3 _ er14) (fun vv hh hq => ?_)
    rw [hq.1, hq.2]
    show kw_V G mX12_pairs 60 [some (.ref x0), some (.int x1), some (.int x2), some (.int x3), none] [.int r14, .int (((nI 6) * x2) + x3), .ref v13] hp Q
    obtain ⟨hp15, ehp15, h⟩ := Option.bind_eq_some_iff.mp h
    refine kv_stI dX12_pairs_60 ehp15 ?_
    refine kv_iinc (w := nI 1) (L' := [some (.ref x0), some (.int x1), some (.int x2), some (.int (x3 + (nI 1))), none]) dX12_pairs_61 (by decide) rfl (by decide) rfl ?_
    refine kw_goto 39 dX12_pairs_64 (by decide) ?_
    have h := Option.some.inj h
    subst h
    exact hK
def X12_pairs_B39 (x0 : Nat) (x1 : Int32) (x2 : Int32) (z : Int32 × kw_H) : Option (((Int32 × kw_H) ⊕ (((Int32 × kw_H) ⊕ (Int32 × kw_H))))) := X12_pairs_b39 x0 x1 x2 z.1 z.2
theorem X12_pairs_L39_t (G : kw_G) (Q : Option Value → kw_H → Prop) (x0 : Nat) (x1 : Int32) (x2 : Int32) (n : Nat) (z : Int32 × kw_H) (r : ((Int32 × kw_H) ⊕ (Int32 × kw_H))) (h : kp_lp (X12_pairs_B39 x0 x1 x2) n z = some r) (hK : X12_pairs_K32 G Q x0 x1 r) : kw_V G mX12_pairs 39 [some (.ref x0), some (.int x1), some (.int x2), some (.int z.1), none] [] z.2 Q :=
  kv_lp _ (fun z => kw_V G mX12_pairs 39 [some (.ref x0), some (.int x1), some (.int x2), some (.int z.1), none] [] z.2 Q) (fun r => X12_pairs_K32 G Q x0 x1 r) (fun z x hb hx => X12_pairs_b39_t G Q x0 x1 x2 z.1 z.2 x hb (by cases x <;> exact hx)) n z r h hK
def X12_pairs_b32 (x0 : Nat) (x1 : Int32) (x2 : Int32) (hp : kw_H) : Option (((Int32 × kw_H) ⊕ (Int32 × kw_H))) :=
  (if x1 ≤ x2 then
  (X12_pairs_J80 hp x0 x1).map (fun r => .inr (r))
else
  kp_lp (X12_pairs_B39 x0 x1 x2) 2000 (nI 0, hp))
set_option maxRecDepth 100000 in
set_option maxHeartbeats 4000000 in
theorem X12_pairs_b32_t (G : kw_G) (Q : Option Value → kw_H → Prop) (x0 : Nat) (x1 : Int32) (x2 : Int32) (hp : kw_H) (r : ((Int32 × kw_H) ⊕ (Int32 × kw_H))) (h : X12_pairs_b32 x0 x1 x2 hp = some r) (hK : X12_pairs_K32 G Q x0 x1 r) : kw_V G mX12_pairs 32 [some (.ref x0), some (.int x1), some (.int x2), none, none] [] hp Q := by
  unfold X12_pairs_b32 at h
  refine kw_iload_n dX12_pairs_32 rfl ?_
  refine kw_iload_n dX12_pairs_33 rfl ?_
  refine kw_icmp_ge 80 dX12_pairs_34 (by decide) (fun c17 => ?_) (fun c17 => ?_)
  · have h := (if_pos c17).symm.trans h
    refine kw_mask [true, true, false, true, true] (L' := [some (.ref x0), some (.int x1), none, none, none]) rfl ?_
    obtain ⟨r10, hr10, hrr10⟩ := Option.map_eq_some_iff.mp h
    subst hrr10
    exact X12_pairs_J80_t G Q hp x0 x1 r10 hr10 hK
  · have h := (if_neg c17).symm.trans h
    refine kw_iconst (v := nI 0) dX12_pairs_37 (by decide) ?_
    refine kw_istore_n (L' := [some (.ref x0), some (.int x1), some (.int x2), some (.int (nI 0)), none]) dX12_pairs_38 (by decide) rfl ?_
    exact X12_pairs_L39_t G Q x0 x1 x2 _ (nI 0, hp) _ h hK
def X12_pairs_B32 (x0 : Nat) (x1 : Int32) (z : Int32 × kw_H) : Option (((Int32 × kw_H) ⊕ (Int32 × kw_H))) := X12_pairs_b32 x0 x1 z.1 z.2
theorem X12_pairs_L32_t (G : kw_G) (Q : Option Value → kw_H → Prop) (x0 : Nat) (x1 : Int32) (n : Nat) (z : Int32 × kw_H) (r : Int32 × kw_H) (h : kp_lp (X12_pairs_B32 x0 x1) n z = some r) (hK : Q (some (.int r.1)) r.2) : kw_V G mX12_pairs 32 [some (.ref x0), some (.int x1), some (.int z.1), none, none] [] z.2 Q :=
  kv_lp _ (fun z => kw_V G mX12_pairs 32 [some (.ref x0), some (.int x1), some (.int z.1), none, none] [] z.2 Q) (fun r => Q (some (.int r.1)) r.2) (fun z x hb hx => X12_pairs_b32_t G Q x0 x1 z.1 z.2 x hb (by cases x <;> exact hx)) n z r h hK
def X12_pairs_F (hp : kw_H) (x0 : Nat) (x1 : Int32) : Option (Int32 × kw_H) :=
  (kp_gI hp x0 [11] 1).bind fun v1 =>
  (if v1 = 0 then
  some (((-1000002), hp))
else
  (X12_in_F hp (Int32.toInt64 x1) (lN 1) (lN 60)).bind fun r2 =>
  (if r2 = 0 then
  some (((-1000001), hp))
else
  ((kp_ob hp x0 11).bind fun _ => X12_layTried_F hp x0 (nI 0)).bind fun r3 =>
  kp_lp (X12_pairs_B32 x0 x1) 2000 (nI 0, r3)))
set_option maxRecDepth 100000 in
set_option maxHeartbeats 4000000 in
theorem X12_pairs_c (G : kw_G) (hp : kw_H) (x0 : Nat) (x1 : Int32) (r : Int32 × kw_H) (h : X12_pairs_F hp x0 x1 = some r) : kw_Met G mX12_pairs [.ref x0, .int x1] hp (fun v h2 => v = some (.int r.1) ∧ h2 = r.2) := by
  refine kw_met (L := [some (.ref x0), some (.int x1), none, none, none]) (r := 3) (by decide +kernel) (Nat.le_of_ble_eq_true rfl) rfl ?_
  unfold X12_pairs_F at h
  obtain ⟨Q, hQ⟩ : ∃ Q : Option Value → kw_H → Prop, Q = (fun v h2 => v = some (.int r.1) ∧ h2 = r.2) := ⟨_, rfl⟩
  have hK : Q (some (.int r.1)) r.2 := by rw [hQ]; exact ⟨rfl, rfl⟩
  rw [← hQ]
  clear hQ
  refine kw_aload_n dX12_pairs_0 rfl ?_
  obtain ⟨v1, ev1, h⟩ := Option.bind_eq_some_iff.mp h
  refine kv_gI gfX12_132 dX12_pairs_1 ev1 ?_
  refine kw_if_ne 10 dX12_pairs_4 (by decide) (fun c19 => ?_) (fun c19 => ?_)
  · have h := (if_neg c19).symm.trans h
    refine kw_iload_n dX12_pairs_10 rfl ?_
    refine kw_i2l dX12_pairs_11 ?_
    refine kw_lconst (v := lN 1) dX12_pairs_12 (by decide) ?_
    refine kw_ldc2_w (v := lN 60) dX12_pairs_13 ckX12_186 ?_
    obtain ⟨r2, er2, h⟩ := Option.bind_eq_some_iff.mp h
    refine kw_callS (As := [.long (Int32.toInt64 x1), .long (lN 1), .long (lN 60)]) (S := []) cbX12_pairs_X12_in lkX12_42 stX12_in rfl rfl (Nat.le_of_ble_eq_true rfl) dX12_pairs_16 (X12_in_c G hp (Int32.toInt64 x1) (lN 1) (lN 60) _ er2) (fun vv hh hq => ?_)
    rw [hq.1, hq.2]
    show kw_V G mX12_pairs 19 [some (.ref x0), some (.int x1), none, none, none] [.int r2] hp Q
    refine kw_if_ne 25 dX12_pairs_19 (by decide) (fun c18 => ?_) (fun c18 => ?_)
    · have h := (if_neg c18).symm.trans h
      refine kw_aload_n dX12_pairs_25 rfl ?_
      refine kw_iconst (v := nI 0) dX12_pairs_26 (by decide) ?_
      obtain ⟨r3, er3, h⟩ := Option.bind_eq_some_iff.mp h
      obtain ⟨ur3, eur3, er3⟩ := Option.bind_eq_some_iff.mp er3
      obtain ⟨fsr3, hor3⟩ := kp_ob_inv eur3
      refine kw_callV (As := [.int (nI 0)]) (S := []) kcX12 cbX12_pairs_X12_layTried lkX12_188 imX12_layTried seX12_X12_layTried_X12_layTried rfl rfl (Nat.le_of_ble_eq_true rfl) dX12_pairs_27 hor3 (X12_layTried_c G hp x0 (nI 0) _ er3) (fun vv hh hq => ?_)
      rw [hq.1, hq.2]
      show kw_V G mX12_pairs 30 [some (.ref x0), some (.int x1), none, none, none] [] r3 Q
      refine kw_iconst (v := nI 0) dX12_pairs_30 (by decide) ?_
      refine kw_istore_n (L' := [some (.ref x0), some (.int x1), some (.int (nI 0)), none, none]) dX12_pairs_31 (by decide) rfl ?_
      exact X12_pairs_L32_t G Q x0 x1 _ (nI 0, r3) _ h hK
    · have h := (if_pos c18).symm.trans h
      refine kw_ldc (v := (-1000001)) dX12_pairs_22 ckX12_52 ?_
      have h := Option.some.inj h
      subst h
      exact kw_iret rfl dX12_pairs_24 hK
  · have h := (if_pos c19).symm.trans h
    refine kw_ldc (v := (-1000002)) dX12_pairs_7 ckX12_139 ?_
    have h := Option.some.inj h
    subst h
    exact kw_iret rfl dX12_pairs_9 hK
