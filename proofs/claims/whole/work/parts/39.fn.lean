/-! KitchenWheelsModel.forgets(IIIII)J -/
def X12_forgets_K74 (G : kw_G) (Q : Option Value → kw_H → Prop) (x0 : Nat) (x1 : Int32) (x2 : Int32) (x3 : Int32) (x4 : Int32) (x5 : Int32) (r : (Int64 × Int64 × Int32 × kw_H) ⊕ (Int64 × kw_H)) : Prop := match r with
  | .inl z => kw_V G mX12_forgets 74 [some (.ref x0), some (.int x1), some (.int x2), some (.int x3), some (.int x4), some (.int x5), some (.long z.1), none, some (.long z.2.1), none, some (.int z.2.2.1), none, none, none, none, none] [] z.2.2.2 Q
  | .inr r => Q (some (.long r.1)) r.2
def X12_forgets_K218 (G : kw_G) (Q : Option Value → kw_H → Prop) (hp : kw_H) (x5 : Int32) (x6 : Int64) (x8 : Int64) (r : (Int64 × Int64) ⊕ (Int64 × kw_H)) : Prop := match r with
  | .inl z => kw_V G mX12_forgets 218 [none, none, none, none, none, some (.int x5), some (.long x6), none, some (.long x8), none, some (.long z.1), none, some (.long z.2), none, none, none] [] hp Q
  | .inr r => Q (some (.long r.1)) r.2
def X12_forgets_J243 (hp : kw_H) (x5 : Int32) (x6 : Int64) (x8 : Int64) (x10 : Int64) : Option (Int64 × kw_H) :=
  (if x5 = 0 then
  (kp_divL x6 x10).bind fun v8 =>
  some ((v8, hp))
else
  (kp_divL x8 x10).bind fun v7 =>
  some ((v7, hp)))
set_option maxRecDepth 100000 in
set_option maxHeartbeats 4000000 in
theorem X12_forgets_J243_t (G : kw_G) (Q : Option Value → kw_H → Prop) (hp : kw_H) (x5 : Int32) (x6 : Int64) (x8 : Int64) (x10 : Int64) (r : Int64 × kw_H) (h : X12_forgets_J243 hp x5 x6 x8 x10 = some r) (hK : Q (some (.long r.1)) r.2) : kw_V G mX12_forgets 243 [none, none, none, none, none, some (.int x5), some (.long x6), none, some (.long x8), none, some (.long x10), none, none, none, none, none] [] hp Q := by
  unfold X12_forgets_J243 at h
  refine kw_iload dX12_forgets_243 rfl ?_
  refine kw_if_ne 256 dX12_forgets_245 (by decide) (fun c9 => ?_) (fun c9 => ?_)
  · have h := (if_neg c9).symm.trans h
    refine kw_lload dX12_forgets_256 rfl ?_
    refine kw_lload dX12_forgets_258 rfl ?_
    obtain ⟨v7, ev7, h⟩ := Option.bind_eq_some_iff.mp h
    refine kv_ldiv dX12_forgets_260 ev7 ?_
    have h := Option.some.inj h
    subst h
    exact kw_lret rfl dX12_forgets_261 hK
  · have h := (if_pos c9).symm.trans h
    refine kw_lload dX12_forgets_248 rfl ?_
    refine kw_lload dX12_forgets_250 rfl ?_
    obtain ⟨v8, ev8, h⟩ := Option.bind_eq_some_iff.mp h
    refine kv_ldiv dX12_forgets_252 ev8 ?_
    refine kw_goto 261 dX12_forgets_253 (by decide) ?_
    have h := Option.some.inj h
    subst h
    exact kw_lret rfl dX12_forgets_261 hK
def X12_forgets_b218 (hp : kw_H) (x5 : Int32) (x6 : Int64) (x8 : Int64) (x10 : Int64) (x12 : Int64) : Option (((Int64 × Int64) ⊕ (Int64 × kw_H))) :=
  (if (lg_cmp x12 (lN 0)) = 0 then
  (X12_forgets_J243 hp x5 x6 x8 x10).map (fun r => .inr (r))
else
  (kp_remL x10 x12).bind fun v11 =>
  some (.inl (x12, v11)))
set_option maxRecDepth 100000 in
set_option maxHeartbeats 4000000 in
theorem X12_forgets_b218_t (G : kw_G) (Q : Option Value → kw_H → Prop) (hp : kw_H) (x5 : Int32) (x6 : Int64) (x8 : Int64) (x10 : Int64) (x12 : Int64) (r : ((Int64 × Int64) ⊕ (Int64 × kw_H))) (h : X12_forgets_b218 hp x5 x6 x8 x10 x12 = some r) (hK : X12_forgets_K218 G Q hp x5 x6 x8 r) : kw_V G mX12_forgets 218 [none, none, none, none, none, some (.int x5), some (.long x6), none, some (.long x8), none, some (.long x10), none, some (.long x12), none, none, none] [] hp Q := by
  unfold X12_forgets_b218 at h
  refine kw_lload dX12_forgets_218 rfl ?_
  refine kw_lconst (v := lN 0) dX12_forgets_220 (by decide) ?_
  refine kw_lcmp dX12_forgets_221 ?_
  refine kw_if_eq 243 dX12_forgets_222 (by decide) (fun c12 => ?_) (fun c12 => ?_)
  · have h := (if_pos c12).symm.trans h
    refine kw_mask [true, true, true, true, true, true, true, true, true, true, true, true, false, true, true, true] (L' := [none, none, none, none, none, some (.int x5), some (.long x6), none, some (.long x8), none, some (.long x10), none, none, none, none, none]) rfl ?_
    obtain ⟨r10, hr10, hrr10⟩ := Option.map_eq_some_iff.mp h
    subst hrr10
    exact X12_forgets_J243_t G Q hp x5 x6 x8 x10 r10 hr10 hK
  · have h := (if_neg c12).symm.trans h
    refine kw_lload dX12_forgets_225 rfl ?_
    refine kw_lload dX12_forgets_227 rfl ?_
    obtain ⟨v11, ev11, h⟩ := Option.bind_eq_some_iff.mp h
    refine kv_lrem dX12_forgets_229 ev11 ?_
    refine kw_lstore (L' := [none, none, none, none, none, some (.int x5), some (.long x6), none, some (.long x8), none, some (.long x10), none, some (.long x12), none, some (.long v11), none]) dX12_forgets_230 (by decide) rfl ?_
    refine kw_lload dX12_forgets_232 rfl ?_
    refine kw_lstore (L' := [none, none, none, none, none, some (.int x5), some (.long x6), none, some (.long x8), none, some (.long x12), none, some (.long x12), none, some (.long v11), none]) dX12_forgets_234 (by decide) rfl ?_
    refine kw_lload dX12_forgets_236 rfl ?_
    refine kw_lstore (L' := [none, none, none, none, none, some (.int x5), some (.long x6), none, some (.long x8), none, some (.long x12), none, some (.long v11), none, some (.long v11), none]) dX12_forgets_238 (by decide) rfl ?_
    refine kw_goto 218 dX12_forgets_240 (by decide) ?_
    refine kw_mask [true, true, true, true, true, true, true, true, true, true, true, true, true, true, false, true] (L' := [none, none, none, none, none, some (.int x5), some (.long x6), none, some (.long x8), none, some (.long x12), none, some (.long v11), none, none, none]) rfl ?_
    have h := Option.some.inj h
    subst h
    exact hK
def X12_forgets_B218 (hp : kw_H) (x5 : Int32) (x6 : Int64) (x8 : Int64) (z : Int64 × Int64) : Option (((Int64 × Int64) ⊕ (Int64 × kw_H))) := X12_forgets_b218 hp x5 x6 x8 z.1 z.2
theorem X12_forgets_L218_t (G : kw_G) (Q : Option Value → kw_H → Prop) (hp : kw_H) (x5 : Int32) (x6 : Int64) (x8 : Int64) (n : Nat) (z : Int64 × Int64) (r : Int64 × kw_H) (h : kp_lp (X12_forgets_B218 hp x5 x6 x8) n z = some r) (hK : Q (some (.long r.1)) r.2) : kw_V G mX12_forgets 218 [none, none, none, none, none, some (.int x5), some (.long x6), none, some (.long x8), none, some (.long z.1), none, some (.long z.2), none, none, none] [] hp Q :=
  kv_lp _ (fun z => kw_V G mX12_forgets 218 [none, none, none, none, none, some (.int x5), some (.long x6), none, some (.long x8), none, some (.long z.1), none, some (.long z.2), none, none, none] [] hp Q) (fun r => Q (some (.long r.1)) r.2) (fun z x hb hx => X12_forgets_b218_t G Q hp x5 x6 x8 z.1 z.2 x hb (by cases x <;> exact hx)) n z r h hK
def X12_forgets_J210 (hp : kw_H) (x5 : Int32) (x6 : Int64) (x8 : Int64) : Option (Int64 × kw_H) :=
  kp_lp (X12_forgets_B218 hp x5 x6 x8) 2000 (x6, x8)
set_option maxRecDepth 100000 in
set_option maxHeartbeats 4000000 in
theorem X12_forgets_J210_t (G : kw_G) (Q : Option Value → kw_H → Prop) (hp : kw_H) (x5 : Int32) (x6 : Int64) (x8 : Int64) (r : Int64 × kw_H) (h : X12_forgets_J210 hp x5 x6 x8 = some r) (hK : Q (some (.long r.1)) r.2) : kw_V G mX12_forgets 210 [none, none, none, none, none, some (.int x5), some (.long x6), none, some (.long x8), none, none, none, none, none, none, none] [] hp Q := by
  unfold X12_forgets_J210 at h
  refine kw_lload dX12_forgets_210 rfl ?_
  refine kw_lstore (L' := [none, none, none, none, none, some (.int x5), some (.long x6), none, some (.long x8), none, some (.long x6), none, none, none, none, none]) dX12_forgets_212 (by decide) rfl ?_
  refine kw_lload dX12_forgets_214 rfl ?_
  refine kw_lstore (L' := [none, none, none, none, none, some (.int x5), some (.long x6), none, some (.long x8), none, some (.long x6), none, some (.long x8), none, none, none]) dX12_forgets_216 (by decide) rfl ?_
  exact X12_forgets_L218_t G Q hp x5 x6 x8 _ (x6, x8) _ h hK
def X12_forgets_K96 (G : kw_G) (Q : Option Value → kw_H → Prop) (x0 : Nat) (x1 : Int32) (x2 : Int32) (x3 : Int32) (x4 : Int32) (x5 : Int32) (x6 : Int64) (x8 : Int64) (x10 : Int32) (r : (Int64 × Int32 × kw_H) ⊕ (((Int64 × Int64 × Int32 × kw_H) ⊕ (Int64 × kw_H)))) : Prop := match r with
  | .inl z => kw_V G mX12_forgets 96 [some (.ref x0), some (.int x1), some (.int x2), some (.int x3), some (.int x4), some (.int x5), some (.long x6), none, some (.long x8), none, some (.int x10), some (.long z.1), none, some (.int z.2.1), none, none] [] z.2.2 Q
  | .inr r => X12_forgets_K74 G Q x0 x1 x2 x3 x4 x5 r
def X12_forgets_J194 (hp : kw_H) (x0 : Nat) (x1 : Int32) (x2 : Int32) (x3 : Int32) (x4 : Int32) (x5 : Int32) (x8 : Int64) (x10 : Int32) (x11 : Int64) (s0 : Int64) (s1 : Int64) : Option (((Int64 × Int64 × Int32 × kw_H) ⊕ (Int64 × kw_H))) :=
  some (.inl (s1 + s0, x8 + x11, x10 + (nI 1), hp))
set_option maxRecDepth 100000 in
set_option maxHeartbeats 4000000 in
theorem X12_forgets_J194_t (G : kw_G) (Q : Option Value → kw_H → Prop) (hp : kw_H) (x0 : Nat) (x1 : Int32) (x2 : Int32) (x3 : Int32) (x4 : Int32) (x5 : Int32) (x8 : Int64) (x10 : Int32) (x11 : Int64) (s0 : Int64) (s1 : Int64) (r : ((Int64 × Int64 × Int32 × kw_H) ⊕ (Int64 × kw_H))) (h : X12_forgets_J194 hp x0 x1 x2 x3 x4 x5 x8 x10 x11 s0 s1 = some r) (hK : X12_forgets_K74 G Q x0 x1 x2 x3 x4 x5 r) : kw_V G mX12_forgets 194 [some (.ref x0), some (.int x1), some (.int x2), some (.int x3), some (.int x4), some (.int x5), none, none, some (.long x8), none, some (.int x10), some (.long x11), none, none, none, none] [.long s0, .long s1] hp Q := by
  unfold X12_forgets_J194 at h
  refine kw_ladd dX12_forgets_194 ?_
  refine kw_lstore (L' := [some (.ref x0), some (.int x1), some (.int x2), some (.int x3), some (.int x4), some (.int x5), some (.long (s1 + s0)), none, some (.long x8), none, some (.int x10), some (.long x11), none, none, none, none]) dX12_forgets_195 (by decide) rfl ?_
  refine kw_lload dX12_forgets_197 rfl ?_
  refine kw_lload dX12_forgets_199 rfl ?_
  refine kw_ladd dX12_forgets_201 ?_
  refine kw_lstore (L' := [some (.ref x0), some (.int x1), some (.int x2), some (.int x3), some (.int x4), some (.int x5), some (.long (s1 + s0)), none, some (.long (x8 + x11)), none, some (.int x10), some (.long x11), none, none, none, none]) dX12_forgets_202 (by decide) rfl ?_
  refine kv_iinc (w := nI 1) (L' := [some (.ref x0), some (.int x1), some (.int x2), some (.int x3), some (.int x4), some (.int x5), some (.long (s1 + s0)), none, some (.long (x8 + x11)), none, some (.int (x10 + (nI 1))), some (.long x11), none, none, none, none]) dX12_forgets_204 (by decide) rfl (by decide) rfl ?_
  refine kw_goto 74 dX12_forgets_207 (by decide) ?_
  refine kw_mask [true, true, true, true, true, true, true, true, true, true, true, false, true, true, true, true] (L' := [some (.ref x0), some (.int x1), some (.int x2), some (.int x3), some (.int x4), some (.int x5), some (.long (s1 + s0)), none, some (.long (x8 + x11)), none, some (.int (x10 + (nI 1))), none, none, none, none, none]) rfl ?_
  have h := Option.some.inj h
  subst h
  exact hK
def X12_forgets_J177 (hp : kw_H) (x0 : Nat) (x1 : Int32) (x2 : Int32) (x3 : Int32) (x4 : Int32) (x5 : Int32) (x6 : Int64) (x8 : Int64) (x10 : Int32) (x11 : Int64) : Option (((Int64 × Int64 × Int32 × kw_H) ⊕ (Int64 × kw_H))) :=
  ((kp_ob hp x0 11).bind fun _ => X12_doesTried_F hp x0 x1 x2).bind fun r15 =>
  (if r15 = 0 then
  X12_forgets_J194 hp x0 x1 x2 x3 x4 x5 x8 x10 x11 (lN 0) x6
else
  X12_forgets_J194 hp x0 x1 x2 x3 x4 x5 x8 x10 x11 x11 x6)
set_option maxRecDepth 100000 in
set_option maxHeartbeats 4000000 in
theorem X12_forgets_J177_t (G : kw_G) (Q : Option Value → kw_H → Prop) (hp : kw_H) (x0 : Nat) (x1 : Int32) (x2 : Int32) (x3 : Int32) (x4 : Int32) (x5 : Int32) (x6 : Int64) (x8 : Int64) (x10 : Int32) (x11 : Int64) (r : ((Int64 × Int64 × Int32 × kw_H) ⊕ (Int64 × kw_H))) (h : X12_forgets_J177 hp x0 x1 x2 x3 x4 x5 x6 x8 x10 x11 = some r) (hK : X12_forgets_K74 G Q x0 x1 x2 x3 x4 x5 r) : kw_V G mX12_forgets 177 [some (.ref x0), some (.int x1), some (.int x2), some (.int x3), some (.int x4), some (.int x5), some (.long x6), none, some (.long x8), none, some (.int x10), some (.long x11), none, none, none, none] [] hp Q := by
  unfold X12_forgets_J177 at h
  refine kw_lload dX12_forgets_177 rfl ?_
  refine kw_aload_n dX12_forgets_179 rfl ?_
  refine kw_iload_n dX12_forgets_180 rfl ?_
  refine kw_iload_n dX12_forgets_181 rfl ?_
  obtain ⟨r15, er15, h⟩ := Option.bind_eq_some_iff.mp h
  obtain ⟨ur15, eur15, er15⟩ := Option.bind_eq_some_iff.mp er15
  obtain ⟨fsr15, hor15⟩ := kp_ob_inv eur15
  refine kw_callV (As := [.int x1, .int x2]) (S := [.long x6]) kcX12 cbX12_forgets_X12_doesTried lkX12_191 imX12_doesTried seX12_X12_doesTried_X12_doesTried rfl rfl (Nat.le_of_ble_eq_true rfl) dX12_forgets_182 hor15 (X12_doesTried_c G hp x0 x1 x2 _ er15) (fun vv hh hq => ?_)
  rw [hq.1, hq.2]
  show kw_V G mX12_forgets 185 [some (.ref x0), some (.int x1), some (.int x2), some (.int x3), some (.int x4), some (.int x5), some (.long x6), none, some (.long x8), none, some (.int x10), some (.long x11), none, none, none, none] [.int r15, .long x6] hp Q
  refine kw_if_eq 193 dX12_forgets_185 (by decide) (fun c16 => ?_) (fun c16 => ?_)
  · have h := (if_pos c16).symm.trans h
    refine kw_lconst (v := lN 0) dX12_forgets_193 (by decide) ?_
    refine kw_mask [true, true, true, true, true, true, false, true, true, true, true, true, true, true, true, true] (L' := [some (.ref x0), some (.int x1), some (.int x2), some (.int x3), some (.int x4), some (.int x5), none, none, some (.long x8), none, some (.int x10), some (.long x11), none, none, none, none]) rfl ?_
    exact X12_forgets_J194_t G Q hp x0 x1 x2 x3 x4 x5 x8 x10 x11 (lN 0) x6 _ h hK
  · have h := (if_neg c16).symm.trans h
    refine kw_lload dX12_forgets_188 rfl ?_
    refine kw_goto 194 dX12_forgets_190 (by decide) ?_
    refine kw_mask [true, true, true, true, true, true, false, true, true, true, true, true, true, true, true, true] (L' := [some (.ref x0), some (.int x1), some (.int x2), some (.int x3), some (.int x4), some (.int x5), none, none, some (.long x8), none, some (.int x10), some (.long x11), none, none, none, none]) rfl ?_
    exact X12_forgets_J194_t G Q hp x0 x1 x2 x3 x4 x5 x8 x10 x11 x11 x6 _ h hK
def X12_forgets_J168 (hp : kw_H) (x0 : Nat) (x1 : Int32) (x2 : Int32) (x3 : Int32) (x4 : Int32) (x5 : Int32) (x6 : Int64) (x8 : Int64) (x10 : Int32) (x11 : Int64) (x13 : Int32) (s0 : Int32) (s1 : Int32) (s2 : Nat) : Option (((Int64 × Int32 × kw_H) ⊕ (((Int64 × Int64 × Int32 × kw_H) ⊕ (Int64 × kw_H))))) :=
  ((kp_ob hp s2 11).bind fun _ => X12_pass_F hp s2 s1 s0).bind fun r25 =>
  some (.inl (x11, x13 + (nI 1), r25))
set_option maxRecDepth 100000 in
set_option maxHeartbeats 4000000 in
theorem X12_forgets_J168_t (G : kw_G) (Q : Option Value → kw_H → Prop) (hp : kw_H) (x0 : Nat) (x1 : Int32) (x2 : Int32) (x3 : Int32) (x4 : Int32) (x5 : Int32) (x6 : Int64) (x8 : Int64) (x10 : Int32) (x11 : Int64) (x13 : Int32) (s0 : Int32) (s1 : Int32) (s2 : Nat) (r : ((Int64 × Int32 × kw_H) ⊕ (((Int64 × Int64 × Int32 × kw_H) ⊕ (Int64 × kw_H))))) (h : X12_forgets_J168 hp x0 x1 x2 x3 x4 x5 x6 x8 x10 x11 x13 s0 s1 s2 = some r) (hK : X12_forgets_K96 G Q x0 x1 x2 x3 x4 x5 x6 x8 x10 r) : kw_V G mX12_forgets 168 [some (.ref x0), some (.int x1), some (.int x2), some (.int x3), some (.int x4), some (.int x5), some (.long x6), none, some (.long x8), none, some (.int x10), some (.long x11), none, some (.int x13), none, none] [.int s0, .int s1, .ref s2] hp Q := by
  unfold X12_forgets_J168 at h
  obtain ⟨r25, er25, h⟩ := Option.bind_eq_some_iff.mp h
  obtain ⟨ur25, eur25, er25⟩ := Option.bind_eq_some_iff.mp er25
  obtain ⟨fsr25, hor25⟩ := kp_ob_inv eur25
  refine kw_callV (As := [.int s1, .int s0]) (S := []) kcX12 cbX12_forgets_X12_pass lkX12_164 imX12_pass seX12_X12_pass_X12_pass rfl rfl (Nat.le_of_ble_eq_true rfl) dX12_forgets_168 hor25 (X12_pass_c G hp s2 s1 s0 _ er25) (fun vv hh hq => ?_)
  rw [hq.1, hq.2]
  show kw_V G mX12_forgets 171 [some (.ref x0), some (.int x1), some (.int x2), some (.int x3), some (.int x4), some (.int x5), some (.long x6), none, some (.long x8), none, some (.int x10), some (.long x11), none, some (.int x13), none, none] [] r25 Q
  refine kv_iinc (w := nI 1) (L' := [some (.ref x0), some (.int x1), some (.int x2), some (.int x3), some (.int x4), some (.int x5), some (.long x6), none, some (.long x8), none, some (.int x10), some (.long x11), none, some (.int (x13 + (nI 1))), none, none]) dX12_forgets_171 (by decide) rfl (by decide) rfl ?_
  refine kw_goto 96 dX12_forgets_174 (by decide) ?_
  have h := Option.some.inj h
  subst h
  exact hK
def X12_forgets_J130 (hp : kw_H) (x0 : Nat) (x1 : Int32) (x2 : Int32) (x3 : Int32) (x4 : Int32) (x5 : Int32) (x6 : Int64) (x8 : Int64) (x10 : Int32) (x13 : Int32) (x14 : Int32) (s0 : Int64) (s1 : Int64) : Option (((Int64 × Int32 × kw_H) ⊕ (((Int64 × Int64 × Int32 × kw_H) ⊕ (Int64 × kw_H))))) :=
  (if x14 = 0 then
  (kp_gR hp x0 [11] 0).bind fun v19 =>
  (kp_ldI hp v19 (nI 1785)).bind fun v20 =>
  (kp_gR hp x0 [11] 0).bind fun v21 =>
  (kp_ldI hp v21 (nI 2)).bind fun v22 =>
  (kp_rem v20 v22).bind fun v23 =>
  ((kp_ob hp x0 11).bind fun _ => X12_farOf_F hp x0 (nI 1782) v23).bind fun r24 =>
  X12_forgets_J168 hp x0 x1 x2 x3 x4 x5 x6 x8 x10 (s1 * s0) x13 r24 (nI 1782) x0
else
  X12_forgets_J168 hp x0 x1 x2 x3 x4 x5 x6 x8 x10 (s1 * s0) x13 (nI 0) (nI 1782) x0)
set_option maxRecDepth 100000 in
set_option maxHeartbeats 4000000 in
theorem X12_forgets_J130_t (G : kw_G) (Q : Option Value → kw_H → Prop) (hp : kw_H) (x0 : Nat) (x1 : Int32) (x2 : Int32) (x3 : Int32) (x4 : Int32) (x5 : Int32) (x6 : Int64) (x8 : Int64) (x10 : Int32) (x13 : Int32) (x14 : Int32) (s0 : Int64) (s1 : Int64) (r : ((Int64 × Int32 × kw_H) ⊕ (((Int64 × Int64 × Int32 × kw_H) ⊕ (Int64 × kw_H))))) (h : X12_forgets_J130 hp x0 x1 x2 x3 x4 x5 x6 x8 x10 x13 x14 s0 s1 = some r) (hK : X12_forgets_K96 G Q x0 x1 x2 x3 x4 x5 x6 x8 x10 r) : kw_V G mX12_forgets 130 [some (.ref x0), some (.int x1), some (.int x2), some (.int x3), some (.int x4), some (.int x5), some (.long x6), none, some (.long x8), none, some (.int x10), none, none, some (.int x13), some (.int x14), none] [.long s0, .long s1] hp Q := by
  unfold X12_forgets_J130 at h
  refine kw_lmul dX12_forgets_130 ?_
  refine kw_lstore (L' := [some (.ref x0), some (.int x1), some (.int x2), some (.int x3), some (.int x4), some (.int x5), some (.long x6), none, some (.long x8), none, some (.int x10), some (.long (s1 * s0)), none, some (.int x13), some (.int x14), none]) dX12_forgets_131 (by decide) rfl ?_
  refine kw_aload_n dX12_forgets_133 rfl ?_
  refine kw_sipush (v := nI 1782) dX12_forgets_134 (by decide) ?_
  refine kw_iload dX12_forgets_137 rfl ?_
  refine kw_if_eq 146 dX12_forgets_139 (by decide) (fun c26 => ?_) (fun c26 => ?_)
  · have h := (if_pos c26).symm.trans h
    refine kw_aload_n dX12_forgets_146 rfl ?_
    refine kw_sipush (v := nI 1782) dX12_forgets_147 (by decide) ?_
    refine kw_aload_n dX12_forgets_150 rfl ?_
    obtain ⟨v19, ev19, h⟩ := Option.bind_eq_some_iff.mp h
    refine kv_gR gfX12_7 dX12_forgets_151 ev19 ?_
    refine kw_sipush (v := nI 1785) dX12_forgets_154 (by decide) ?_
    obtain ⟨v20, ev20, h⟩ := Option.bind_eq_some_iff.mp h
    refine kv_ldI dX12_forgets_157 ev20 ?_
    refine kw_aload_n dX12_forgets_158 rfl ?_
    obtain ⟨v21, ev21, h⟩ := Option.bind_eq_some_iff.mp h
    refine kv_gR gfX12_7 dX12_forgets_159 ev21 ?_
    refine kw_iconst (v := nI 2) dX12_forgets_162 (by decide) ?_
    obtain ⟨v22, ev22, h⟩ := Option.bind_eq_some_iff.mp h
    refine kv_ldI dX12_forgets_163 ev22 ?_
    obtain ⟨v23, ev23, h⟩ := Option.bind_eq_some_iff.mp h
    refine kv_irem dX12_forgets_164 ev23 ?_
    obtain ⟨r24, er24, h⟩ := Option.bind_eq_some_iff.mp h
    obtain ⟨ur24, eur24, er24⟩ := Option.bind_eq_some_iff.mp er24
    obtain ⟨fsr24, hor24⟩ := kp_ob_inv eur24
    refine kw_callV (As := [.int (nI 1782), .int v23]) (S := [.int (nI 1782), .ref x0]) kcX12 cbX12_forgets_X12_farOf lkX12_161 imX12_farOf seX12_X12_farOf_X12_farOf rfl rfl (Nat.le_of_ble_eq_true rfl) dX12_forgets_165 hor24 (X12_farOf_c G hp x0 (nI 1782) v23 _ er24) (fun vv hh hq => ?_)
    rw [hq.1, hq.2]
    show kw_V G mX12_forgets 168 [some (.ref x0), some (.int x1), some (.int x2), some (.int x3), some (.int x4), some (.int x5), some (.long x6), none, some (.long x8), none, some (.int x10), some (.long (s1 * s0)), none, some (.int x13), some (.int x14), none] [.int r24, .int (nI 1782), .ref x0] hp Q
    refine kw_mask [true, true, true, true, true, true, true, true, true, true, true, true, true, true, false, true] (L' := [some (.ref x0), some (.int x1), some (.int x2), some (.int x3), some (.int x4), some (.int x5), some (.long x6), none, some (.long x8), none, some (.int x10), some (.long (s1 * s0)), none, some (.int x13), none, none]) rfl ?_
    exact X12_forgets_J168_t G Q hp x0 x1 x2 x3 x4 x5 x6 x8 x10 (s1 * s0) x13 r24 (nI 1782) x0 _ h hK
  · have h := (if_neg c26).symm.trans h
    refine kw_iconst (v := nI 0) dX12_forgets_142 (by decide) ?_
    refine kw_goto 168 dX12_forgets_143 (by decide) ?_
    refine kw_mask [true, true, true, true, true, true, true, true, true, true, true, true, true, true, false, true] (L' := [some (.ref x0), some (.int x1), some (.int x2), some (.int x3), some (.int x4), some (.int x5), some (.long x6), none, some (.long x8), none, some (.int x10), some (.long (s1 * s0)), none, some (.int x13), none, none]) rfl ?_
    exact X12_forgets_J168_t G Q hp x0 x1 x2 x3 x4 x5 x6 x8 x10 (s1 * s0) x13 (nI 0) (nI 1782) x0 _ h hK
def X12_forgets_b96 (x0 : Nat) (x1 : Int32) (x2 : Int32) (x3 : Int32) (x4 : Int32) (x5 : Int32) (x6 : Int64) (x8 : Int64) (x10 : Int32) (x11 : Int64) (x13 : Int32) (hp : kw_H) : Option (((Int64 × Int32 × kw_H) ⊕ (((Int64 × Int64 × Int32 × kw_H) ⊕ (Int64 × kw_H))))) :=
  (if x3 ≤ x13 then
  (X12_forgets_J177 hp x0 x1 x2 x3 x4 x5 x6 x8 x10 x11).map (fun r => .inr (r))
else
  (X12_has_F hp x10 x13).bind fun r18 =>
  (if r18 = 0 then
  X12_forgets_J130 hp x0 x1 x2 x3 x4 x5 x6 x8 x10 x13 r18 (Int32.toInt64 ((nI 10) - x4)) x11
else
  X12_forgets_J130 hp x0 x1 x2 x3 x4 x5 x6 x8 x10 x13 r18 (Int32.toInt64 x4) x11))
set_option maxRecDepth 100000 in
set_option maxHeartbeats 4000000 in
theorem X12_forgets_b96_t (G : kw_G) (Q : Option Value → kw_H → Prop) (x0 : Nat) (x1 : Int32) (x2 : Int32) (x3 : Int32) (x4 : Int32) (x5 : Int32) (x6 : Int64) (x8 : Int64) (x10 : Int32) (x11 : Int64) (x13 : Int32) (hp : kw_H) (r : ((Int64 × Int32 × kw_H) ⊕ (((Int64 × Int64 × Int32 × kw_H) ⊕ (Int64 × kw_H))))) (h : X12_forgets_b96 x0 x1 x2 x3 x4 x5 x6 x8 x10 x11 x13 hp = some r) (hK : X12_forgets_K96 G Q x0 x1 x2 x3 x4 x5 x6 x8 x10 r) : kw_V G mX12_forgets 96 [some (.ref x0), some (.int x1), some (.int x2), some (.int x3), some (.int x4), some (.int x5), some (.long x6), none, some (.long x8), none, some (.int x10), some (.long x11), none, some (.int x13), none, none] [] hp Q := by
  unfold X12_forgets_b96 at h
  refine kw_iload dX12_forgets_96 rfl ?_
  refine kw_iload_n dX12_forgets_98 rfl ?_
  refine kw_icmp_ge 177 dX12_forgets_99 (by decide) (fun c28 => ?_) (fun c28 => ?_)
  · have h := (if_pos c28).symm.trans h
    refine kw_mask [true, true, true, true, true, true, true, true, true, true, true, true, true, false, true, true] (L' := [some (.ref x0), some (.int x1), some (.int x2), some (.int x3), some (.int x4), some (.int x5), some (.long x6), none, some (.long x8), none, some (.int x10), some (.long x11), none, none, none, none]) rfl ?_
    obtain ⟨r17, hr17, hrr17⟩ := Option.map_eq_some_iff.mp h
    subst hrr17
    exact X12_forgets_J177_t G Q hp x0 x1 x2 x3 x4 x5 x6 x8 x10 x11 r17 hr17 hK
  · have h := (if_neg c28).symm.trans h
    refine kw_iload dX12_forgets_102 rfl ?_
    refine kw_iload dX12_forgets_104 rfl ?_
    obtain ⟨r18, er18, h⟩ := Option.bind_eq_some_iff.mp h
    refine kw_callS (As := [.int x10, .int x13]) (S := []) cbX12_forgets_X12_has lkX12_148 stX12_has rfl rfl (Nat.le_of_ble_eq_true rfl) dX12_forgets_106 (X12_has_c G hp x10 x13 _ er18) (fun vv hh hq => ?_)
    rw [hq.1, hq.2]
    show kw_V G mX12_forgets 109 [some (.ref x0), some (.int x1), some (.int x2), some (.int x3), some (.int x4), some (.int x5), some (.long x6), none, some (.long x8), none, some (.int x10), some (.long x11), none, some (.int x13), none, none] [.int r18] hp Q
    refine kw_istore (L' := [some (.ref x0), some (.int x1), some (.int x2), some (.int x3), some (.int x4), some (.int x5), some (.long x6), none, some (.long x8), none, some (.int x10), some (.long x11), none, some (.int x13), some (.int r18), none]) dX12_forgets_109 (by decide) rfl ?_
    refine kw_lload dX12_forgets_111 rfl ?_
    refine kw_iload dX12_forgets_113 rfl ?_
    refine kw_if_eq 124 dX12_forgets_115 (by decide) (fun c27 => ?_) (fun c27 => ?_)
    · have h := (if_pos c27).symm.trans h
      refine kw_bipush (v := nI 10) dX12_forgets_124 (by decide) ?_
      refine kw_iload dX12_forgets_126 rfl ?_
      refine kw_isub dX12_forgets_128 ?_
      refine kw_i2l dX12_forgets_129 ?_
      refine kw_mask [true, true, true, true, true, true, true, true, true, true, true, false, true, true, true, true] (L' := [some (.ref x0), some (.int x1), some (.int x2), some (.int x3), some (.int x4), some (.int x5), some (.long x6), none, some (.long x8), none, some (.int x10), none, none, some (.int x13), some (.int r18), none]) rfl ?_
      exact X12_forgets_J130_t G Q hp x0 x1 x2 x3 x4 x5 x6 x8 x10 x13 r18 (Int32.toInt64 ((nI 10) - x4)) x11 _ h hK
    · have h := (if_neg c27).symm.trans h
      refine kw_iload dX12_forgets_118 rfl ?_
      refine kw_i2l dX12_forgets_120 ?_
      refine kw_goto 130 dX12_forgets_121 (by decide) ?_
      refine kw_mask [true, true, true, true, true, true, true, true, true, true, true, false, true, true, true, true] (L' := [some (.ref x0), some (.int x1), some (.int x2), some (.int x3), some (.int x4), some (.int x5), some (.long x6), none, some (.long x8), none, some (.int x10), none, none, some (.int x13), some (.int r18), none]) rfl ?_
      exact X12_forgets_J130_t G Q hp x0 x1 x2 x3 x4 x5 x6 x8 x10 x13 r18 (Int32.toInt64 x4) x11 _ h hK
def X12_forgets_B96 (x0 : Nat) (x1 : Int32) (x2 : Int32) (x3 : Int32) (x4 : Int32) (x5 : Int32) (x6 : Int64) (x8 : Int64) (x10 : Int32) (z : Int64 × Int32 × kw_H) : Option (((Int64 × Int32 × kw_H) ⊕ (((Int64 × Int64 × Int32 × kw_H) ⊕ (Int64 × kw_H))))) := X12_forgets_b96 x0 x1 x2 x3 x4 x5 x6 x8 x10 z.1 z.2.1 z.2.2
theorem X12_forgets_L96_t (G : kw_G) (Q : Option Value → kw_H → Prop) (x0 : Nat) (x1 : Int32) (x2 : Int32) (x3 : Int32) (x4 : Int32) (x5 : Int32) (x6 : Int64) (x8 : Int64) (x10 : Int32) (n : Nat) (z : Int64 × Int32 × kw_H) (r : ((Int64 × Int64 × Int32 × kw_H) ⊕ (Int64 × kw_H))) (h : kp_lp (X12_forgets_B96 x0 x1 x2 x3 x4 x5 x6 x8 x10) n z = some r) (hK : X12_forgets_K74 G Q x0 x1 x2 x3 x4 x5 r) : kw_V G mX12_forgets 96 [some (.ref x0), some (.int x1), some (.int x2), some (.int x3), some (.int x4), some (.int x5), some (.long x6), none, some (.long x8), none, some (.int x10), some (.long z.1), none, some (.int z.2.1), none, none] [] z.2.2 Q :=
  kv_lp _ (fun z => kw_V G mX12_forgets 96 [some (.ref x0), some (.int x1), some (.int x2), some (.int x3), some (.int x4), some (.int x5), some (.long x6), none, some (.long x8), none, some (.int x10), some (.long z.1), none, some (.int z.2.1), none, none] [] z.2.2 Q) (fun r => X12_forgets_K74 G Q x0 x1 x2 x3 x4 x5 r) (fun z x hb hx => X12_forgets_b96_t G Q x0 x1 x2 x3 x4 x5 x6 x8 x10 z.1 z.2.1 z.2.2 x hb (by cases x <;> exact hx)) n z r h hK
def X12_forgets_b74 (x0 : Nat) (x1 : Int32) (x2 : Int32) (x3 : Int32) (x4 : Int32) (x5 : Int32) (x6 : Int64) (x8 : Int64) (x10 : Int32) (hp : kw_H) : Option (((Int64 × Int64 × Int32 × kw_H) ⊕ (Int64 × kw_H))) :=
  (if ((nI 1) <<< (x3 &&& 31)) ≤ x10 then
  (X12_forgets_J210 hp x5 x6 x8).map (fun r => .inr (r))
else
  ((kp_ob hp x0 11).bind fun _ => X12_copyTown_F hp x0 (nI 0) (nI 1782)).bind fun r14 =>
  kp_lp (X12_forgets_B96 x0 x1 x2 x3 x4 x5 x6 x8 x10) 2000 (lN 1, nI 0, r14))
set_option maxRecDepth 100000 in
set_option maxHeartbeats 4000000 in
theorem X12_forgets_b74_t (G : kw_G) (Q : Option Value → kw_H → Prop) (x0 : Nat) (x1 : Int32) (x2 : Int32) (x3 : Int32) (x4 : Int32) (x5 : Int32) (x6 : Int64) (x8 : Int64) (x10 : Int32) (hp : kw_H) (r : ((Int64 × Int64 × Int32 × kw_H) ⊕ (Int64 × kw_H))) (h : X12_forgets_b74 x0 x1 x2 x3 x4 x5 x6 x8 x10 hp = some r) (hK : X12_forgets_K74 G Q x0 x1 x2 x3 x4 x5 r) : kw_V G mX12_forgets 74 [some (.ref x0), some (.int x1), some (.int x2), some (.int x3), some (.int x4), some (.int x5), some (.long x6), none, some (.long x8), none, some (.int x10), none, none, none, none, none] [] hp Q := by
  unfold X12_forgets_b74 at h
  refine kw_iload dX12_forgets_74 rfl ?_
  refine kw_iconst (v := nI 1) dX12_forgets_76 (by decide) ?_
  refine kw_iload_n dX12_forgets_77 rfl ?_
  refine kw_ishl dX12_forgets_78 ?_
  refine kw_icmp_ge 210 dX12_forgets_79 (by decide) (fun c29 => ?_) (fun c29 => ?_)
  · have h := (if_pos c29).symm.trans h
    refine kw_mask [false, false, false, false, false, true, true, true, true, true, false, true, true, true, true, true] (L' := [none, none, none, none, none, some (.int x5), some (.long x6), none, some (.long x8), none, none, none, none, none, none, none]) rfl ?_
    obtain ⟨r13, hr13, hrr13⟩ := Option.map_eq_some_iff.mp h
    subst hrr13
    exact X12_forgets_J210_t G Q hp x5 x6 x8 r13 hr13 hK
  · have h := (if_neg c29).symm.trans h
    refine kw_lconst (v := lN 1) dX12_forgets_82 (by decide) ?_
    refine kw_lstore (L' := [some (.ref x0), some (.int x1), some (.int x2), some (.int x3), some (.int x4), some (.int x5), some (.long x6), none, some (.long x8), none, some (.int x10), some (.long (lN 1)), none, none, none, none]) dX12_forgets_83 (by decide) rfl ?_
    refine kw_aload_n dX12_forgets_85 rfl ?_
    refine kw_iconst (v := nI 0) dX12_forgets_86 (by decide) ?_
    refine kw_sipush (v := nI 1782) dX12_forgets_87 (by decide) ?_
    obtain ⟨r14, er14, h⟩ := Option.bind_eq_some_iff.mp h
    obtain ⟨ur14, eur14, er14⟩ := Option.bind_eq_some_iff.mp er14
    obtain ⟨fsr14, hor14⟩ := kp_ob_inv eur14
    refine kw_callV (As := [.int (nI 0), .int (nI 1782)]) (S := []) kcX12 cbX12_forgets_X12_copyTown lkX12_128 imX12_copyTown seX12_X12_copyTown_X12_copyTown rfl rfl (Nat.le_of_ble_eq_true rfl) dX12_forgets_90 hor14 (X12_copyTown_c G hp x0 (nI 0) (nI 1782) _ er14) (fun vv hh hq => ?_)
    rw [hq.1, hq.2]
    show kw_V G mX12_forgets 93 [some (.ref x0), some (.int x1), some (.int x2), some (.int x3), some (.int x4), some (.int x5), some (.long x6), none, some (.long x8), none, some (.int x10), some (.long (lN 1)), none, none, none, none] [] r14 Q
    refine kw_iconst (v := nI 0) dX12_forgets_93 (by decide) ?_
    refine kw_istore (L' := [some (.ref x0), some (.int x1), some (.int x2), some (.int x3), some (.int x4), some (.int x5), some (.long x6), none, some (.long x8), none, some (.int x10), some (.long (lN 1)), none, some (.int (nI 0)), none, none]) dX12_forgets_94 (by decide) rfl ?_
    exact X12_forgets_L96_t G Q x0 x1 x2 x3 x4 x5 x6 x8 x10 _ (lN 1, nI 0, r14) _ h hK
def X12_forgets_B74 (x0 : Nat) (x1 : Int32) (x2 : Int32) (x3 : Int32) (x4 : Int32) (x5 : Int32) (z : Int64 × Int64 × Int32 × kw_H) : Option (((Int64 × Int64 × Int32 × kw_H) ⊕ (Int64 × kw_H))) := X12_forgets_b74 x0 x1 x2 x3 x4 x5 z.1 z.2.1 z.2.2.1 z.2.2.2
theorem X12_forgets_L74_t (G : kw_G) (Q : Option Value → kw_H → Prop) (x0 : Nat) (x1 : Int32) (x2 : Int32) (x3 : Int32) (x4 : Int32) (x5 : Int32) (n : Nat) (z : Int64 × Int64 × Int32 × kw_H) (r : Int64 × kw_H) (h : kp_lp (X12_forgets_B74 x0 x1 x2 x3 x4 x5) n z = some r) (hK : Q (some (.long r.1)) r.2) : kw_V G mX12_forgets 74 [some (.ref x0), some (.int x1), some (.int x2), some (.int x3), some (.int x4), some (.int x5), some (.long z.1), none, some (.long z.2.1), none, some (.int z.2.2.1), none, none, none, none, none] [] z.2.2.2 Q :=
  kv_lp _ (fun z => kw_V G mX12_forgets 74 [some (.ref x0), some (.int x1), some (.int x2), some (.int x3), some (.int x4), some (.int x5), some (.long z.1), none, some (.long z.2.1), none, some (.int z.2.2.1), none, none, none, none, none] [] z.2.2.2 Q) (fun r => Q (some (.long r.1)) r.2) (fun z x hb hx => X12_forgets_b74_t G Q x0 x1 x2 x3 x4 x5 z.1 z.2.1 z.2.2.1 z.2.2.2 x hb (by cases x <;> exact hx)) n z r h hK
def X12_forgets_F (hp : kw_H) (x0 : Nat) (x1 : Int32) (x2 : Int32) (x3 : Int32) (x4 : Int32) (x5 : Int32) : Option (Int64 × kw_H) :=
  (kp_gI hp x0 [11] 1).bind fun v1 =>
  (if v1 = 0 then
  some (((-1000002), hp))
else
  (X12_isSix_F hp x1).bind fun r2 =>
  (if r2 = 0 then
  some (((-1000001), hp))
else
  (X12_isSix_F hp x2).bind fun r3 =>
  (if r3 = 0 then
  some (((-1000001), hp))
else
  (X12_in_F hp (Int32.toInt64 x3) (lN 0) (lN 8)).bind fun r4 =>
  (if r4 = 0 then
  some (((-1000001), hp))
else
  (X12_in_F hp (Int32.toInt64 x4) (lN 0) (lN 10)).bind fun r5 =>
  (if r5 = 0 then
  some (((-1000001), hp))
else
  (X12_in_F hp (Int32.toInt64 x5) (lN 0) (lN 1)).bind fun r6 =>
  (if r6 = 0 then
  some (((-1000001), hp))
else
  kp_lp (X12_forgets_B74 x0 x1 x2 x3 x4 x5) 2000 (lN 0, lN 0, nI 0, hp)))))))
set_option maxRecDepth 100000 in
set_option maxHeartbeats 4000000 in
theorem X12_forgets_c (G : kw_G) (hp : kw_H) (x0 : Nat) (x1 : Int32) (x2 : Int32) (x3 : Int32) (x4 : Int32) (x5 : Int32) (r : Int64 × kw_H) (h : X12_forgets_F hp x0 x1 x2 x3 x4 x5 = some r) : kw_Met G mX12_forgets [.ref x0, .int x1, .int x2, .int x3, .int x4, .int x5] hp (fun v h2 => v = some (.long r.1) ∧ h2 = r.2) := by
  refine kw_met (L := [some (.ref x0), some (.int x1), some (.int x2), some (.int x3), some (.int x4), some (.int x5), none, none, none, none, none, none, none, none, none, none]) (r := 10) (by decide +kernel) (Nat.le_of_ble_eq_true rfl) rfl ?_
  unfold X12_forgets_F at h
  obtain ⟨Q, hQ⟩ : ∃ Q : Option Value → kw_H → Prop, Q = (fun v h2 => v = some (.long r.1) ∧ h2 = r.2) := ⟨_, rfl⟩
  have hK : Q (some (.long r.1)) r.2 := by rw [hQ]; exact ⟨rfl, rfl⟩
  rw [← hQ]
  clear hQ
  refine kw_aload_n dX12_forgets_0 rfl ?_
  obtain ⟨v1, ev1, h⟩ := Option.bind_eq_some_iff.mp h
  refine kv_gI gfX12_132 dX12_forgets_1 ev1 ?_
  refine kw_if_ne 11 dX12_forgets_4 (by decide) (fun c35 => ?_) (fun c35 => ?_)
  · have h := (if_neg c35).symm.trans h
    refine kw_iload_n dX12_forgets_11 rfl ?_
    obtain ⟨r2, er2, h⟩ := Option.bind_eq_some_iff.mp h
    refine kw_callS (As := [.int x1]) (S := []) cbX12_forgets_X12_isSix lkX12_176 stX12_isSix rfl rfl (Nat.le_of_ble_eq_true rfl) dX12_forgets_12 (X12_isSix_c G hp x1 _ er2) (fun vv hh hq => ?_)
    rw [hq.1, hq.2]
    show kw_V G mX12_forgets 15 [some (.ref x0), some (.int x1), some (.int x2), some (.int x3), some (.int x4), some (.int x5), none, none, none, none, none, none, none, none, none, none] [.int r2] hp Q
    refine kw_if_eq 61 dX12_forgets_15 (by decide) (fun c34 => ?_) (fun c34 => ?_)
    · have h := (if_pos c34).symm.trans h
      refine kw_ldc2_w (v := (-1000001)) dX12_forgets_61 ckX12_236 ?_
      have h := Option.some.inj h
      subst h
      exact kw_lret rfl dX12_forgets_64 hK
    · have h := (if_neg c34).symm.trans h
      refine kw_iload_n dX12_forgets_18 rfl ?_
      obtain ⟨r3, er3, h⟩ := Option.bind_eq_some_iff.mp h
      refine kw_callS (As := [.int x2]) (S := []) cbX12_forgets_X12_isSix lkX12_176 stX12_isSix rfl rfl (Nat.le_of_ble_eq_true rfl) dX12_forgets_19 (X12_isSix_c G hp x2 _ er3) (fun vv hh hq => ?_)
      rw [hq.1, hq.2]
      show kw_V G mX12_forgets 22 [some (.ref x0), some (.int x1), some (.int x2), some (.int x3), some (.int x4), some (.int x5), none, none, none, none, none, none, none, none, none, none] [.int r3] hp Q
      refine kw_if_eq 61 dX12_forgets_22 (by decide) (fun c33 => ?_) (fun c33 => ?_)
      · have h := (if_pos c33).symm.trans h
        refine kw_ldc2_w (v := (-1000001)) dX12_forgets_61 ckX12_236 ?_
        have h := Option.some.inj h
        subst h
        exact kw_lret rfl dX12_forgets_64 hK
      · have h := (if_neg c33).symm.trans h
        refine kw_iload_n dX12_forgets_25 rfl ?_
        refine kw_i2l dX12_forgets_26 ?_
        refine kw_lconst (v := lN 0) dX12_forgets_27 (by decide) ?_
        refine kw_ldc2_w (v := lN 8) dX12_forgets_28 ckX12_181 ?_
        obtain ⟨r4, er4, h⟩ := Option.bind_eq_some_iff.mp h
        refine kw_callS (As := [.long (Int32.toInt64 x3), .long (lN 0), .long (lN 8)]) (S := []) cbX12_forgets_X12_in lkX12_42 stX12_in rfl rfl (Nat.le_of_ble_eq_true rfl) dX12_forgets_31 (X12_in_c G hp (Int32.toInt64 x3) (lN 0) (lN 8) _ er4) (fun vv hh hq => ?_)
        rw [hq.1, hq.2]
        show kw_V G mX12_forgets 34 [some (.ref x0), some (.int x1), some (.int x2), some (.int x3), some (.int x4), some (.int x5), none, none, none, none, none, none, none, none, none, none] [.int r4] hp Q
        refine kw_if_eq 61 dX12_forgets_34 (by decide) (fun c32 => ?_) (fun c32 => ?_)
        · have h := (if_pos c32).symm.trans h
          refine kw_ldc2_w (v := (-1000001)) dX12_forgets_61 ckX12_236 ?_
          have h := Option.some.inj h
          subst h
          exact kw_lret rfl dX12_forgets_64 hK
        · have h := (if_neg c32).symm.trans h
          refine kw_iload dX12_forgets_37 rfl ?_
          refine kw_i2l dX12_forgets_39 ?_
          refine kw_lconst (v := lN 0) dX12_forgets_40 (by decide) ?_
          refine kw_ldc2_w (v := lN 10) dX12_forgets_41 ckX12_234 ?_
          obtain ⟨r5, er5, h⟩ := Option.bind_eq_some_iff.mp h
          refine kw_callS (As := [.long (Int32.toInt64 x4), .long (lN 0), .long (lN 10)]) (S := []) cbX12_forgets_X12_in lkX12_42 stX12_in rfl rfl (Nat.le_of_ble_eq_true rfl) dX12_forgets_44 (X12_in_c G hp (Int32.toInt64 x4) (lN 0) (lN 10) _ er5) (fun vv hh hq => ?_)
          rw [hq.1, hq.2]
          show kw_V G mX12_forgets 47 [some (.ref x0), some (.int x1), some (.int x2), some (.int x3), some (.int x4), some (.int x5), none, none, none, none, none, none, none, none, none, none] [.int r5] hp Q
          refine kw_if_eq 61 dX12_forgets_47 (by decide) (fun c31 => ?_) (fun c31 => ?_)
          · have h := (if_pos c31).symm.trans h
            refine kw_ldc2_w (v := (-1000001)) dX12_forgets_61 ckX12_236 ?_
            have h := Option.some.inj h
            subst h
            exact kw_lret rfl dX12_forgets_64 hK
          · have h := (if_neg c31).symm.trans h
            refine kw_iload dX12_forgets_50 rfl ?_
            refine kw_i2l dX12_forgets_52 ?_
            refine kw_lconst (v := lN 0) dX12_forgets_53 (by decide) ?_
            refine kw_lconst (v := lN 1) dX12_forgets_54 (by decide) ?_
            obtain ⟨r6, er6, h⟩ := Option.bind_eq_some_iff.mp h
            refine kw_callS (As := [.long (Int32.toInt64 x5), .long (lN 0), .long (lN 1)]) (S := []) cbX12_forgets_X12_in lkX12_42 stX12_in rfl rfl (Nat.le_of_ble_eq_true rfl) dX12_forgets_55 (X12_in_c G hp (Int32.toInt64 x5) (lN 0) (lN 1) _ er6) (fun vv hh hq => ?_)
            rw [hq.1, hq.2]
            show kw_V G mX12_forgets 58 [some (.ref x0), some (.int x1), some (.int x2), some (.int x3), some (.int x4), some (.int x5), none, none, none, none, none, none, none, none, none, none] [.int r6] hp Q
            refine kw_if_ne 65 dX12_forgets_58 (by decide) (fun c30 => ?_) (fun c30 => ?_)
            · have h := (if_neg c30).symm.trans h
              refine kw_lconst (v := lN 0) dX12_forgets_65 (by decide) ?_
              refine kw_lstore (L' := [some (.ref x0), some (.int x1), some (.int x2), some (.int x3), some (.int x4), some (.int x5), some (.long (lN 0)), none, none, none, none, none, none, none, none, none]) dX12_forgets_66 (by decide) rfl ?_
              refine kw_lconst (v := lN 0) dX12_forgets_68 (by decide) ?_
              refine kw_lstore (L' := [some (.ref x0), some (.int x1), some (.int x2), some (.int x3), some (.int x4), some (.int x5), some (.long (lN 0)), none, some (.long (lN 0)), none, none, none, none, none, none, none]) dX12_forgets_69 (by decide) rfl ?_
              refine kw_iconst (v := nI 0) dX12_forgets_71 (by decide) ?_
              refine kw_istore (L' := [some (.ref x0), some (.int x1), some (.int x2), some (.int x3), some (.int x4), some (.int x5), some (.long (lN 0)), none, some (.long (lN 0)), none, some (.int (nI 0)), none, none, none, none, none]) dX12_forgets_72 (by decide) rfl ?_
              exact X12_forgets_L74_t G Q x0 x1 x2 x3 x4 x5 _ (lN 0, lN 0, nI 0, hp) _ h hK
            · have h := (if_pos c30).symm.trans h
              refine kw_ldc2_w (v := (-1000001)) dX12_forgets_61 ckX12_236 ?_
              have h := Option.some.inj h
              subst h
              exact kw_lret rfl dX12_forgets_64 hK
  · have h := (if_pos c35).symm.trans h
    refine kw_ldc2_w (v := (-1000002)) dX12_forgets_7 ckX12_232 ?_
    have h := Option.some.inj h
    subst h
    exact kw_lret rfl dX12_forgets_10 hK
/-! KitchenWheelsModel.doneInAll(I)I -/
def X12_doneInAll_K4 (G : kw_G) (Q : Option Value → kw_H → Prop) (hp : kw_H) (x0 : Nat) (x1 : Int32) (r : (Int32 × Int32) ⊕ (Int32)) : Prop := match r with
  | .inl z => kw_V G mX12_doneInAll 4 [some (.ref x0), some (.int x1), some (.int z.1), some (.int z.2)] [] hp Q
  | .inr r => Q (some (.int r)) hp
def X12_doneInAll_J25 (hp : kw_H) (x2 : Int32) : Option (Int32) :=
  some (x2)
set_option maxRecDepth 100000 in
set_option maxHeartbeats 4000000 in
theorem X12_doneInAll_J25_t (G : kw_G) (Q : Option Value → kw_H → Prop) (hp : kw_H) (x2 : Int32) (r : Int32) (h : X12_doneInAll_J25 hp x2 = some r) (hK : Q (some (.int r)) hp) : kw_V G mX12_doneInAll 25 [none, none, some (.int x2), none] [] hp Q := by
  unfold X12_doneInAll_J25 at h
  refine kw_iload_n dX12_doneInAll_25 rfl ?_
  have h := Option.some.inj h
  subst h
  exact kw_iret rfl dX12_doneInAll_26 hK
def X12_doneInAll_b4 (hp : kw_H) (x0 : Nat) (x1 : Int32) (x2 : Int32) (x3 : Int32) : Option (((Int32 × Int32) ⊕ (Int32))) :=
  (if (nI 6) ≤ x3 then
  (X12_doneInAll_J25 hp x2).map (fun r => .inr (r))
else
  ((kp_ob hp x0 11).bind fun _ => X12_doneBy_F hp x0 x1 x3).bind fun r2 =>
  some (.inl (x2 + r2, x3 + (nI 1))))
set_option maxRecDepth 100000 in
set_option maxHeartbeats 4000000 in
theorem X12_doneInAll_b4_t (G : kw_G) (Q : Option Value → kw_H → Prop) (hp : kw_H) (x0 : Nat) (x1 : Int32) (x2 : Int32) (x3 : Int32) (r : ((Int32 × Int32) ⊕ (Int32))) (h : X12_doneInAll_b4 hp x0 x1 x2 x3 = some r) (hK : X12_doneInAll_K4 G Q hp x0 x1 r) : kw_V G mX12_doneInAll 4 [some (.ref x0), some (.int x1), some (.int x2), some (.int x3)] [] hp Q := by
  unfold X12_doneInAll_b4 at h
  refine kw_iload_n dX12_doneInAll_4 rfl ?_
  refine kw_bipush (v := nI 6) dX12_doneInAll_5 (by decide) ?_
  refine kw_icmp_ge 25 dX12_doneInAll_7 (by decide) (fun c3 => ?_) (fun c3 => ?_)
  · have h := (if_pos c3).symm.trans h
    refine kw_mask [false, false, true, false] (L' := [none, none, some (.int x2), none]) rfl ?_
    obtain ⟨r1, hr1, hrr1⟩ := Option.map_eq_some_iff.mp h
    subst hrr1
    exact X12_doneInAll_J25_t G Q hp x2 r1 hr1 hK
  · have h := (if_neg c3).symm.trans h
    refine kw_iload_n dX12_doneInAll_10 rfl ?_
    refine kw_aload_n dX12_doneInAll_11 rfl ?_
    refine kw_iload_n dX12_doneInAll_12 rfl ?_
    refine kw_iload_n dX12_doneInAll_13 rfl ?_
    obtain ⟨r2, er2, h⟩ := Option.bind_eq_some_iff.mp h
    obtain ⟨ur2, eur2, er2⟩ := Option.bind_eq_some_iff.mp er2
    obtain ⟨fsr2, hor2⟩ := kp_ob_inv eur2
    refine kw_callV (As := [.int x1, .int x3]) (S := [.int x2]) kcX12 cbX12_doneInAll_X12_doneBy lkX12_204 imX12_doneBy seX12_X12_doneBy_X12_doneBy rfl rfl (Nat.le_of_ble_eq_true rfl) dX12_doneInAll_14 hor2 (X12_doneBy_c G hp x0 x1 x3 _ er2) (fun vv hh hq => ?_)
    rw [hq.1, hq.2]
    show kw_V G mX12_doneInAll 17 [some (.ref x0), some (.int x1), some (.int x2), some (.int x3)] [.int r2, .int x2] hp Q
    refine kw_iadd dX12_doneInAll_17 ?_
    refine kw_istore_n (L' := [some (.ref x0), some (.int x1), some (.int (x2 + r2)), some (.int x3)]) dX12_doneInAll_18 (by decide) rfl ?_
    refine kv_iinc (w := nI 1) (L' := [some (.ref x0), some (.int x1), some (.int (x2 + r2)), some (.int (x3 + (nI 1)))]) dX12_doneInAll_19 (by decide) rfl (by decide) rfl ?_
    refine kw_goto 4 dX12_doneInAll_22 (by decide) ?_
    have h := Option.some.inj h
    subst h
    exact hK
def X12_doneInAll_B4 (hp : kw_H) (x0 : Nat) (x1 : Int32) (z : Int32 × Int32) : Option (((Int32 × Int32) ⊕ (Int32))) := X12_doneInAll_b4 hp x0 x1 z.1 z.2
theorem X12_doneInAll_L4_t (G : kw_G) (Q : Option Value → kw_H → Prop) (hp : kw_H) (x0 : Nat) (x1 : Int32) (n : Nat) (z : Int32 × Int32) (r : Int32) (h : kp_lp (X12_doneInAll_B4 hp x0 x1) n z = some r) (hK : Q (some (.int r)) hp) : kw_V G mX12_doneInAll 4 [some (.ref x0), some (.int x1), some (.int z.1), some (.int z.2)] [] hp Q :=
  kv_lp _ (fun z => kw_V G mX12_doneInAll 4 [some (.ref x0), some (.int x1), some (.int z.1), some (.int z.2)] [] hp Q) (fun r => Q (some (.int r)) hp) (fun z x hb hx => X12_doneInAll_b4_t G Q hp x0 x1 z.1 z.2 x hb (by cases x <;> exact hx)) n z r h hK
def X12_doneInAll_F (hp : kw_H) (x0 : Nat) (x1 : Int32) : Option (Int32) :=
  kp_lp (X12_doneInAll_B4 hp x0 x1) 2000 (nI 0, nI 0)
set_option maxRecDepth 100000 in
set_option maxHeartbeats 4000000 in
theorem X12_doneInAll_c (G : kw_G) (hp : kw_H) (x0 : Nat) (x1 : Int32) (r : Int32) (h : X12_doneInAll_F hp x0 x1 = some r) : kw_Met G mX12_doneInAll [.ref x0, .int x1] hp (fun v h2 => v = some (.int r) ∧ h2 = hp) := by
  refine kw_met (L := [some (.ref x0), some (.int x1), none, none]) (r := 2) (by decide +kernel) (Nat.le_of_ble_eq_true rfl) rfl ?_
  unfold X12_doneInAll_F at h
  obtain ⟨Q, hQ⟩ : ∃ Q : Option Value → kw_H → Prop, Q = (fun v h2 => v = some (.int r) ∧ h2 = hp) := ⟨_, rfl⟩
  have hK : Q (some (.int r)) hp := by rw [hQ]; exact ⟨rfl, rfl⟩
  rw [← hQ]
  clear hQ
  refine kw_iconst (v := nI 0) dX12_doneInAll_0 (by decide) ?_
  refine kw_istore_n (L' := [some (.ref x0), some (.int x1), some (.int (nI 0)), none]) dX12_doneInAll_1 (by decide) rfl ?_
  refine kw_iconst (v := nI 0) dX12_doneInAll_2 (by decide) ?_
  refine kw_istore_n (L' := [some (.ref x0), some (.int x1), some (.int (nI 0)), some (.int (nI 0))]) dX12_doneInAll_3 (by decide) rfl ?_
  exact X12_doneInAll_L4_t G Q hp x0 x1 _ (nI 0, nI 0) _ h hK
/-! KitchenWheelsModel.drawn(III)I -/
def X12_drawn_K62 (G : kw_G) (Q : Option Value → kw_H → Prop) (x0 : Nat) (x1 : Int32) (x3 : Int32) (r : (Int64 × Int32 × kw_H) ⊕ (Int32 × kw_H)) : Prop := match r with
  | .inl z => kw_V G mX12_drawn 62 [some (.ref x0), some (.int x1), none, some (.int x3), some (.long z.1), none, some (.int z.2.1)] [] z.2.2 Q
  | .inr r => Q (some (.int r.1)) r.2
def X12_drawn_J113 (hp : kw_H) (x0 : Nat) (x3 : Int32) : Option (Int32 × kw_H) :=
  (if x3 = 0 then
  ((kp_ob hp x0 11).bind fun _ => X12_doneInAll_F hp x0 (nI 1782)).bind fun r8 =>
  ((kp_ob hp x0 11).bind fun _ => X12_doneInAll_F hp x0 (nI 0)).bind fun r9 =>
  some ((r8 - r9, hp))
else
  (kp_gR hp x0 [11] 0).bind fun v6 =>
  (kp_ldI hp v6 (nI 1786)).bind fun v7 =>
  some ((v7, hp)))
set_option maxRecDepth 100000 in
set_option maxHeartbeats 4000000 in
theorem X12_drawn_J113_t (G : kw_G) (Q : Option Value → kw_H → Prop) (hp : kw_H) (x0 : Nat) (x3 : Int32) (r : Int32 × kw_H) (h : X12_drawn_J113 hp x0 x3 = some r) (hK : Q (some (.int r.1)) r.2) : kw_V G mX12_drawn 113 [some (.ref x0), none, none, some (.int x3), none, none, none] [] hp Q := by
  unfold X12_drawn_J113 at h
  refine kw_iload_n dX12_drawn_113 rfl ?_
  refine kw_if_ne 133 dX12_drawn_114 (by decide) (fun c10 => ?_) (fun c10 => ?_)
  · have h := (if_neg c10).symm.trans h
    refine kw_aload_n dX12_drawn_133 rfl ?_
    obtain ⟨v6, ev6, h⟩ := Option.bind_eq_some_iff.mp h
    refine kv_gR gfX12_7 dX12_drawn_134 ev6 ?_
    refine kw_sipush (v := nI 1786) dX12_drawn_137 (by decide) ?_
    obtain ⟨v7, ev7, h⟩ := Option.bind_eq_some_iff.mp h
    refine kv_ldI dX12_drawn_140 ev7 ?_
    have h := Option.some.inj h
    subst h
    exact kw_iret rfl dX12_drawn_141 hK
  · have h := (if_pos c10).symm.trans h
    refine kw_aload_n dX12_drawn_117 rfl ?_
    refine kw_sipush (v := nI 1782) dX12_drawn_118 (by decide) ?_
    obtain ⟨r8, er8, h⟩ := Option.bind_eq_some_iff.mp h
    obtain ⟨ur8, eur8, er8⟩ := Option.bind_eq_some_iff.mp er8
    obtain ⟨fsr8, hor8⟩ := kp_ob_inv eur8
    refine kw_callV (As := [.int (nI 1782)]) (S := []) kcX12 cbX12_drawn_X12_doneInAll lkX12_244 imX12_doneInAll seX12_X12_doneInAll_X12_doneInAll rfl rfl (Nat.le_of_ble_eq_true rfl) dX12_drawn_121 hor8 (X12_doneInAll_c G hp x0 (nI 1782) _ er8) (fun vv hh hq => ?_)
    rw [hq.1, hq.2]
    show kw_V G mX12_drawn 124 [some (.ref x0), none, none, some (.int x3), none, none, none] [.int r8] hp Q
    refine kw_aload_n dX12_drawn_124 rfl ?_
    refine kw_iconst (v := nI 0) dX12_drawn_125 (by decide) ?_
    obtain ⟨r9, er9, h⟩ := Option.bind_eq_some_iff.mp h
    obtain ⟨ur9, eur9, er9⟩ := Option.bind_eq_some_iff.mp er9
    obtain ⟨fsr9, hor9⟩ := kp_ob_inv eur9
    refine kw_callV (As := [.int (nI 0)]) (S := [.int r8]) kcX12 cbX12_drawn_X12_doneInAll lkX12_244 imX12_doneInAll seX12_X12_doneInAll_X12_doneInAll rfl rfl (Nat.le_of_ble_eq_true rfl) dX12_drawn_126 hor9 (X12_doneInAll_c G hp x0 (nI 0) _ er9) (fun vv hh hq => ?_)
    rw [hq.1, hq.2]
    show kw_V G mX12_drawn 129 [some (.ref x0), none, none, some (.int x3), none, none, none] [.int r9, .int r8] hp Q
    refine kw_isub dX12_drawn_129 ?_
    refine kw_goto 141 dX12_drawn_130 (by decide) ?_
    have h := Option.some.inj h
    subst h
    exact kw_iret rfl dX12_drawn_141 hK
def X12_drawn_b62 (x0 : Nat) (x1 : Int32) (x3 : Int32) (x4 : Int64) (x6 : Int32) (hp : kw_H) : Option (((Int64 × Int32 × kw_H) ⊕ (Int32 × kw_H))) :=
  (if x1 ≤ x6 then
  (X12_drawn_J113 hp x0 x3).map (fun r => .inr (r))
else
  (kp_remL (x4 * (lN 16807)) (lN 2147483647)).bind fun v12 =>
  (kp_gR hp x0 [11] 0).bind fun v13 =>
  (kp_ldI hp v13 (nI 1787)).bind fun v14 =>
  (kp_remL v12 (lN 6)).bind fun v15 =>
  (kp_stI hp v13 (nI 1787) (v14 ||| ((nI 1) <<< ((Int64.toInt32 v15) &&& 31)))).bind fun hp16 =>
  ((kp_ob hp16 x0 11).bind fun _ => X12_passAsTold_F hp16 x0 (nI 1782)).bind fun r17 =>
  some (.inl (v12, x6 + (nI 1), r17)))
set_option maxRecDepth 100000 in
set_option maxHeartbeats 4000000 in
theorem X12_drawn_b62_t (G : kw_G) (Q : Option Value → kw_H → Prop) (x0 : Nat) (x1 : Int32) (x3 : Int32) (x4 : Int64) (x6 : Int32) (hp : kw_H) (r : ((Int64 × Int32 × kw_H) ⊕ (Int32 × kw_H))) (h : X12_drawn_b62 x0 x1 x3 x4 x6 hp = some r) (hK : X12_drawn_K62 G Q x0 x1 x3 r) : kw_V G mX12_drawn 62 [some (.ref x0), some (.int x1), none, some (.int x3), some (.long x4), none, some (.int x6)] [] hp Q := by
  unfold X12_drawn_b62 at h
  refine kw_iload dX12_drawn_62 rfl ?_
  refine kw_iload_n dX12_drawn_64 rfl ?_
  refine kw_icmp_ge 113 dX12_drawn_65 (by decide) (fun c18 => ?_) (fun c18 => ?_)
  · have h := (if_pos c18).symm.trans h
    refine kw_mask [true, false, true, true, false, true, false] (L' := [some (.ref x0), none, none, some (.int x3), none, none, none]) rfl ?_
    obtain ⟨r11, hr11, hrr11⟩ := Option.map_eq_some_iff.mp h
    subst hrr11
    exact X12_drawn_J113_t G Q hp x0 x3 r11 hr11 hK
  · have h := (if_neg c18).symm.trans h
    refine kw_lload dX12_drawn_68 rfl ?_
    refine kw_ldc2_w (v := lN 16807) dX12_drawn_70 ckX12_240 ?_
    refine kw_lmul dX12_drawn_73 ?_
    refine kw_ldc2_w (v := lN 2147483647) dX12_drawn_74 ckX12_242 ?_
    obtain ⟨v12, ev12, h⟩ := Option.bind_eq_some_iff.mp h
    refine kv_lrem dX12_drawn_77 ev12 ?_
    refine kw_lstore (L' := [some (.ref x0), some (.int x1), none, some (.int x3), some (.long v12), none, some (.int x6)]) dX12_drawn_78 (by decide) rfl ?_
    refine kw_aload_n dX12_drawn_80 rfl ?_
    obtain ⟨v13, ev13, h⟩ := Option.bind_eq_some_iff.mp h
    refine kv_gR gfX12_7 dX12_drawn_81 ev13 ?_
    refine kw_sipush (v := nI 1787) dX12_drawn_84 (by decide) ?_
    refine kw_dup2 dX12_drawn_87 rfl rfl ?_
    obtain ⟨v14, ev14, h⟩ := Option.bind_eq_some_iff.mp h
    refine kv_ldI dX12_drawn_88 ev14 ?_
    refine kw_iconst (v := nI 1) dX12_drawn_89 (by decide) ?_
    refine kw_lload dX12_drawn_90 rfl ?_
    refine kw_ldc2_w (v := lN 6) dX12_drawn_92 ckX12_179 ?_
    obtain ⟨v15, ev15, h⟩ := Option.bind_eq_some_iff.mp h
    refine kv_lrem dX12_drawn_95 ev15 ?_
    refine kw_l2i dX12_drawn_96 ?_
    refine kw_ishl dX12_drawn_97 ?_
    refine kw_ior dX12_drawn_98 ?_
    obtain ⟨hp16, ehp16, h⟩ := Option.bind_eq_some_iff.mp h
    refine kv_stI dX12_drawn_99 ehp16 ?_
    refine kw_aload_n dX12_drawn_100 rfl ?_
    refine kw_sipush (v := nI 1782) dX12_drawn_101 (by decide) ?_
    obtain ⟨r17, er17, h⟩ := Option.bind_eq_some_iff.mp h
    obtain ⟨ur17, eur17, er17⟩ := Option.bind_eq_some_iff.mp er17
    obtain ⟨fsr17, hor17⟩ := kp_ob_inv eur17
    refine kw_callV (As := [.int (nI 1782)]) (S := []) kcX12 cbX12_drawn_X12_passAsTold lkX12_167 imX12_passAsTold seX12_X12_passAsTold_X12_passAsTold rfl rfl (Nat.le_of_ble_eq_true rfl) dX12_drawn_104 hor17 (X12_passAsTold_c G hp16 x0 (nI 1782) _ er17) (fun vv hh hq => ?_)
    rw [hq.1, hq.2]
    show kw_V G mX12_drawn 107 [some (.ref x0), some (.int x1), none, some (.int x3), some (.long v12), none, some (.int x6)] [] r17 Q
    refine kv_iinc (w := nI 1) (L' := [some (.ref x0), some (.int x1), none, some (.int x3), some (.long v12), none, some (.int (x6 + (nI 1)))]) dX12_drawn_107 (by decide) rfl (by decide) rfl ?_
    refine kw_goto 62 dX12_drawn_110 (by decide) ?_
    have h := Option.some.inj h
    subst h
    exact hK
def X12_drawn_B62 (x0 : Nat) (x1 : Int32) (x3 : Int32) (z : Int64 × Int32 × kw_H) : Option (((Int64 × Int32 × kw_H) ⊕ (Int32 × kw_H))) := X12_drawn_b62 x0 x1 x3 z.1 z.2.1 z.2.2
theorem X12_drawn_L62_t (G : kw_G) (Q : Option Value → kw_H → Prop) (x0 : Nat) (x1 : Int32) (x3 : Int32) (n : Nat) (z : Int64 × Int32 × kw_H) (r : Int32 × kw_H) (h : kp_lp (X12_drawn_B62 x0 x1 x3) n z = some r) (hK : Q (some (.int r.1)) r.2) : kw_V G mX12_drawn 62 [some (.ref x0), some (.int x1), none, some (.int x3), some (.long z.1), none, some (.int z.2.1)] [] z.2.2 Q :=
  kv_lp _ (fun z => kw_V G mX12_drawn 62 [some (.ref x0), some (.int x1), none, some (.int x3), some (.long z.1), none, some (.int z.2.1)] [] z.2.2 Q) (fun r => Q (some (.int r.1)) r.2) (fun z x hb hx => X12_drawn_b62_t G Q x0 x1 x3 z.1 z.2.1 z.2.2 x hb (by cases x <;> exact hx)) n z r h hK
def X12_drawn_F (hp : kw_H) (x0 : Nat) (x1 : Int32) (x2 : Int32) (x3 : Int32) : Option (Int32 × kw_H) :=
  (kp_gI hp x0 [11] 1).bind fun v1 =>
  (if v1 = 0 then
  some (((-1000002), hp))
else
  (X12_in_F hp (Int32.toInt64 x1) (lN 0) (lN 60)).bind fun r2 =>
  (if r2 = 0 then
  some (((-1000001), hp))
else
  (X12_in_F hp (Int32.toInt64 x2) (lN 1) (lN 999999)).bind fun r3 =>
  (if r3 = 0 then
  some (((-1000001), hp))
else
  (X12_in_F hp (Int32.toInt64 x3) (lN 0) (lN 1)).bind fun r4 =>
  (if r4 = 0 then
  some (((-1000001), hp))
else
  ((kp_ob hp x0 11).bind fun _ => X12_copyTown_F hp x0 (nI 0) (nI 1782)).bind fun r5 =>
  kp_lp (X12_drawn_B62 x0 x1 x3) 2000 (Int32.toInt64 x2, nI 0, r5)))))
set_option maxRecDepth 100000 in
set_option maxHeartbeats 4000000 in
theorem X12_drawn_c (G : kw_G) (hp : kw_H) (x0 : Nat) (x1 : Int32) (x2 : Int32) (x3 : Int32) (r : Int32 × kw_H) (h : X12_drawn_F hp x0 x1 x2 x3 = some r) : kw_Met G mX12_drawn [.ref x0, .int x1, .int x2, .int x3] hp (fun v h2 => v = some (.int r.1) ∧ h2 = r.2) := by
  refine kw_met (L := [some (.ref x0), some (.int x1), some (.int x2), some (.int x3), none, none, none]) (r := 3) (by decide +kernel) (Nat.le_of_ble_eq_true rfl) rfl ?_
  unfold X12_drawn_F at h
  obtain ⟨Q, hQ⟩ : ∃ Q : Option Value → kw_H → Prop, Q = (fun v h2 => v = some (.int r.1) ∧ h2 = r.2) := ⟨_, rfl⟩
  have hK : Q (some (.int r.1)) r.2 := by rw [hQ]; exact ⟨rfl, rfl⟩
  rw [← hQ]
  clear hQ
  refine kw_aload_n dX12_drawn_0 rfl ?_
  obtain ⟨v1, ev1, h⟩ := Option.bind_eq_some_iff.mp h
  refine kv_gI gfX12_132 dX12_drawn_1 ev1 ?_
  refine kw_if_ne 10 dX12_drawn_4 (by decide) (fun c22 => ?_) (fun c22 => ?_)
  · have h := (if_neg c22).symm.trans h
    refine kw_iload_n dX12_drawn_10 rfl ?_
    refine kw_i2l dX12_drawn_11 ?_
    refine kw_lconst (v := lN 0) dX12_drawn_12 (by decide) ?_
    refine kw_ldc2_w (v := lN 60) dX12_drawn_13 ckX12_186 ?_
    obtain ⟨r2, er2, h⟩ := Option.bind_eq_some_iff.mp h
    refine kw_callS (As := [.long (Int32.toInt64 x1), .long (lN 0), .long (lN 60)]) (S := []) cbX12_drawn_X12_in lkX12_42 stX12_in rfl rfl (Nat.le_of_ble_eq_true rfl) dX12_drawn_16 (X12_in_c G hp (Int32.toInt64 x1) (lN 0) (lN 60) _ er2) (fun vv hh hq => ?_)
    rw [hq.1, hq.2]
    show kw_V G mX12_drawn 19 [some (.ref x0), some (.int x1), some (.int x2), some (.int x3), none, none, none] [.int r2] hp Q
    refine kw_if_eq 44 dX12_drawn_19 (by decide) (fun c21 => ?_) (fun c21 => ?_)
    · have h := (if_pos c21).symm.trans h
      refine kw_ldc (v := (-1000001)) dX12_drawn_44 ckX12_52 ?_
      have h := Option.some.inj h
      subst h
      exact kw_iret rfl dX12_drawn_46 hK
    · have h := (if_neg c21).symm.trans h
      refine kw_iload_n dX12_drawn_22 rfl ?_
      refine kw_i2l dX12_drawn_23 ?_
      refine kw_lconst (v := lN 1) dX12_drawn_24 (by decide) ?_
      refine kw_ldc2_w (v := lN 999999) dX12_drawn_25 ckX12_238 ?_
      obtain ⟨r3, er3, h⟩ := Option.bind_eq_some_iff.mp h
      refine kw_callS (As := [.long (Int32.toInt64 x2), .long (lN 1), .long (lN 999999)]) (S := []) cbX12_drawn_X12_in lkX12_42 stX12_in rfl rfl (Nat.le_of_ble_eq_true rfl) dX12_drawn_28 (X12_in_c G hp (Int32.toInt64 x2) (lN 1) (lN 999999) _ er3) (fun vv hh hq => ?_)
      rw [hq.1, hq.2]
      show kw_V G mX12_drawn 31 [some (.ref x0), some (.int x1), some (.int x2), some (.int x3), none, none, none] [.int r3] hp Q
      refine kw_if_eq 44 dX12_drawn_31 (by decide) (fun c20 => ?_) (fun c20 => ?_)
      · have h := (if_pos c20).symm.trans h
        refine kw_ldc (v := (-1000001)) dX12_drawn_44 ckX12_52 ?_
        have h := Option.some.inj h
        subst h
        exact kw_iret rfl dX12_drawn_46 hK
      · have h := (if_neg c20).symm.trans h
        refine kw_iload_n dX12_drawn_34 rfl ?_
        refine kw_i2l dX12_drawn_35 ?_
        refine kw_lconst (v := lN 0) dX12_drawn_36 (by decide) ?_
        refine kw_lconst (v := lN 1) dX12_drawn_37 (by decide) ?_
        obtain ⟨r4, er4, h⟩ := Option.bind_eq_some_iff.mp h
        refine kw_callS (As := [.long (Int32.toInt64 x3), .long (lN 0), .long (lN 1)]) (S := []) cbX12_drawn_X12_in lkX12_42 stX12_in rfl rfl (Nat.le_of_ble_eq_true rfl) dX12_drawn_38 (X12_in_c G hp (Int32.toInt64 x3) (lN 0) (lN 1) _ er4) (fun vv hh hq => ?_)
        rw [hq.1, hq.2]
        show kw_V G mX12_drawn 41 [some (.ref x0), some (.int x1), some (.int x2), some (.int x3), none, none, none] [.int r4] hp Q
        refine kw_if_ne 47 dX12_drawn_41 (by decide) (fun c19 => ?_) (fun c19 => ?_)
        · have h := (if_neg c19).symm.trans h
          refine kw_aload_n dX12_drawn_47 rfl ?_
          refine kw_iconst (v := nI 0) dX12_drawn_48 (by decide) ?_
          refine kw_sipush (v := nI 1782) dX12_drawn_49 (by decide) ?_
          obtain ⟨r5, er5, h⟩ := Option.bind_eq_some_iff.mp h
          obtain ⟨ur5, eur5, er5⟩ := Option.bind_eq_some_iff.mp er5
          obtain ⟨fsr5, hor5⟩ := kp_ob_inv eur5
          refine kw_callV (As := [.int (nI 0), .int (nI 1782)]) (S := []) kcX12 cbX12_drawn_X12_copyTown lkX12_128 imX12_copyTown seX12_X12_copyTown_X12_copyTown rfl rfl (Nat.le_of_ble_eq_true rfl) dX12_drawn_52 hor5 (X12_copyTown_c G hp x0 (nI 0) (nI 1782) _ er5) (fun vv hh hq => ?_)
          rw [hq.1, hq.2]
          show kw_V G mX12_drawn 55 [some (.ref x0), some (.int x1), some (.int x2), some (.int x3), none, none, none] [] r5 Q
          refine kw_iload_n dX12_drawn_55 rfl ?_
          refine kw_i2l dX12_drawn_56 ?_
          refine kw_lstore (L' := [some (.ref x0), some (.int x1), some (.int x2), some (.int x3), some (.long (Int32.toInt64 x2)), none, none]) dX12_drawn_57 (by decide) rfl ?_
          refine kw_iconst (v := nI 0) dX12_drawn_59 (by decide) ?_
          refine kw_istore (L' := [some (.ref x0), some (.int x1), some (.int x2), some (.int x3), some (.long (Int32.toInt64 x2)), none, some (.int (nI 0))]) dX12_drawn_60 (by decide) rfl ?_
          refine kw_mask [true, true, false, true, true, true, true] (L' := [some (.ref x0), some (.int x1), none, some (.int x3), some (.long (Int32.toInt64 x2)), none, some (.int (nI 0))]) rfl ?_
          exact X12_drawn_L62_t G Q x0 x1 x3 _ (Int32.toInt64 x2, nI 0, r5) _ h hK
        · have h := (if_pos c19).symm.trans h
          refine kw_ldc (v := (-1000001)) dX12_drawn_44 ckX12_52 ?_
          have h := Option.some.inj h
          subst h
          exact kw_iret rfl dX12_drawn_46 hK
  · have h := (if_pos c22).symm.trans h
    refine kw_ldc (v := (-1000002)) dX12_drawn_7 ckX12_139 ?_
    have h := Option.some.inj h
    subst h
    exact kw_iret rfl dX12_drawn_9 hK
/-! KitchenWheelsModel.image(I)I -/
def X12_image_F (hp : kw_H) (x0 : Nat) (x1 : Int32) : Option (Int32 × kw_H) :=
  (X12_in_F hp (Int32.toInt64 x1) (lN 0) (lN 1)).bind fun r1 =>
  (if r1 = 0 then
  some (((-1000001), hp))
else
  (kp_gI hp x0 [11] 1).bind fun v2 =>
  (if v2 = 0 then
  some (((-1000002), hp))
else
  ((kp_ob hp x0 11).bind fun _ => X12_copyTown_F hp x0 (nI 0) ((nI 1650) + ((nI 66) * x1))).bind fun r3 =>
  (kp_gR r3 x0 [11] 3).bind fun v4 =>
  (kp_stZ r3 v4 x1 (nI 1)).bind fun hp5 =>
  some ((nI 1, hp5))))
set_option maxRecDepth 100000 in
set_option maxHeartbeats 4000000 in
theorem X12_image_c (G : kw_G) (hp : kw_H) (x0 : Nat) (x1 : Int32) (r : Int32 × kw_H) (h : X12_image_F hp x0 x1 = some r) : kw_Met G mX12_image [.ref x0, .int x1] hp (fun v h2 => v = some (.int r.1) ∧ h2 = r.2) := by
  refine kw_met (L := [some (.ref x0), some (.int x1)]) (r := 0) (by decide +kernel) (Nat.le_of_ble_eq_true rfl) rfl ?_
  unfold X12_image_F at h
  obtain ⟨Q, hQ⟩ : ∃ Q : Option Value → kw_H → Prop, Q = (fun v h2 => v = some (.int r.1) ∧ h2 = r.2) := ⟨_, rfl⟩
  have hK : Q (some (.int r.1)) r.2 := by rw [hQ]; exact ⟨rfl, rfl⟩
  rw [← hQ]
  clear hQ
  refine kw_iload_n dX12_image_0 rfl ?_
  refine kw_i2l dX12_image_1 ?_
  refine kw_lconst (v := lN 0) dX12_image_2 (by decide) ?_
  refine kw_lconst (v := lN 1) dX12_image_3 (by decide) ?_
  obtain ⟨r1, er1, h⟩ := Option.bind_eq_some_iff.mp h
  refine kw_callS (As := [.long (Int32.toInt64 x1), .long (lN 0), .long (lN 1)]) (S := []) cbX12_image_X12_in lkX12_42 stX12_in rfl rfl (Nat.le_of_ble_eq_true rfl) dX12_image_4 (X12_in_c G hp (Int32.toInt64 x1) (lN 0) (lN 1) _ er1) (fun vv hh hq => ?_)
  rw [hq.1, hq.2]
  show kw_V G mX12_image 7 [some (.ref x0), some (.int x1)] [.int r1] hp Q
  refine kw_if_ne 13 dX12_image_7 (by decide) (fun c7 => ?_) (fun c7 => ?_)
  · have h := (if_neg c7).symm.trans h
    refine kw_aload_n dX12_image_13 rfl ?_
    obtain ⟨v2, ev2, h⟩ := Option.bind_eq_some_iff.mp h
    refine kv_gI gfX12_132 dX12_image_14 ev2 ?_
    refine kw_if_ne 23 dX12_image_17 (by decide) (fun c6 => ?_) (fun c6 => ?_)
    · have h := (if_neg c6).symm.trans h
      refine kw_aload_n dX12_image_23 rfl ?_
      refine kw_iconst (v := nI 0) dX12_image_24 (by decide) ?_
      refine kw_sipush (v := nI 1650) dX12_image_25 (by decide) ?_
      refine kw_bipush (v := nI 66) dX12_image_28 (by decide) ?_
      refine kw_iload_n dX12_image_30 rfl ?_
      refine kw_imul dX12_image_31 ?_
      refine kw_iadd dX12_image_32 ?_
      obtain ⟨r3, er3, h⟩ := Option.bind_eq_some_iff.mp h
      obtain ⟨ur3, eur3, er3⟩ := Option.bind_eq_some_iff.mp er3
      obtain ⟨fsr3, hor3⟩ := kp_ob_inv eur3
      refine kw_callV (As := [.int (nI 0), .int ((nI 1650) + ((nI 66) * x1))]) (S := []) kcX12 cbX12_image_X12_copyTown lkX12_128 imX12_copyTown seX12_X12_copyTown_X12_copyTown rfl rfl (Nat.le_of_ble_eq_true rfl) dX12_image_33 hor3 (X12_copyTown_c G hp x0 (nI 0) ((nI 1650) + ((nI 66) * x1)) _ er3) (fun vv hh hq => ?_)
      rw [hq.1, hq.2]
      show kw_V G mX12_image 36 [some (.ref x0), some (.int x1)] [] r3 Q
      refine kw_aload_n dX12_image_36 rfl ?_
      obtain ⟨v4, ev4, h⟩ := Option.bind_eq_some_iff.mp h
      refine kv_gR gfX12_13 dX12_image_37 ev4 ?_
      refine kw_iload_n dX12_image_40 rfl ?_
      refine kw_iconst (v := nI 1) dX12_image_41 (by decide) ?_
      obtain ⟨hp5, ehp5, h⟩ := Option.bind_eq_some_iff.mp h
      refine kv_stZ dX12_image_42 ehp5 ?_
      refine kw_iconst (v := nI 1) dX12_image_43 (by decide) ?_
      have h := Option.some.inj h
      subst h
      exact kw_iret rfl dX12_image_44 hK
    · have h := (if_pos c6).symm.trans h
      refine kw_ldc (v := (-1000002)) dX12_image_20 ckX12_139 ?_
      have h := Option.some.inj h
      subst h
      exact kw_iret rfl dX12_image_22 hK
  · have h := (if_pos c7).symm.trans h
    refine kw_ldc (v := (-1000001)) dX12_image_10 ckX12_52 ?_
    have h := Option.some.inj h
    subst h
    exact kw_iret rfl dX12_image_12 hK
/-! KitchenWheelsModel.restore(I)I -/
def X12_restore_F (hp : kw_H) (x0 : Nat) (x1 : Int32) : Option (Int32 × kw_H) :=
  (X12_in_F hp (Int32.toInt64 x1) (lN 0) (lN 1)).bind fun r1 =>
  (if r1 = 0 then
  some (((-1000001), hp))
else
  (kp_gR hp x0 [11] 3).bind fun v2 =>
  (kp_ldZ hp v2 x1).bind fun v3 =>
  (if v3 = 0 then
  some (((-1000002), hp))
else
  ((kp_ob hp x0 11).bind fun _ => X12_copyTown_F hp x0 ((nI 1650) + ((nI 66) * x1)) (nI 0)).bind fun r4 =>
  (kp_put r4 x0 [11] 2 (.int (nI 0))).bind fun hp5 =>
  some ((nI 1, hp5))))
set_option maxRecDepth 100000 in
set_option maxHeartbeats 4000000 in
theorem X12_restore_c (G : kw_G) (hp : kw_H) (x0 : Nat) (x1 : Int32) (r : Int32 × kw_H) (h : X12_restore_F hp x0 x1 = some r) : kw_Met G mX12_restore [.ref x0, .int x1] hp (fun v h2 => v = some (.int r.1) ∧ h2 = r.2) := by
  refine kw_met (L := [some (.ref x0), some (.int x1)]) (r := 0) (by decide +kernel) (Nat.le_of_ble_eq_true rfl) rfl ?_
  unfold X12_restore_F at h
  obtain ⟨Q, hQ⟩ : ∃ Q : Option Value → kw_H → Prop, Q = (fun v h2 => v = some (.int r.1) ∧ h2 = r.2) := ⟨_, rfl⟩
  have hK : Q (some (.int r.1)) r.2 := by rw [hQ]; exact ⟨rfl, rfl⟩
  rw [← hQ]
  clear hQ
  refine kw_iload_n dX12_restore_0 rfl ?_
  refine kw_i2l dX12_restore_1 ?_
  refine kw_lconst (v := lN 0) dX12_restore_2 (by decide) ?_
  refine kw_lconst (v := lN 1) dX12_restore_3 (by decide) ?_
  obtain ⟨r1, er1, h⟩ := Option.bind_eq_some_iff.mp h
  refine kw_callS (As := [.long (Int32.toInt64 x1), .long (lN 0), .long (lN 1)]) (S := []) cbX12_restore_X12_in lkX12_42 stX12_in rfl rfl (Nat.le_of_ble_eq_true rfl) dX12_restore_4 (X12_in_c G hp (Int32.toInt64 x1) (lN 0) (lN 1) _ er1) (fun vv hh hq => ?_)
  rw [hq.1, hq.2]
  show kw_V G mX12_restore 7 [some (.ref x0), some (.int x1)] [.int r1] hp Q
  refine kw_if_ne 13 dX12_restore_7 (by decide) (fun c7 => ?_) (fun c7 => ?_)
  · have h := (if_neg c7).symm.trans h
    refine kw_aload_n dX12_restore_13 rfl ?_
    obtain ⟨v2, ev2, h⟩ := Option.bind_eq_some_iff.mp h
    refine kv_gR gfX12_13 dX12_restore_14 ev2 ?_
    refine kw_iload_n dX12_restore_17 rfl ?_
    obtain ⟨v3, ev3, h⟩ := Option.bind_eq_some_iff.mp h
    refine kv_ldZ dX12_restore_18 ev3 ?_
    refine kw_if_ne 25 dX12_restore_19 (by decide) (fun c6 => ?_) (fun c6 => ?_)
    · have h := (if_neg c6).symm.trans h
      refine kw_aload_n dX12_restore_25 rfl ?_
      refine kw_sipush (v := nI 1650) dX12_restore_26 (by decide) ?_
      refine kw_bipush (v := nI 66) dX12_restore_29 (by decide) ?_
      refine kw_iload_n dX12_restore_31 rfl ?_
      refine kw_imul dX12_restore_32 ?_
      refine kw_iadd dX12_restore_33 ?_
      refine kw_iconst (v := nI 0) dX12_restore_34 (by decide) ?_
      obtain ⟨r4, er4, h⟩ := Option.bind_eq_some_iff.mp h
      obtain ⟨ur4, eur4, er4⟩ := Option.bind_eq_some_iff.mp er4
      obtain ⟨fsr4, hor4⟩ := kp_ob_inv eur4
      refine kw_callV (As := [.int ((nI 1650) + ((nI 66) * x1)), .int (nI 0)]) (S := []) kcX12 cbX12_restore_X12_copyTown lkX12_128 imX12_copyTown seX12_X12_copyTown_X12_copyTown rfl rfl (Nat.le_of_ble_eq_true rfl) dX12_restore_35 hor4 (X12_copyTown_c G hp x0 ((nI 1650) + ((nI 66) * x1)) (nI 0) _ er4) (fun vv hh hq => ?_)
      rw [hq.1, hq.2]
      show kw_V G mX12_restore 38 [some (.ref x0), some (.int x1)] [] r4 Q
      refine kw_aload_n dX12_restore_38 rfl ?_
      refine kw_iconst (v := nI 0) dX12_restore_39 (by decide) ?_
      obtain ⟨hp5, ehp5, h⟩ := Option.bind_eq_some_iff.mp h
      refine kv_put pfX12_restore_136 (fun _ => ⟨rfl, rfl⟩) dX12_restore_40 ehp5 ?_
      refine kw_iconst (v := nI 1) dX12_restore_43 (by decide) ?_
      have h := Option.some.inj h
      subst h
      exact kw_iret rfl dX12_restore_44 hK
    · have h := (if_pos c6).symm.trans h
      refine kw_ldc (v := (-1000002)) dX12_restore_22 ckX12_139 ?_
      have h := Option.some.inj h
      subst h
      exact kw_iret rfl dX12_restore_24 hK
  · have h := (if_pos c7).symm.trans h
    refine kw_ldc (v := (-1000001)) dX12_restore_10 ckX12_52 ?_
    have h := Option.some.inj h
    subst h
    exact kw_iret rfl dX12_restore_12 hK
/-! KitchenWheelsModel.kind(I)I -/
def X12_kind_F (hp : kw_H) (x0 : Nat) (x1 : Int32) : Option (Int32) :=
  ((kp_ob hp x0 11).bind fun _ => X12_isTurner_F hp x0 x1).bind fun r1 =>
  (if r1 = 0 then
  some ((-1000001))
else
  (kp_gR hp x0 [11] 0).bind fun v2 =>
  (kp_ldI hp v2 ((nI 22) + x1)).bind fun v3 =>
  some (v3))
set_option maxRecDepth 100000 in
set_option maxHeartbeats 4000000 in
theorem X12_kind_c (G : kw_G) (hp : kw_H) (x0 : Nat) (x1 : Int32) (r : Int32) (h : X12_kind_F hp x0 x1 = some r) : kw_Met G mX12_kind [.ref x0, .int x1] hp (fun v h2 => v = some (.int r) ∧ h2 = hp) := by
  refine kw_met (L := [some (.ref x0), some (.int x1)]) (r := 0) (by decide +kernel) (Nat.le_of_ble_eq_true rfl) rfl ?_
  unfold X12_kind_F at h
  obtain ⟨Q, hQ⟩ : ∃ Q : Option Value → kw_H → Prop, Q = (fun v h2 => v = some (.int r) ∧ h2 = hp) := ⟨_, rfl⟩
  have hK : Q (some (.int r)) hp := by rw [hQ]; exact ⟨rfl, rfl⟩
  rw [← hQ]
  clear hQ
  refine kw_aload_n dX12_kind_0 rfl ?_
  refine kw_iload_n dX12_kind_1 rfl ?_
  obtain ⟨r1, er1, h⟩ := Option.bind_eq_some_iff.mp h
  obtain ⟨ur1, eur1, er1⟩ := Option.bind_eq_some_iff.mp er1
  obtain ⟨fsr1, hor1⟩ := kp_ob_inv eur1
  refine kw_callV (As := [.int x1]) (S := []) kcX12 cbX12_kind_X12_isTurner lkX12_183 imX12_isTurner seX12_X12_isTurner_X12_isTurner rfl rfl (Nat.le_of_ble_eq_true rfl) dX12_kind_2 hor1 (X12_isTurner_c G hp x0 x1 _ er1) (fun vv hh hq => ?_)
  rw [hq.1, hq.2]
  show kw_V G mX12_kind 5 [some (.ref x0), some (.int x1)] [.int r1] hp Q
  refine kw_if_eq 20 dX12_kind_5 (by decide) (fun c4 => ?_) (fun c4 => ?_)
  · have h := (if_pos c4).symm.trans h
    refine kw_ldc (v := (-1000001)) dX12_kind_20 ckX12_52 ?_
    have h := Option.some.inj h
    subst h
    exact kw_iret rfl dX12_kind_22 hK
  · have h := (if_neg c4).symm.trans h
    refine kw_aload_n dX12_kind_8 rfl ?_
    obtain ⟨v2, ev2, h⟩ := Option.bind_eq_some_iff.mp h
    refine kv_gR gfX12_7 dX12_kind_9 ev2 ?_
    refine kw_bipush (v := nI 22) dX12_kind_12 (by decide) ?_
    refine kw_iload_n dX12_kind_14 rfl ?_
    refine kw_iadd dX12_kind_15 ?_
    obtain ⟨v3, ev3, h⟩ := Option.bind_eq_some_iff.mp h
    refine kv_ldI dX12_kind_16 ev3 ?_
    refine kw_goto 22 dX12_kind_17 (by decide) ?_
    have h := Option.some.inj h
    subst h
    exact kw_iret rfl dX12_kind_22 hK
/-! KitchenWheelsModel.isOf(II)Z -/
def X12_isOf_J34 (hp : kw_H) (x2 : Int32) (x3 : Int32) : Option (Int32) :=
  (if x2 = (nI 4) then
  (if x3 = (nI 5) then
  some (nI 1)
else
  some (nI 0))
else
  some (nI 0))
set_option maxRecDepth 100000 in
set_option maxHeartbeats 4000000 in
theorem X12_isOf_J34_t (G : kw_G) (Q : Option Value → kw_H → Prop) (hp : kw_H) (x2 : Int32) (x3 : Int32) (r : Int32) (h : X12_isOf_J34 hp x2 x3 = some r) (hK : Q (some (.int r)) hp) : kw_V G mX12_isOf 34 [none, none, some (.int x2), some (.int x3)] [] hp Q := by
  unfold X12_isOf_J34 at h
  refine kw_iload_n dX12_isOf_34 rfl ?_
  refine kw_iconst (v := nI 4) dX12_isOf_35 (by decide) ?_
  refine kw_icmp_ne 48 dX12_isOf_36 (by decide) (fun c4 => ?_) (fun c4 => ?_)
  · have h := (if_neg c4).symm.trans h
    refine kw_iconst (v := nI 0) dX12_isOf_48 (by decide) ?_
    have h := Option.some.inj h
    subst h
    exact kw_zret rfl (Or.inl rfl) dX12_isOf_49 hK
  · have h := (if_pos c4).symm.trans h
    refine kw_iload_n dX12_isOf_39 rfl ?_
    refine kw_iconst (v := nI 5) dX12_isOf_40 (by decide) ?_
    refine kw_icmp_ne 48 dX12_isOf_41 (by decide) (fun c3 => ?_) (fun c3 => ?_)
    · have h := (if_neg c3).symm.trans h
      refine kw_iconst (v := nI 0) dX12_isOf_48 (by decide) ?_
      have h := Option.some.inj h
      subst h
      exact kw_zret rfl (Or.inl rfl) dX12_isOf_49 hK
    · have h := (if_pos c3).symm.trans h
      refine kw_iconst (v := nI 1) dX12_isOf_44 (by decide) ?_
      refine kw_goto 49 dX12_isOf_45 (by decide) ?_
      have h := Option.some.inj h
      subst h
      exact kw_zret rfl (Or.inr rfl) dX12_isOf_49 hK
def X12_isOf_F (hp : kw_H) (x0 : Nat) (x1 : Int32) (x2 : Int32) : Option (Int32) :=
  (kp_gR hp x0 [11] 0).bind fun v1 =>
  (kp_ldI hp v1 ((nI 22) + x1)).bind fun v2 =>
  (if x2 = 0 then
  some (nI 1)
else
  (if x2 = v2 then
  some (nI 1)
else
  (if x2 = (nI 1) then
  (if v2 = (nI 2) then
  some (nI 1)
else
  (if v2 = (nI 3) then
  some (nI 1)
else
  X12_isOf_J34 hp x2 v2))
else
  X12_isOf_J34 hp x2 v2)))
set_option maxRecDepth 100000 in
set_option maxHeartbeats 4000000 in
theorem X12_isOf_c (G : kw_G) (hp : kw_H) (x0 : Nat) (x1 : Int32) (x2 : Int32) (r : Int32) (h : X12_isOf_F hp x0 x1 x2 = some r) : kw_Met G mX12_isOf [.ref x0, .int x1, .int x2] hp (fun v h2 => v = some (.int r) ∧ h2 = hp) := by
  refine kw_met (L := [some (.ref x0), some (.int x1), some (.int x2), none]) (r := 1) (by decide +kernel) (Nat.le_of_ble_eq_true rfl) rfl ?_
  unfold X12_isOf_F at h
  obtain ⟨Q, hQ⟩ : ∃ Q : Option Value → kw_H → Prop, Q = (fun v h2 => v = some (.int r) ∧ h2 = hp) := ⟨_, rfl⟩
  have hK : Q (some (.int r)) hp := by rw [hQ]; exact ⟨rfl, rfl⟩
  rw [← hQ]
  clear hQ
  refine kw_aload_n dX12_isOf_0 rfl ?_
  obtain ⟨v1, ev1, h⟩ := Option.bind_eq_some_iff.mp h
  refine kv_gR gfX12_7 dX12_isOf_1 ev1 ?_
  refine kw_bipush (v := nI 22) dX12_isOf_4 (by decide) ?_
  refine kw_iload_n dX12_isOf_6 rfl ?_
  refine kw_iadd dX12_isOf_7 ?_
  obtain ⟨v2, ev2, h⟩ := Option.bind_eq_some_iff.mp h
  refine kv_ldI dX12_isOf_8 ev2 ?_
  refine kw_istore_n (L' := [some (.ref x0), some (.int x1), some (.int x2), some (.int v2)]) dX12_isOf_9 (by decide) rfl ?_
  refine kw_iload_n dX12_isOf_10 rfl ?_
  refine kw_if_eq 44 dX12_isOf_11 (by decide) (fun c9 => ?_) (fun c9 => ?_)
  · have h := (if_pos c9).symm.trans h
    refine kw_iconst (v := nI 1) dX12_isOf_44 (by decide) ?_
    refine kw_goto 49 dX12_isOf_45 (by decide) ?_
    have h := Option.some.inj h
    subst h
    exact kw_zret rfl (Or.inr rfl) dX12_isOf_49 hK
  · have h := (if_neg c9).symm.trans h
    refine kw_iload_n dX12_isOf_14 rfl ?_
    refine kw_iload_n dX12_isOf_15 rfl ?_
    refine kw_icmp_eq 44 dX12_isOf_16 (by decide) (fun c8 => ?_) (fun c8 => ?_)
    · have h := (if_pos c8).symm.trans h
      refine kw_iconst (v := nI 1) dX12_isOf_44 (by decide) ?_
      refine kw_goto 49 dX12_isOf_45 (by decide) ?_
      have h := Option.some.inj h
      subst h
      exact kw_zret rfl (Or.inr rfl) dX12_isOf_49 hK
    · have h := (if_neg c8).symm.trans h
      refine kw_iload_n dX12_isOf_19 rfl ?_
      refine kw_iconst (v := nI 1) dX12_isOf_20 (by decide) ?_
      refine kw_icmp_ne 34 dX12_isOf_21 (by decide) (fun c7 => ?_) (fun c7 => ?_)
      · have h := (if_neg c7).symm.trans h
        refine kw_mask [false, false, true, true] (L' := [none, none, some (.int x2), some (.int v2)]) rfl ?_
        exact X12_isOf_J34_t G Q hp x2 v2 _ h hK
      · have h := (if_pos c7).symm.trans h
        refine kw_iload_n dX12_isOf_24 rfl ?_
        refine kw_iconst (v := nI 2) dX12_isOf_25 (by decide) ?_
        refine kw_icmp_eq 44 dX12_isOf_26 (by decide) (fun c6 => ?_) (fun c6 => ?_)
        · have h := (if_pos c6).symm.trans h
          refine kw_iconst (v := nI 1) dX12_isOf_44 (by decide) ?_
          refine kw_goto 49 dX12_isOf_45 (by decide) ?_
          have h := Option.some.inj h
          subst h
          exact kw_zret rfl (Or.inr rfl) dX12_isOf_49 hK
        · have h := (if_neg c6).symm.trans h
          refine kw_iload_n dX12_isOf_29 rfl ?_
          refine kw_iconst (v := nI 3) dX12_isOf_30 (by decide) ?_
          refine kw_icmp_eq 44 dX12_isOf_31 (by decide) (fun c5 => ?_) (fun c5 => ?_)
          · have h := (if_pos c5).symm.trans h
            refine kw_iconst (v := nI 1) dX12_isOf_44 (by decide) ?_
            refine kw_goto 49 dX12_isOf_45 (by decide) ?_
            have h := Option.some.inj h
            subst h
            exact kw_zret rfl (Or.inr rfl) dX12_isOf_49 hK
          · have h := (if_neg c5).symm.trans h
            refine kw_mask [false, false, true, true] (L' := [none, none, some (.int x2), some (.int v2)]) rfl ?_
            exact X12_isOf_J34_t G Q hp x2 v2 _ h hK
/-! KitchenWheelsModel.as(II)I -/
def X12_as_F (hp : kw_H) (x0 : Nat) (x1 : Int32) (x2 : Int32) : Option (Int32 × kw_H) :=
  ((kp_ob hp x0 11).bind fun _ => X12_isTurner_F hp x0 x1).bind fun r1 =>
  (if r1 = 0 then
  some (((-1000001), hp))
else
  (X12_in_F hp (Int32.toInt64 x2) (lN 0) (lN 5)).bind fun r2 =>
  (if r2 = 0 then
  some (((-1000001), hp))
else
  ((kp_ob hp x0 11).bind fun _ => X12_isOf_F hp x0 x1 x2).bind fun r3 =>
  (if r3 = 0 then
  ((kp_ob hp x0 11).bind fun _ => X12_find_F hp x0 (nI 3)).bind fun r4 =>
  some ((r4.1, r4.2))
else
  ((kp_ob hp x0 11).bind fun _ => X12_well_F hp x0 x1).bind fun r5 =>
  some ((r5.1, r5.2)))))
set_option maxRecDepth 100000 in
set_option maxHeartbeats 4000000 in
theorem X12_as_c (G : kw_G) (hp : kw_H) (x0 : Nat) (x1 : Int32) (x2 : Int32) (r : Int32 × kw_H) (h : X12_as_F hp x0 x1 x2 = some r) : kw_Met G mX12_as [.ref x0, .int x1, .int x2] hp (fun v h2 => v = some (.int r.1) ∧ h2 = r.2) := by
  refine kw_met (L := [some (.ref x0), some (.int x1), some (.int x2)]) (r := 0) (by decide +kernel) (Nat.le_of_ble_eq_true rfl) rfl ?_
  unfold X12_as_F at h
  obtain ⟨Q, hQ⟩ : ∃ Q : Option Value → kw_H → Prop, Q = (fun v h2 => v = some (.int r.1) ∧ h2 = r.2) := ⟨_, rfl⟩
  have hK : Q (some (.int r.1)) r.2 := by rw [hQ]; exact ⟨rfl, rfl⟩
  rw [← hQ]
  clear hQ
  refine kw_aload_n dX12_as_0 rfl ?_
  refine kw_iload_n dX12_as_1 rfl ?_
  obtain ⟨r1, er1, h⟩ := Option.bind_eq_some_iff.mp h
  obtain ⟨ur1, eur1, er1⟩ := Option.bind_eq_some_iff.mp er1
  obtain ⟨fsr1, hor1⟩ := kp_ob_inv eur1
  refine kw_callV (As := [.int x1]) (S := []) kcX12 cbX12_as_X12_isTurner lkX12_183 imX12_isTurner seX12_X12_isTurner_X12_isTurner rfl rfl (Nat.le_of_ble_eq_true rfl) dX12_as_2 hor1 (X12_isTurner_c G hp x0 x1 _ er1) (fun vv hh hq => ?_)
  rw [hq.1, hq.2]
  show kw_V G mX12_as 5 [some (.ref x0), some (.int x1), some (.int x2)] [.int r1] hp Q
  refine kw_if_eq 20 dX12_as_5 (by decide) (fun c8 => ?_) (fun c8 => ?_)
  · have h := (if_pos c8).symm.trans h
    refine kw_ldc (v := (-1000001)) dX12_as_20 ckX12_52 ?_
    have h := Option.some.inj h
    subst h
    exact kw_iret rfl dX12_as_22 hK
  · have h := (if_neg c8).symm.trans h
    refine kw_iload_n dX12_as_8 rfl ?_
    refine kw_i2l dX12_as_9 ?_
    refine kw_lconst (v := lN 0) dX12_as_10 (by decide) ?_
    refine kw_ldc2_w (v := lN 5) dX12_as_11 ckX12_140 ?_
    obtain ⟨r2, er2, h⟩ := Option.bind_eq_some_iff.mp h
    refine kw_callS (As := [.long (Int32.toInt64 x2), .long (lN 0), .long (lN 5)]) (S := []) cbX12_as_X12_in lkX12_42 stX12_in rfl rfl (Nat.le_of_ble_eq_true rfl) dX12_as_14 (X12_in_c G hp (Int32.toInt64 x2) (lN 0) (lN 5) _ er2) (fun vv hh hq => ?_)
    rw [hq.1, hq.2]
    show kw_V G mX12_as 17 [some (.ref x0), some (.int x1), some (.int x2)] [.int r2] hp Q
    refine kw_if_ne 23 dX12_as_17 (by decide) (fun c7 => ?_) (fun c7 => ?_)
    · have h := (if_neg c7).symm.trans h
      refine kw_aload_n dX12_as_23 rfl ?_
      refine kw_iload_n dX12_as_24 rfl ?_
      refine kw_iload_n dX12_as_25 rfl ?_
      obtain ⟨r3, er3, h⟩ := Option.bind_eq_some_iff.mp h
      obtain ⟨ur3, eur3, er3⟩ := Option.bind_eq_some_iff.mp er3
      obtain ⟨fsr3, hor3⟩ := kp_ob_inv eur3
      refine kw_callV (As := [.int x1, .int x2]) (S := []) kcX12 cbX12_as_X12_isOf lkX12_247 imX12_isOf seX12_X12_isOf_X12_isOf rfl rfl (Nat.le_of_ble_eq_true rfl) dX12_as_26 hor3 (X12_isOf_c G hp x0 x1 x2 _ er3) (fun vv hh hq => ?_)
      rw [hq.1, hq.2]
      show kw_V G mX12_as 29 [some (.ref x0), some (.int x1), some (.int x2)] [.int r3] hp Q
      refine kw_if_eq 40 dX12_as_29 (by decide) (fun c6 => ?_) (fun c6 => ?_)
      · have h := (if_pos c6).symm.trans h
        refine kw_aload_n dX12_as_40 rfl ?_
        refine kw_iconst (v := nI 3) dX12_as_41 (by decide) ?_
        obtain ⟨r4, er4, h⟩ := Option.bind_eq_some_iff.mp h
        obtain ⟨ur4, eur4, er4⟩ := Option.bind_eq_some_iff.mp er4
        obtain ⟨fsr4, hor4⟩ := kp_ob_inv eur4
        refine kw_callV (As := [.int (nI 3)]) (S := []) kcX12 cbX12_as_X12_find lkX12_53 imX12_find seX12_X12_find_X12_find rfl rfl (Nat.le_of_ble_eq_true rfl) dX12_as_42 hor4 (X12_find_c G hp x0 (nI 3) _ er4) (fun vv hh hq => ?_)
        rw [hq.1, hq.2]
        show kw_V G mX12_as 45 [some (.ref x0), some (.int x1), some (.int x2)] [.int r4.1] r4.2 Q
        have h := Option.some.inj h
        subst h
        exact kw_iret rfl dX12_as_45 hK
      · have h := (if_neg c6).symm.trans h
        refine kw_aload_n dX12_as_32 rfl ?_
        refine kw_iload_n dX12_as_33 rfl ?_
        obtain ⟨r5, er5, h⟩ := Option.bind_eq_some_iff.mp h
        obtain ⟨ur5, eur5, er5⟩ := Option.bind_eq_some_iff.mp er5
        obtain ⟨fsr5, hor5⟩ := kp_ob_inv eur5
        refine kw_callV (As := [.int x1]) (S := []) kcX12 cbX12_as_X12_well lkX12_57 imX12_well seX12_X12_well_X12_well rfl rfl (Nat.le_of_ble_eq_true rfl) dX12_as_34 hor5 (X12_well_c G hp x0 x1 _ er5) (fun vv hh hq => ?_)
        rw [hq.1, hq.2]
        show kw_V G mX12_as 37 [some (.ref x0), some (.int x1), some (.int x2)] [.int r5.1] r5.2 Q
        refine kw_goto 45 dX12_as_37 (by decide) ?_
        have h := Option.some.inj h
        subst h
        exact kw_iret rfl dX12_as_45 hK
    · have h := (if_pos c7).symm.trans h
      refine kw_ldc (v := (-1000001)) dX12_as_20 ckX12_52 ?_
      have h := Option.some.inj h
      subst h
      exact kw_iret rfl dX12_as_22 hK
/-! KitchenWheelsModel.begin(I)V -/
def X12_begin_F (hp : kw_H) (x0 : Nat) (x1 : Int32) : Option (kw_H) :=
  (kp_gI hp x0 [11] 12).bind fun v1 =>
  (if (nI 16) ≤ v1 then
  some (hp)
else
  (kp_gR hp x0 [11] 11).bind fun v2 =>
  (kp_gI hp x0 [11] 12).bind fun v3 =>
  (kp_stI hp v2 v3 x1).bind fun hp4 =>
  (kp_gI hp4 x0 [11] 12).bind fun v5 =>
  (kp_put hp4 x0 [11] 12 (.int (v5 + (nI 1)))).bind fun hp6 =>
  some (hp6))
set_option maxRecDepth 100000 in
set_option maxHeartbeats 4000000 in
theorem X12_begin_c (G : kw_G) (hp : kw_H) (x0 : Nat) (x1 : Int32) (r : kw_H) (h : X12_begin_F hp x0 x1 = some r) : kw_Met G mX12_begin [.ref x0, .int x1] hp (fun v h2 => v = none ∧ h2 = r) := by
  refine kw_met (L := [some (.ref x0), some (.int x1)]) (r := 0) (by decide +kernel) (Nat.le_of_ble_eq_true rfl) rfl ?_
  unfold X12_begin_F at h
  obtain ⟨Q, hQ⟩ : ∃ Q : Option Value → kw_H → Prop, Q = (fun v h2 => v = none ∧ h2 = r) := ⟨_, rfl⟩
  have hK : Q none r := by rw [hQ]; exact ⟨rfl, rfl⟩
  rw [← hQ]
  clear hQ
  refine kw_aload_n dX12_begin_0 rfl ?_
  obtain ⟨v1, ev1, h⟩ := Option.bind_eq_some_iff.mp h
  refine kv_gI gfX12_250 dX12_begin_1 ev1 ?_
  refine kw_bipush (v := nI 16) dX12_begin_4 (by decide) ?_
  refine kw_icmp_ge 29 dX12_begin_6 (by decide) (fun c7 => ?_) (fun c7 => ?_)
  · have h := (if_pos c7).symm.trans h
    have h := Option.some.inj h
    subst h
    exact kw_vret rfl dX12_begin_29 hK
  · have h := (if_neg c7).symm.trans h
    refine kw_aload_n dX12_begin_9 rfl ?_
    obtain ⟨v2, ev2, h⟩ := Option.bind_eq_some_iff.mp h
    refine kv_gR gfX12_29 dX12_begin_10 ev2 ?_
    refine kw_aload_n dX12_begin_13 rfl ?_
    obtain ⟨v3, ev3, h⟩ := Option.bind_eq_some_iff.mp h
    refine kv_gI gfX12_250 dX12_begin_14 ev3 ?_
    refine kw_iload_n dX12_begin_17 rfl ?_
    obtain ⟨hp4, ehp4, h⟩ := Option.bind_eq_some_iff.mp h
    refine kv_stI dX12_begin_18 ehp4 ?_
    refine kw_aload_n dX12_begin_19 rfl ?_
    refine kw_dup dX12_begin_20 rfl ?_
    obtain ⟨v5, ev5, h⟩ := Option.bind_eq_some_iff.mp h
    refine kv_gI gfX12_250 dX12_begin_21 ev5 ?_
    refine kw_iconst (v := nI 1) dX12_begin_24 (by decide) ?_
    refine kw_iadd dX12_begin_25 ?_
    obtain ⟨hp6, ehp6, h⟩ := Option.bind_eq_some_iff.mp h
    refine kv_put pfX12_begin_250 (fun _ => ⟨rfl, rfl⟩) dX12_begin_26 ehp6 ?_
    have h := Option.some.inj h
    subst h
    exact kw_vret rfl dX12_begin_29 hK
/-! KitchenWheelsModel.lentSize(I)I -/
def X12_lentSize_F (hp : kw_H) (x0 : Nat) (x1 : Int32) : Option (Int32 × kw_H) :=
  ((kp_ob hp x0 11).bind fun _ => X12_begin_F hp x0 (nI 10)).bind fun r1 =>
  (kp_gR r1 x0 [11] 0).bind fun v2 =>
  (kp_ldI r1 v2 ((nI 26) + x1)).bind fun v3 =>
  some ((v3, r1))
set_option maxRecDepth 100000 in
set_option maxHeartbeats 4000000 in
theorem X12_lentSize_c (G : kw_G) (hp : kw_H) (x0 : Nat) (x1 : Int32) (r : Int32 × kw_H) (h : X12_lentSize_F hp x0 x1 = some r) : kw_Met G mX12_lentSize [.ref x0, .int x1] hp (fun v h2 => v = some (.int r.1) ∧ h2 = r.2) := by
  refine kw_met (L := [some (.ref x0), some (.int x1)]) (r := 0) (by decide +kernel) (Nat.le_of_ble_eq_true rfl) rfl ?_
  unfold X12_lentSize_F at h
  obtain ⟨Q, hQ⟩ : ∃ Q : Option Value → kw_H → Prop, Q = (fun v h2 => v = some (.int r.1) ∧ h2 = r.2) := ⟨_, rfl⟩
  have hK : Q (some (.int r.1)) r.2 := by rw [hQ]; exact ⟨rfl, rfl⟩
  rw [← hQ]
  clear hQ
  refine kw_aload_n dX12_lentSize_0 rfl ?_
  refine kw_bipush (v := nI 10) dX12_lentSize_1 (by decide) ?_
  obtain ⟨r1, er1, h⟩ := Option.bind_eq_some_iff.mp h
  obtain ⟨ur1, eur1, er1⟩ := Option.bind_eq_some_iff.mp er1
  obtain ⟨fsr1, hor1⟩ := kp_ob_inv eur1
  refine kw_callV (As := [.int (nI 10)]) (S := []) kcX12 cbX12_lentSize_X12_begin lkX12_253 imX12_begin seX12_X12_begin_X12_begin rfl rfl (Nat.le_of_ble_eq_true rfl) dX12_lentSize_3 hor1 (X12_begin_c G hp x0 (nI 10) _ er1) (fun vv hh hq => ?_)
  rw [hq.1, hq.2]
  show kw_V G mX12_lentSize 6 [some (.ref x0), some (.int x1)] [] r1 Q
  refine kw_aload_n dX12_lentSize_6 rfl ?_
  obtain ⟨v2, ev2, h⟩ := Option.bind_eq_some_iff.mp h
  refine kv_gR gfX12_7 dX12_lentSize_7 ev2 ?_
  refine kw_bipush (v := nI 26) dX12_lentSize_10 (by decide) ?_
  refine kw_iload_n dX12_lentSize_12 rfl ?_
  refine kw_iadd dX12_lentSize_13 ?_
  obtain ⟨v3, ev3, h⟩ := Option.bind_eq_some_iff.mp h
  refine kv_ldI dX12_lentSize_14 ev3 ?_
  have h := Option.some.inj h
  subst h
  exact kw_iret rfl dX12_lentSize_15 hK
/-! KitchenWheelsModel.lentMark(I)I -/
def X12_lentMark_F (hp : kw_H) (x0 : Nat) (x1 : Int32) : Option (Int32 × kw_H) :=
  ((kp_ob hp x0 11).bind fun _ => X12_begin_F hp x0 (nI 20)).bind fun r1 =>
  some ((x1, r1))
set_option maxRecDepth 100000 in
set_option maxHeartbeats 4000000 in
theorem X12_lentMark_c (G : kw_G) (hp : kw_H) (x0 : Nat) (x1 : Int32) (r : Int32 × kw_H) (h : X12_lentMark_F hp x0 x1 = some r) : kw_Met G mX12_lentMark [.ref x0, .int x1] hp (fun v h2 => v = some (.int r.1) ∧ h2 = r.2) := by
  refine kw_met (L := [some (.ref x0), some (.int x1)]) (r := 0) (by decide +kernel) (Nat.le_of_ble_eq_true rfl) rfl ?_
  unfold X12_lentMark_F at h
  obtain ⟨Q, hQ⟩ : ∃ Q : Option Value → kw_H → Prop, Q = (fun v h2 => v = some (.int r.1) ∧ h2 = r.2) := ⟨_, rfl⟩
  have hK : Q (some (.int r.1)) r.2 := by rw [hQ]; exact ⟨rfl, rfl⟩
  rw [← hQ]
  clear hQ
  refine kw_aload_n dX12_lentMark_0 rfl ?_
  refine kw_bipush (v := nI 20) dX12_lentMark_1 (by decide) ?_
  obtain ⟨r1, er1, h⟩ := Option.bind_eq_some_iff.mp h
  obtain ⟨ur1, eur1, er1⟩ := Option.bind_eq_some_iff.mp er1
  obtain ⟨fsr1, hor1⟩ := kp_ob_inv eur1
  refine kw_callV (As := [.int (nI 20)]) (S := []) kcX12 cbX12_lentMark_X12_begin lkX12_253 imX12_begin seX12_X12_begin_X12_begin rfl rfl (Nat.le_of_ble_eq_true rfl) dX12_lentMark_3 hor1 (X12_begin_c G hp x0 (nI 20) _ er1) (fun vv hh hq => ?_)
  rw [hq.1, hq.2]
  show kw_V G mX12_lentMark 6 [some (.ref x0), some (.int x1)] [] r1 Q
  refine kw_iload_n dX12_lentMark_6 rfl ?_
  have h := Option.some.inj h
  subst h
  exact kw_iret rfl dX12_lentMark_7 hK
/-! KitchenWheelsModel.onesMark(I)I -/
def X12_onesMark_F (hp : kw_H) (x0 : Nat) (x1 : Int32) : Option (Int32 × kw_H) :=
  ((kp_ob hp x0 11).bind fun _ => X12_begin_F hp x0 (nI 21)).bind fun r1 =>
  ((kp_ob r1 x0 11).bind fun _ => X12_lentMark_F r1 x0 x1).bind fun r2 =>
  (kp_gR r2.2 x0 [11] 0).bind fun v3 =>
  (kp_ldI r2.2 v3 (nI 4)).bind fun v4 =>
  some ((r2.1 + v4, r2.2))
set_option maxRecDepth 100000 in
set_option maxHeartbeats 4000000 in
theorem X12_onesMark_c (G : kw_G) (hp : kw_H) (x0 : Nat) (x1 : Int32) (r : Int32 × kw_H) (h : X12_onesMark_F hp x0 x1 = some r) : kw_Met G mX12_onesMark [.ref x0, .int x1] hp (fun v h2 => v = some (.int r.1) ∧ h2 = r.2) := by
  refine kw_met (L := [some (.ref x0), some (.int x1)]) (r := 0) (by decide +kernel) (Nat.le_of_ble_eq_true rfl) rfl ?_
  unfold X12_onesMark_F at h
  obtain ⟨Q, hQ⟩ : ∃ Q : Option Value → kw_H → Prop, Q = (fun v h2 => v = some (.int r.1) ∧ h2 = r.2) := ⟨_, rfl⟩
  have hK : Q (some (.int r.1)) r.2 := by rw [hQ]; exact ⟨rfl, rfl⟩
  rw [← hQ]
  clear hQ
  refine kw_aload_n dX12_onesMark_0 rfl ?_
  refine kw_bipush (v := nI 21) dX12_onesMark_1 (by decide) ?_
  obtain ⟨r1, er1, h⟩ := Option.bind_eq_some_iff.mp h
  obtain ⟨ur1, eur1, er1⟩ := Option.bind_eq_some_iff.mp er1
  obtain ⟨fsr1, hor1⟩ := kp_ob_inv eur1
  refine kw_callV (As := [.int (nI 21)]) (S := []) kcX12 cbX12_onesMark_X12_begin lkX12_253 imX12_begin seX12_X12_begin_X12_begin rfl rfl (Nat.le_of_ble_eq_true rfl) dX12_onesMark_3 hor1 (X12_begin_c G hp x0 (nI 21) _ er1) (fun vv hh hq => ?_)
  rw [hq.1, hq.2]
  show kw_V G mX12_onesMark 6 [some (.ref x0), some (.int x1)] [] r1 Q
  refine kw_aload_n dX12_onesMark_6 rfl ?_
  refine kw_iload_n dX12_onesMark_7 rfl ?_
  obtain ⟨r2, er2, h⟩ := Option.bind_eq_some_iff.mp h
  obtain ⟨ur2, eur2, er2⟩ := Option.bind_eq_some_iff.mp er2
  obtain ⟨fsr2, hor2⟩ := kp_ob_inv eur2
  refine kw_callV (As := [.int x1]) (S := []) kcX12 cbX12_onesMark_X12_lentMark lkX12_268 imX12_lentMark seX12_X12_lentMark_X12_lentMark rfl rfl (Nat.le_of_ble_eq_true rfl) dX12_onesMark_8 hor2 (X12_lentMark_c G r1 x0 x1 _ er2) (fun vv hh hq => ?_)
  rw [hq.1, hq.2]
  show kw_V G mX12_onesMark 11 [some (.ref x0), some (.int x1)] [.int r2.1] r2.2 Q
  refine kw_aload_n dX12_onesMark_11 rfl ?_
  obtain ⟨v3, ev3, h⟩ := Option.bind_eq_some_iff.mp h
  refine kv_gR gfX12_7 dX12_onesMark_12 ev3 ?_
  refine kw_iconst (v := nI 4) dX12_onesMark_15 (by decide) ?_
  obtain ⟨v4, ev4, h⟩ := Option.bind_eq_some_iff.mp h
  refine kv_ldI dX12_onesMark_16 ev4 ?_
  refine kw_iadd dX12_onesMark_17 ?_
  have h := Option.some.inj h
  subst h
  exact kw_iret rfl dX12_onesMark_18 hK
/-! KitchenWheelsModel.mark(I)I -/
def X12_mark_F (hp : kw_H) (x0 : Nat) (x1 : Int32) : Option (Int32 × kw_H) :=
  (kp_gR hp x0 [11] 0).bind fun v1 =>
  (kp_ldI hp v1 ((nI 22) + x1)).bind fun v2 =>
  (if v2 = nI 2 then
  ((kp_ob hp x0 11).bind fun _ => X12_begin_F hp x0 (nI 24)).bind fun r3 =>
  ((kp_ob r3 x0 11).bind fun _ => X12_onesMark_F r3 x0 x1).bind fun r4 =>
  some (((nI 2) * r4.1, r4.2))
else if v2 = nI 3 then
  ((kp_ob hp x0 11).bind fun _ => X12_begin_F hp x0 (nI 22)).bind fun r6 =>
  ((kp_ob r6 x0 11).bind fun _ => X12_onesMark_F r6 x0 x1).bind fun r7 =>
  some ((r7.1 - (nI 1000), r7.2))
else 
  ((kp_ob hp x0 11).bind fun _ => X12_onesMark_F hp x0 x1).bind fun r9 =>
  some ((r9.1, r9.2)))
set_option maxRecDepth 100000 in
set_option maxHeartbeats 4000000 in
theorem X12_mark_c (G : kw_G) (hp : kw_H) (x0 : Nat) (x1 : Int32) (r : Int32 × kw_H) (h : X12_mark_F hp x0 x1 = some r) : kw_Met G mX12_mark [.ref x0, .int x1] hp (fun v h2 => v = some (.int r.1) ∧ h2 = r.2) := by
  refine kw_met (L := [some (.ref x0), some (.int x1)]) (r := 0) (by decide +kernel) (Nat.le_of_ble_eq_true rfl) rfl ?_
  unfold X12_mark_F at h
  obtain ⟨Q, hQ⟩ : ∃ Q : Option Value → kw_H → Prop, Q = (fun v h2 => v = some (.int r.1) ∧ h2 = r.2) := ⟨_, rfl⟩
  have hK : Q (some (.int r.1)) r.2 := by rw [hQ]; exact ⟨rfl, rfl⟩
  rw [← hQ]
  clear hQ
  refine kw_aload_n dX12_mark_0 rfl ?_
  obtain ⟨v1, ev1, h⟩ := Option.bind_eq_some_iff.mp h
  refine kv_gR gfX12_7 dX12_mark_1 ev1 ?_
  refine kw_bipush (v := nI 22) dX12_mark_4 (by decide) ?_
  refine kw_iload_n dX12_mark_6 rfl ?_
  refine kw_iadd dX12_mark_7 ?_
  obtain ⟨v2, ev2, h⟩ := Option.bind_eq_some_iff.mp h
  refine kv_ldI dX12_mark_8 ev2 ?_
  by_cases c5 : v2 = nI 2
  · refine kw_lookup (off := 43) 52 dX12_mark_9 (by decide) (by rw [c5]; decide) (by decide) ?_
    have h := (if_pos c5).symm.trans h
    refine kw_aload_n dX12_mark_52 rfl ?_
    refine kw_bipush (v := nI 24) dX12_mark_53 (by decide) ?_
    obtain ⟨r3, er3, h⟩ := Option.bind_eq_some_iff.mp h
    obtain ⟨ur3, eur3, er3⟩ := Option.bind_eq_some_iff.mp er3
    obtain ⟨fsr3, hor3⟩ := kp_ob_inv eur3
    refine kw_callV (As := [.int (nI 24)]) (S := []) kcX12 cbX12_mark_X12_begin lkX12_253 imX12_begin seX12_X12_begin_X12_begin rfl rfl (Nat.le_of_ble_eq_true rfl) dX12_mark_55 hor3 (X12_begin_c G hp x0 (nI 24) _ er3) (fun vv hh hq => ?_)
    rw [hq.1, hq.2]
    show kw_V G mX12_mark 58 [some (.ref x0), some (.int x1)] [] r3 Q
    refine kw_iconst (v := nI 2) dX12_mark_58 (by decide) ?_
    refine kw_aload_n dX12_mark_59 rfl ?_
    refine kw_iload_n dX12_mark_60 rfl ?_
    obtain ⟨r4, er4, h⟩ := Option.bind_eq_some_iff.mp h
    obtain ⟨ur4, eur4, er4⟩ := Option.bind_eq_some_iff.mp er4
    obtain ⟨fsr4, hor4⟩ := kp_ob_inv eur4
    refine kw_callV (As := [.int x1]) (S := [.int (nI 2)]) kcX12 cbX12_mark_X12_onesMark lkX12_271 imX12_onesMark seX12_X12_onesMark_X12_onesMark rfl rfl (Nat.le_of_ble_eq_true rfl) dX12_mark_61 hor4 (X12_onesMark_c G r3 x0 x1 _ er4) (fun vv hh hq => ?_)
    rw [hq.1, hq.2]
    show kw_V G mX12_mark 64 [some (.ref x0), some (.int x1)] [.int r4.1, .int (nI 2)] r4.2 Q
    refine kw_imul dX12_mark_64 ?_
    have h := Option.some.inj h
    subst h
    exact kw_iret rfl dX12_mark_65 hK
  · have h := (if_neg c5).symm.trans h
    by_cases c8 : v2 = nI 3
    · refine kw_lookup (off := 27) 36 dX12_mark_9 (by decide) (by rw [c8]; decide) (by decide) ?_
      have h := (if_pos c8).symm.trans h
      refine kw_aload_n dX12_mark_36 rfl ?_
      refine kw_bipush (v := nI 22) dX12_mark_37 (by decide) ?_
      obtain ⟨r6, er6, h⟩ := Option.bind_eq_some_iff.mp h
      obtain ⟨ur6, eur6, er6⟩ := Option.bind_eq_some_iff.mp er6
      obtain ⟨fsr6, hor6⟩ := kp_ob_inv eur6
      refine kw_callV (As := [.int (nI 22)]) (S := []) kcX12 cbX12_mark_X12_begin lkX12_253 imX12_begin seX12_X12_begin_X12_begin rfl rfl (Nat.le_of_ble_eq_true rfl) dX12_mark_39 hor6 (X12_begin_c G hp x0 (nI 22) _ er6) (fun vv hh hq => ?_)
      rw [hq.1, hq.2]
      show kw_V G mX12_mark 42 [some (.ref x0), some (.int x1)] [] r6 Q
      refine kw_aload_n dX12_mark_42 rfl ?_
      refine kw_iload_n dX12_mark_43 rfl ?_
      obtain ⟨r7, er7, h⟩ := Option.bind_eq_some_iff.mp h
      obtain ⟨ur7, eur7, er7⟩ := Option.bind_eq_some_iff.mp er7
      obtain ⟨fsr7, hor7⟩ := kp_ob_inv eur7
      refine kw_callV (As := [.int x1]) (S := []) kcX12 cbX12_mark_X12_onesMark lkX12_271 imX12_onesMark seX12_X12_onesMark_X12_onesMark rfl rfl (Nat.le_of_ble_eq_true rfl) dX12_mark_44 hor7 (X12_onesMark_c G r6 x0 x1 _ er7) (fun vv hh hq => ?_)
      rw [hq.1, hq.2]
      show kw_V G mX12_mark 47 [some (.ref x0), some (.int x1)] [.int r7.1] r7.2 Q
      refine kw_sipush (v := nI 1000) dX12_mark_47 (by decide) ?_
      refine kw_isub dX12_mark_50 ?_
      have h := Option.some.inj h
      subst h
      exact kw_iret rfl dX12_mark_51 hK
    · have h := (if_neg c8).symm.trans h
      refine kw_lookup (off := 57) 66 dX12_mark_9 (by decide) (by show Op.lookupswitch.offset [(2, 43), (3, 27)] 57 _ = _; rw [lv_osw (a := 2) c5 (by decide), lv_osw (a := 3) c8 (by decide)]; rfl) (by decide) ?_
      refine kw_aload_n dX12_mark_66 rfl ?_
      refine kw_iload_n dX12_mark_67 rfl ?_
      obtain ⟨r9, er9, h⟩ := Option.bind_eq_some_iff.mp h
      obtain ⟨ur9, eur9, er9⟩ := Option.bind_eq_some_iff.mp er9
      obtain ⟨fsr9, hor9⟩ := kp_ob_inv eur9
      refine kw_callV (As := [.int x1]) (S := []) kcX12 cbX12_mark_X12_onesMark lkX12_271 imX12_onesMark seX12_X12_onesMark_X12_onesMark rfl rfl (Nat.le_of_ble_eq_true rfl) dX12_mark_68 hor9 (X12_onesMark_c G hp x0 x1 _ er9) (fun vv hh hq => ?_)
      rw [hq.1, hq.2]
      show kw_V G mX12_mark 71 [some (.ref x0), some (.int x1)] [.int r9.1] r9.2 Q
      have h := Option.some.inj h
      subst h
      exact kw_iret rfl dX12_mark_71 hK
/-! KitchenWheelsModel.onesSize(I)I -/
def X12_onesSize_F (hp : kw_H) (x0 : Nat) (x1 : Int32) : Option (Int32 × kw_H) :=
  ((kp_ob hp x0 11).bind fun _ => X12_begin_F hp x0 (nI 11)).bind fun r1 =>
  ((kp_ob r1 x0 11).bind fun _ => X12_lentSize_F r1 x0 x1).bind fun r2 =>
  ((kp_ob r2.2 x0 11).bind fun _ => X12_mark_F r2.2 x0 x1).bind fun r3 =>
  some ((r2.1 + r3.1, r3.2))
set_option maxRecDepth 100000 in
set_option maxHeartbeats 4000000 in
theorem X12_onesSize_c (G : kw_G) (hp : kw_H) (x0 : Nat) (x1 : Int32) (r : Int32 × kw_H) (h : X12_onesSize_F hp x0 x1 = some r) : kw_Met G mX12_onesSize [.ref x0, .int x1] hp (fun v h2 => v = some (.int r.1) ∧ h2 = r.2) := by
  refine kw_met (L := [some (.ref x0), some (.int x1), none]) (r := 1) (by decide +kernel) (Nat.le_of_ble_eq_true rfl) rfl ?_
  unfold X12_onesSize_F at h
  obtain ⟨Q, hQ⟩ : ∃ Q : Option Value → kw_H → Prop, Q = (fun v h2 => v = some (.int r.1) ∧ h2 = r.2) := ⟨_, rfl⟩
  have hK : Q (some (.int r.1)) r.2 := by rw [hQ]; exact ⟨rfl, rfl⟩
  rw [← hQ]
  clear hQ
  refine kw_aload_n dX12_onesSize_0 rfl ?_
  refine kw_bipush (v := nI 11) dX12_onesSize_1 (by decide) ?_
  obtain ⟨r1, er1, h⟩ := Option.bind_eq_some_iff.mp h
  obtain ⟨ur1, eur1, er1⟩ := Option.bind_eq_some_iff.mp er1
  obtain ⟨fsr1, hor1⟩ := kp_ob_inv eur1
  refine kw_callV (As := [.int (nI 11)]) (S := []) kcX12 cbX12_onesSize_X12_begin lkX12_253 imX12_begin seX12_X12_begin_X12_begin rfl rfl (Nat.le_of_ble_eq_true rfl) dX12_onesSize_3 hor1 (X12_begin_c G hp x0 (nI 11) _ er1) (fun vv hh hq => ?_)
  rw [hq.1, hq.2]
  show kw_V G mX12_onesSize 6 [some (.ref x0), some (.int x1), none] [] r1 Q
  refine kw_aload_n dX12_onesSize_6 rfl ?_
  refine kw_iload_n dX12_onesSize_7 rfl ?_
  obtain ⟨r2, er2, h⟩ := Option.bind_eq_some_iff.mp h
  obtain ⟨ur2, eur2, er2⟩ := Option.bind_eq_some_iff.mp er2
  obtain ⟨fsr2, hor2⟩ := kp_ob_inv eur2
  refine kw_callV (As := [.int x1]) (S := []) kcX12 cbX12_onesSize_X12_lentSize lkX12_256 imX12_lentSize seX12_X12_lentSize_X12_lentSize rfl rfl (Nat.le_of_ble_eq_true rfl) dX12_onesSize_8 hor2 (X12_lentSize_c G r1 x0 x1 _ er2) (fun vv hh hq => ?_)
  rw [hq.1, hq.2]
  show kw_V G mX12_onesSize 11 [some (.ref x0), some (.int x1), none] [.int r2.1] r2.2 Q
  refine kw_istore_n (L' := [some (.ref x0), some (.int x1), some (.int r2.1)]) dX12_onesSize_11 (by decide) rfl ?_
  refine kw_iload_n dX12_onesSize_12 rfl ?_
  refine kw_aload_n dX12_onesSize_13 rfl ?_
  refine kw_iload_n dX12_onesSize_14 rfl ?_
  obtain ⟨r3, er3, h⟩ := Option.bind_eq_some_iff.mp h
  obtain ⟨ur3, eur3, er3⟩ := Option.bind_eq_some_iff.mp er3
  obtain ⟨fsr3, hor3⟩ := kp_ob_inv eur3
  refine kw_callV (As := [.int x1]) (S := [.int r2.1]) kcX12 cbX12_onesSize_X12_mark lkX12_259 imX12_mark seX12_X12_mark_X12_mark rfl rfl (Nat.le_of_ble_eq_true rfl) dX12_onesSize_15 hor3 (X12_mark_c G r2.2 x0 x1 _ er3) (fun vv hh hq => ?_)
  rw [hq.1, hq.2]
  show kw_V G mX12_onesSize 18 [some (.ref x0), some (.int x1), some (.int r2.1)] [.int r3.1, .int r2.1] r3.2 Q
  refine kw_iadd dX12_onesSize_18 ?_
  have h := Option.some.inj h
  subst h
  exact kw_iret rfl dX12_onesSize_19 hK
/-! KitchenWheelsModel.lawsSize(I)I -/
def X12_lawsSize_F (hp : kw_H) (x0 : Nat) (x1 : Int32) : Option (Int32 × kw_H) :=
  ((kp_ob hp x0 11).bind fun _ => X12_begin_F hp x0 (nI 13)).bind fun r1 =>
  ((kp_ob r1 x0 11).bind fun _ => X12_lentSize_F r1 x0 x1).bind fun r2 =>
  some ((r2.1 - (nI 100), r2.2))
set_option maxRecDepth 100000 in
set_option maxHeartbeats 4000000 in
theorem X12_lawsSize_c (G : kw_G) (hp : kw_H) (x0 : Nat) (x1 : Int32) (r : Int32 × kw_H) (h : X12_lawsSize_F hp x0 x1 = some r) : kw_Met G mX12_lawsSize [.ref x0, .int x1] hp (fun v h2 => v = some (.int r.1) ∧ h2 = r.2) := by
  refine kw_met (L := [some (.ref x0), some (.int x1)]) (r := 0) (by decide +kernel) (Nat.le_of_ble_eq_true rfl) rfl ?_
  unfold X12_lawsSize_F at h
  obtain ⟨Q, hQ⟩ : ∃ Q : Option Value → kw_H → Prop, Q = (fun v h2 => v = some (.int r.1) ∧ h2 = r.2) := ⟨_, rfl⟩
  have hK : Q (some (.int r.1)) r.2 := by rw [hQ]; exact ⟨rfl, rfl⟩
  rw [← hQ]
  clear hQ
  refine kw_aload_n dX12_lawsSize_0 rfl ?_
  refine kw_bipush (v := nI 13) dX12_lawsSize_1 (by decide) ?_
  obtain ⟨r1, er1, h⟩ := Option.bind_eq_some_iff.mp h
  obtain ⟨ur1, eur1, er1⟩ := Option.bind_eq_some_iff.mp er1
  obtain ⟨fsr1, hor1⟩ := kp_ob_inv eur1
  refine kw_callV (As := [.int (nI 13)]) (S := []) kcX12 cbX12_lawsSize_X12_begin lkX12_253 imX12_begin seX12_X12_begin_X12_begin rfl rfl (Nat.le_of_ble_eq_true rfl) dX12_lawsSize_3 hor1 (X12_begin_c G hp x0 (nI 13) _ er1) (fun vv hh hq => ?_)
  rw [hq.1, hq.2]
  show kw_V G mX12_lawsSize 6 [some (.ref x0), some (.int x1)] [] r1 Q
  refine kw_aload_n dX12_lawsSize_6 rfl ?_
  refine kw_iload_n dX12_lawsSize_7 rfl ?_
  obtain ⟨r2, er2, h⟩ := Option.bind_eq_some_iff.mp h
  obtain ⟨ur2, eur2, er2⟩ := Option.bind_eq_some_iff.mp er2
  obtain ⟨fsr2, hor2⟩ := kp_ob_inv eur2
  refine kw_callV (As := [.int x1]) (S := []) kcX12 cbX12_lawsSize_X12_lentSize lkX12_256 imX12_lentSize seX12_X12_lentSize_X12_lentSize rfl rfl (Nat.le_of_ble_eq_true rfl) dX12_lawsSize_8 hor2 (X12_lentSize_c G r1 x0 x1 _ er2) (fun vv hh hq => ?_)
  rw [hq.1, hq.2]
  show kw_V G mX12_lawsSize 11 [some (.ref x0), some (.int x1)] [.int r2.1] r2.2 Q
  refine kw_bipush (v := nI 100) dX12_lawsSize_11 (by decide) ?_
  refine kw_isub dX12_lawsSize_13 ?_
  have h := Option.some.inj h
  subst h
  exact kw_iret rfl dX12_lawsSize_14 hK
/-! KitchenWheelsModel.sizeOf(I)I -/
def X12_sizeOf_J73 (hp : kw_H) (x0 : Nat) (x1 : Int32) : Option (Int32 × kw_H) :=
  ((kp_ob hp x0 11).bind fun _ => X12_onesSize_F hp x0 x1).bind fun r6 =>
  some ((r6.1, r6.2))
set_option maxRecDepth 100000 in
set_option maxHeartbeats 4000000 in
theorem X12_sizeOf_J73_t (G : kw_G) (Q : Option Value → kw_H → Prop) (hp : kw_H) (x0 : Nat) (x1 : Int32) (r : Int32 × kw_H) (h : X12_sizeOf_J73 hp x0 x1 = some r) (hK : Q (some (.int r.1)) r.2) : kw_V G mX12_sizeOf 73 [some (.ref x0), some (.int x1)] [] hp Q := by
  unfold X12_sizeOf_J73 at h
  refine kw_aload_n dX12_sizeOf_73 rfl ?_
  refine kw_iload_n dX12_sizeOf_74 rfl ?_
  obtain ⟨r6, er6, h⟩ := Option.bind_eq_some_iff.mp h
  obtain ⟨ur6, eur6, er6⟩ := Option.bind_eq_some_iff.mp er6
  obtain ⟨fsr6, hor6⟩ := kp_ob_inv eur6
  refine kw_callV (As := [.int x1]) (S := []) kcX12 cbX12_sizeOf_X12_onesSize lkX12_262 imX12_onesSize seX12_X12_onesSize_X12_onesSize rfl rfl (Nat.le_of_ble_eq_true rfl) dX12_sizeOf_75 hor6 (X12_onesSize_c G hp x0 x1 _ er6) (fun vv hh hq => ?_)
  rw [hq.1, hq.2]
  show kw_V G mX12_sizeOf 78 [some (.ref x0), some (.int x1)] [.int r6.1] r6.2 Q
  have h := Option.some.inj h
  subst h
  exact kw_iret rfl dX12_sizeOf_78 hK
def X12_sizeOf_F (hp : kw_H) (x0 : Nat) (x1 : Int32) : Option (Int32 × kw_H) :=
  (kp_gR hp x0 [11] 0).bind fun v1 =>
  (kp_ldI hp v1 ((nI 22) + x1)).bind fun v2 =>
  (if v2 = nI 2 then
  ((kp_ob hp x0 11).bind fun _ => X12_begin_F hp x0 (nI 12)).bind fun r3 =>
  ((kp_ob r3 x0 11).bind fun _ => X12_onesSize_F r3 x0 x1).bind fun r4 =>
  some ((-r4.1, r4.2))
else if v2 = nI 3 then
  X12_sizeOf_J73 hp x0 x1
else if v2 = nI 4 then
  ((kp_ob hp x0 11).bind fun _ => X12_lawsSize_F hp x0 x1).bind fun r8 =>
  some ((r8.1, r8.2))
else if v2 = nI 5 then
  ((kp_ob hp x0 11).bind fun _ => X12_begin_F hp x0 (nI 14)).bind fun r10 =>
  ((kp_ob r10 x0 11).bind fun _ => X12_lawsSize_F r10 x0 x1).bind fun r11 =>
  some (((nI 2) * r11.1, r11.2))
else 
  X12_sizeOf_J73 hp x0 x1)
set_option maxRecDepth 100000 in
set_option maxHeartbeats 4000000 in
theorem X12_sizeOf_c (G : kw_G) (hp : kw_H) (x0 : Nat) (x1 : Int32) (r : Int32 × kw_H) (h : X12_sizeOf_F hp x0 x1 = some r) : kw_Met G mX12_sizeOf [.ref x0, .int x1] hp (fun v h2 => v = some (.int r.1) ∧ h2 = r.2) := by
  refine kw_met (L := [some (.ref x0), some (.int x1)]) (r := 0) (by decide +kernel) (Nat.le_of_ble_eq_true rfl) rfl ?_
  unfold X12_sizeOf_F at h
  obtain ⟨Q, hQ⟩ : ∃ Q : Option Value → kw_H → Prop, Q = (fun v h2 => v = some (.int r.1) ∧ h2 = r.2) := ⟨_, rfl⟩
  have hK : Q (some (.int r.1)) r.2 := by rw [hQ]; exact ⟨rfl, rfl⟩
  rw [← hQ]
  clear hQ
  refine kw_aload_n dX12_sizeOf_0 rfl ?_
  obtain ⟨v1, ev1, h⟩ := Option.bind_eq_some_iff.mp h
  refine kv_gR gfX12_7 dX12_sizeOf_1 ev1 ?_
  refine kw_bipush (v := nI 22) dX12_sizeOf_4 (by decide) ?_
  refine kw_iload_n dX12_sizeOf_6 rfl ?_
  refine kw_iadd dX12_sizeOf_7 ?_
  obtain ⟨v2, ev2, h⟩ := Option.bind_eq_some_iff.mp h
  refine kv_ldI dX12_sizeOf_8 ev2 ?_
  by_cases c5 : v2 = nI 2
  · refine kw_tableIn (off := 31) 40 dX12_sizeOf_9 (by rw [c5]; decide) (by rw [c5]; decide) (by rw [c5]; decide) (by decide) ?_
    have h := (if_pos c5).symm.trans h
    refine kw_aload_n dX12_sizeOf_40 rfl ?_
    refine kw_bipush (v := nI 12) dX12_sizeOf_41 (by decide) ?_
    obtain ⟨r3, er3, h⟩ := Option.bind_eq_some_iff.mp h
    obtain ⟨ur3, eur3, er3⟩ := Option.bind_eq_some_iff.mp er3
    obtain ⟨fsr3, hor3⟩ := kp_ob_inv eur3
    refine kw_callV (As := [.int (nI 12)]) (S := []) kcX12 cbX12_sizeOf_X12_begin lkX12_253 imX12_begin seX12_X12_begin_X12_begin rfl rfl (Nat.le_of_ble_eq_true rfl) dX12_sizeOf_43 hor3 (X12_begin_c G hp x0 (nI 12) _ er3) (fun vv hh hq => ?_)
    rw [hq.1, hq.2]
    show kw_V G mX12_sizeOf 46 [some (.ref x0), some (.int x1)] [] r3 Q
    refine kw_aload_n dX12_sizeOf_46 rfl ?_
    refine kw_iload_n dX12_sizeOf_47 rfl ?_
    obtain ⟨r4, er4, h⟩ := Option.bind_eq_some_iff.mp h
    obtain ⟨ur4, eur4, er4⟩ := Option.bind_eq_some_iff.mp er4
    obtain ⟨fsr4, hor4⟩ := kp_ob_inv eur4
    refine kw_callV (As := [.int x1]) (S := []) kcX12 cbX12_sizeOf_X12_onesSize lkX12_262 imX12_onesSize seX12_X12_onesSize_X12_onesSize rfl rfl (Nat.le_of_ble_eq_true rfl) dX12_sizeOf_48 hor4 (X12_onesSize_c G r3 x0 x1 _ er4) (fun vv hh hq => ?_)
    rw [hq.1, hq.2]
    show kw_V G mX12_sizeOf 51 [some (.ref x0), some (.int x1)] [.int r4.1] r4.2 Q
    refine kw_ineg dX12_sizeOf_51 ?_
    have h := Option.some.inj h
    subst h
    exact kw_iret rfl dX12_sizeOf_52 hK
  · have h := (if_neg c5).symm.trans h
    by_cases c7 : v2 = nI 3
    · refine kw_tableIn (off := 64) 73 dX12_sizeOf_9 (by rw [c7]; decide) (by rw [c7]; decide) (by rw [c7]; decide) (by decide) ?_
      have h := (if_pos c7).symm.trans h
      exact X12_sizeOf_J73_t G Q hp x0 x1 _ h hK
    · have h := (if_neg c7).symm.trans h
      by_cases c9 : v2 = nI 4
      · refine kw_tableIn (off := 44) 53 dX12_sizeOf_9 (by rw [c9]; decide) (by rw [c9]; decide) (by rw [c9]; decide) (by decide) ?_
        have h := (if_pos c9).symm.trans h
        refine kw_aload_n dX12_sizeOf_53 rfl ?_
        refine kw_iload_n dX12_sizeOf_54 rfl ?_
        obtain ⟨r8, er8, h⟩ := Option.bind_eq_some_iff.mp h
        obtain ⟨ur8, eur8, er8⟩ := Option.bind_eq_some_iff.mp er8
        obtain ⟨fsr8, hor8⟩ := kp_ob_inv eur8
        refine kw_callV (As := [.int x1]) (S := []) kcX12 cbX12_sizeOf_X12_lawsSize lkX12_265 imX12_lawsSize seX12_X12_lawsSize_X12_lawsSize rfl rfl (Nat.le_of_ble_eq_true rfl) dX12_sizeOf_55 hor8 (X12_lawsSize_c G hp x0 x1 _ er8) (fun vv hh hq => ?_)
        rw [hq.1, hq.2]
        show kw_V G mX12_sizeOf 58 [some (.ref x0), some (.int x1)] [.int r8.1] r8.2 Q
        have h := Option.some.inj h
        subst h
        exact kw_iret rfl dX12_sizeOf_58 hK
      · have h := (if_neg c9).symm.trans h
        by_cases c12 : v2 = nI 5
        · refine kw_tableIn (off := 50) 59 dX12_sizeOf_9 (by rw [c12]; decide) (by rw [c12]; decide) (by rw [c12]; decide) (by decide) ?_
          have h := (if_pos c12).symm.trans h
          refine kw_aload_n dX12_sizeOf_59 rfl ?_
          refine kw_bipush (v := nI 14) dX12_sizeOf_60 (by decide) ?_
          obtain ⟨r10, er10, h⟩ := Option.bind_eq_some_iff.mp h
          obtain ⟨ur10, eur10, er10⟩ := Option.bind_eq_some_iff.mp er10
          obtain ⟨fsr10, hor10⟩ := kp_ob_inv eur10
          refine kw_callV (As := [.int (nI 14)]) (S := []) kcX12 cbX12_sizeOf_X12_begin lkX12_253 imX12_begin seX12_X12_begin_X12_begin rfl rfl (Nat.le_of_ble_eq_true rfl) dX12_sizeOf_62 hor10 (X12_begin_c G hp x0 (nI 14) _ er10) (fun vv hh hq => ?_)
          rw [hq.1, hq.2]
          show kw_V G mX12_sizeOf 65 [some (.ref x0), some (.int x1)] [] r10 Q
          refine kw_iconst (v := nI 2) dX12_sizeOf_65 (by decide) ?_
          refine kw_aload_n dX12_sizeOf_66 rfl ?_
          refine kw_iload_n dX12_sizeOf_67 rfl ?_
          obtain ⟨r11, er11, h⟩ := Option.bind_eq_some_iff.mp h
          obtain ⟨ur11, eur11, er11⟩ := Option.bind_eq_some_iff.mp er11
          obtain ⟨fsr11, hor11⟩ := kp_ob_inv eur11
          refine kw_callV (As := [.int x1]) (S := [.int (nI 2)]) kcX12 cbX12_sizeOf_X12_lawsSize lkX12_265 imX12_lawsSize seX12_X12_lawsSize_X12_lawsSize rfl rfl (Nat.le_of_ble_eq_true rfl) dX12_sizeOf_68 hor11 (X12_lawsSize_c G r10 x0 x1 _ er11) (fun vv hh hq => ?_)
          rw [hq.1, hq.2]
          show kw_V G mX12_sizeOf 71 [some (.ref x0), some (.int x1)] [.int r11.1, .int (nI 2)] r11.2 Q
          refine kw_imul dX12_sizeOf_71 ?_
          have h := Option.some.inj h
          subst h
          exact kw_iret rfl dX12_sizeOf_72 hK
        · have h := (if_neg c12).symm.trans h
          refine kw_tableOut 73 dX12_sizeOf_9 (by have n0 := lv_neT (a := 2) c5 (by decide); have n1 := lv_neT (a := 3) c7 (by decide); have n2 := lv_neT (a := 4) c9 (by decide); have n3 := lv_neT (a := 5) c12 (by decide); omega) (by decide) ?_
          exact X12_sizeOf_J73_t G Q hp x0 x1 _ h hK
/-! KitchenWheelsModel.lawsMark(I)I -/
def X12_lawsMark_F (hp : kw_H) (x0 : Nat) (x1 : Int32) : Option (Int32 × kw_H) :=
  ((kp_ob hp x0 11).bind fun _ => X12_begin_F hp x0 (nI 23)).bind fun r1 =>
  ((kp_ob r1 x0 11).bind fun _ => X12_lentMark_F r1 x0 x1).bind fun r2 =>
  ((kp_ob r2.2 x0 11).bind fun _ => X12_sizeOf_F r2.2 x0 x1).bind fun r3 =>
  some ((r2.1 - r3.1, r3.2))
set_option maxRecDepth 100000 in
set_option maxHeartbeats 4000000 in
theorem X12_lawsMark_c (G : kw_G) (hp : kw_H) (x0 : Nat) (x1 : Int32) (r : Int32 × kw_H) (h : X12_lawsMark_F hp x0 x1 = some r) : kw_Met G mX12_lawsMark [.ref x0, .int x1] hp (fun v h2 => v = some (.int r.1) ∧ h2 = r.2) := by
  refine kw_met (L := [some (.ref x0), some (.int x1), none]) (r := 1) (by decide +kernel) (Nat.le_of_ble_eq_true rfl) rfl ?_
  unfold X12_lawsMark_F at h
  obtain ⟨Q, hQ⟩ : ∃ Q : Option Value → kw_H → Prop, Q = (fun v h2 => v = some (.int r.1) ∧ h2 = r.2) := ⟨_, rfl⟩
  have hK : Q (some (.int r.1)) r.2 := by rw [hQ]; exact ⟨rfl, rfl⟩
  rw [← hQ]
  clear hQ
  refine kw_aload_n dX12_lawsMark_0 rfl ?_
  refine kw_bipush (v := nI 23) dX12_lawsMark_1 (by decide) ?_
  obtain ⟨r1, er1, h⟩ := Option.bind_eq_some_iff.mp h
  obtain ⟨ur1, eur1, er1⟩ := Option.bind_eq_some_iff.mp er1
  obtain ⟨fsr1, hor1⟩ := kp_ob_inv eur1
  refine kw_callV (As := [.int (nI 23)]) (S := []) kcX12 cbX12_lawsMark_X12_begin lkX12_253 imX12_begin seX12_X12_begin_X12_begin rfl rfl (Nat.le_of_ble_eq_true rfl) dX12_lawsMark_3 hor1 (X12_begin_c G hp x0 (nI 23) _ er1) (fun vv hh hq => ?_)
  rw [hq.1, hq.2]
  show kw_V G mX12_lawsMark 6 [some (.ref x0), some (.int x1), none] [] r1 Q
  refine kw_aload_n dX12_lawsMark_6 rfl ?_
  refine kw_iload_n dX12_lawsMark_7 rfl ?_
  obtain ⟨r2, er2, h⟩ := Option.bind_eq_some_iff.mp h
  obtain ⟨ur2, eur2, er2⟩ := Option.bind_eq_some_iff.mp er2
  obtain ⟨fsr2, hor2⟩ := kp_ob_inv eur2
  refine kw_callV (As := [.int x1]) (S := []) kcX12 cbX12_lawsMark_X12_lentMark lkX12_268 imX12_lentMark seX12_X12_lentMark_X12_lentMark rfl rfl (Nat.le_of_ble_eq_true rfl) dX12_lawsMark_8 hor2 (X12_lentMark_c G r1 x0 x1 _ er2) (fun vv hh hq => ?_)
  rw [hq.1, hq.2]
  show kw_V G mX12_lawsMark 11 [some (.ref x0), some (.int x1), none] [.int r2.1] r2.2 Q
  refine kw_istore_n (L' := [some (.ref x0), some (.int x1), some (.int r2.1)]) dX12_lawsMark_11 (by decide) rfl ?_
  refine kw_iload_n dX12_lawsMark_12 rfl ?_
  refine kw_aload_n dX12_lawsMark_13 rfl ?_
  refine kw_iload_n dX12_lawsMark_14 rfl ?_
  obtain ⟨r3, er3, h⟩ := Option.bind_eq_some_iff.mp h
  obtain ⟨ur3, eur3, er3⟩ := Option.bind_eq_some_iff.mp er3
  obtain ⟨fsr3, hor3⟩ := kp_ob_inv eur3
  refine kw_callV (As := [.int x1]) (S := [.int r2.1]) kcX12 cbX12_lawsMark_X12_sizeOf lkX12_274 imX12_sizeOf seX12_X12_sizeOf_X12_sizeOf rfl rfl (Nat.le_of_ble_eq_true rfl) dX12_lawsMark_15 hor3 (X12_sizeOf_c G r2.2 x0 x1 _ er3) (fun vv hh hq => ?_)
  rw [hq.1, hq.2]
  show kw_V G mX12_lawsMark 18 [some (.ref x0), some (.int x1), some (.int r2.1)] [.int r3.1, .int r2.1] r3.2 Q
  refine kw_isub dX12_lawsMark_18 ?_
  have h := Option.some.inj h
  subst h
  exact kw_iret rfl dX12_lawsMark_19 hK
/-! KitchenWheelsModel.ask(II)I -/
def X12_ask_F (hp : kw_H) (x0 : Nat) (x1 : Int32) (x2 : Int32) : Option (Int32 × kw_H) :=
  ((kp_ob hp x0 11).bind fun _ => X12_isTurner_F hp x0 x1).bind fun r1 =>
  (if r1 = 0 then
  some (((-1000001), hp))
else
  (X12_in_F hp (Int32.toInt64 x2) (lN 0) (lN 1)).bind fun r2 =>
  (if r2 = 0 then
  some (((-1000001), hp))
else
  (kp_put hp x0 [11] 12 (.int (nI 0))).bind fun hp3 =>
  (if x2 = 0 then
  ((kp_ob hp3 x0 11).bind fun _ => X12_sizeOf_F hp3 x0 x1).bind fun r8 =>
  some ((r8.1, r8.2))
else
  ((kp_ob hp3 x0 11).bind fun _ => X12_isOf_F hp3 x0 x1 (nI 4)).bind fun r4 =>
  (if r4 = 0 then
  ((kp_ob hp3 x0 11).bind fun _ => X12_mark_F hp3 x0 x1).bind fun r5 =>
  some ((r5.1, r5.2))
else
  ((kp_ob hp3 x0 11).bind fun _ => X12_lawsMark_F hp3 x0 x1).bind fun r6 =>
  some ((r6.1, r6.2))))))
set_option maxRecDepth 100000 in
set_option maxHeartbeats 4000000 in
theorem X12_ask_c (G : kw_G) (hp : kw_H) (x0 : Nat) (x1 : Int32) (x2 : Int32) (r : Int32 × kw_H) (h : X12_ask_F hp x0 x1 x2 = some r) : kw_Met G mX12_ask [.ref x0, .int x1, .int x2] hp (fun v h2 => v = some (.int r.1) ∧ h2 = r.2) := by
  refine kw_met (L := [some (.ref x0), some (.int x1), some (.int x2)]) (r := 0) (by decide +kernel) (Nat.le_of_ble_eq_true rfl) rfl ?_
  unfold X12_ask_F at h
  obtain ⟨Q, hQ⟩ : ∃ Q : Option Value → kw_H → Prop, Q = (fun v h2 => v = some (.int r.1) ∧ h2 = r.2) := ⟨_, rfl⟩
  have hK : Q (some (.int r.1)) r.2 := by rw [hQ]; exact ⟨rfl, rfl⟩
  rw [← hQ]
  clear hQ
  refine kw_aload_n dX12_ask_0 rfl ?_
  refine kw_iload_n dX12_ask_1 rfl ?_
  obtain ⟨r1, er1, h⟩ := Option.bind_eq_some_iff.mp h
  obtain ⟨ur1, eur1, er1⟩ := Option.bind_eq_some_iff.mp er1
  obtain ⟨fsr1, hor1⟩ := kp_ob_inv eur1
  refine kw_callV (As := [.int x1]) (S := []) kcX12 cbX12_ask_X12_isTurner lkX12_183 imX12_isTurner seX12_X12_isTurner_X12_isTurner rfl rfl (Nat.le_of_ble_eq_true rfl) dX12_ask_2 hor1 (X12_isTurner_c G hp x0 x1 _ er1) (fun vv hh hq => ?_)
  rw [hq.1, hq.2]
  show kw_V G mX12_ask 5 [some (.ref x0), some (.int x1), some (.int x2)] [.int r1] hp Q
  refine kw_if_eq 18 dX12_ask_5 (by decide) (fun c11 => ?_) (fun c11 => ?_)
  · have h := (if_pos c11).symm.trans h
    refine kw_ldc (v := (-1000001)) dX12_ask_18 ckX12_52 ?_
    have h := Option.some.inj h
    subst h
    exact kw_iret rfl dX12_ask_20 hK
  · have h := (if_neg c11).symm.trans h
    refine kw_iload_n dX12_ask_8 rfl ?_
    refine kw_i2l dX12_ask_9 ?_
    refine kw_lconst (v := lN 0) dX12_ask_10 (by decide) ?_
    refine kw_lconst (v := lN 1) dX12_ask_11 (by decide) ?_
    obtain ⟨r2, er2, h⟩ := Option.bind_eq_some_iff.mp h
    refine kw_callS (As := [.long (Int32.toInt64 x2), .long (lN 0), .long (lN 1)]) (S := []) cbX12_ask_X12_in lkX12_42 stX12_in rfl rfl (Nat.le_of_ble_eq_true rfl) dX12_ask_12 (X12_in_c G hp (Int32.toInt64 x2) (lN 0) (lN 1) _ er2) (fun vv hh hq => ?_)
    rw [hq.1, hq.2]
    show kw_V G mX12_ask 15 [some (.ref x0), some (.int x1), some (.int x2)] [.int r2] hp Q
    refine kw_if_ne 21 dX12_ask_15 (by decide) (fun c10 => ?_) (fun c10 => ?_)
    · have h := (if_neg c10).symm.trans h
      refine kw_aload_n dX12_ask_21 rfl ?_
      refine kw_iconst (v := nI 0) dX12_ask_22 (by decide) ?_
      obtain ⟨hp3, ehp3, h⟩ := Option.bind_eq_some_iff.mp h
      refine kv_put pfX12_ask_250 (fun _ => ⟨rfl, rfl⟩) dX12_ask_23 ehp3 ?_
      refine kw_iload_n dX12_ask_26 rfl ?_
      refine kw_if_ne 38 dX12_ask_27 (by decide) (fun c9 => ?_) (fun c9 => ?_)
      · have h := (if_neg c9).symm.trans h
        refine kw_aload_n dX12_ask_38 rfl ?_
        refine kw_iload_n dX12_ask_39 rfl ?_
        refine kw_iconst (v := nI 4) dX12_ask_40 (by decide) ?_
        obtain ⟨r4, er4, h⟩ := Option.bind_eq_some_iff.mp h
        obtain ⟨ur4, eur4, er4⟩ := Option.bind_eq_some_iff.mp er4
        obtain ⟨fsr4, hor4⟩ := kp_ob_inv eur4
        refine kw_callV (As := [.int x1, .int (nI 4)]) (S := []) kcX12 cbX12_ask_X12_isOf lkX12_247 imX12_isOf seX12_X12_isOf_X12_isOf rfl rfl (Nat.le_of_ble_eq_true rfl) dX12_ask_41 hor4 (X12_isOf_c G hp3 x0 x1 (nI 4) _ er4) (fun vv hh hq => ?_)
        rw [hq.1, hq.2]
        show kw_V G mX12_ask 44 [some (.ref x0), some (.int x1), some (.int x2)] [.int r4] hp3 Q
        refine kw_if_eq 55 dX12_ask_44 (by decide) (fun c7 => ?_) (fun c7 => ?_)
        · have h := (if_pos c7).symm.trans h
          refine kw_aload_n dX12_ask_55 rfl ?_
          refine kw_iload_n dX12_ask_56 rfl ?_
          obtain ⟨r5, er5, h⟩ := Option.bind_eq_some_iff.mp h
          obtain ⟨ur5, eur5, er5⟩ := Option.bind_eq_some_iff.mp er5
          obtain ⟨fsr5, hor5⟩ := kp_ob_inv eur5
          refine kw_callV (As := [.int x1]) (S := []) kcX12 cbX12_ask_X12_mark lkX12_259 imX12_mark seX12_X12_mark_X12_mark rfl rfl (Nat.le_of_ble_eq_true rfl) dX12_ask_57 hor5 (X12_mark_c G hp3 x0 x1 _ er5) (fun vv hh hq => ?_)
          rw [hq.1, hq.2]
          show kw_V G mX12_ask 60 [some (.ref x0), some (.int x1), some (.int x2)] [.int r5.1] r5.2 Q
          have h := Option.some.inj h
          subst h
          exact kw_iret rfl dX12_ask_60 hK
        · have h := (if_neg c7).symm.trans h
          refine kw_aload_n dX12_ask_47 rfl ?_
          refine kw_iload_n dX12_ask_48 rfl ?_
          obtain ⟨r6, er6, h⟩ := Option.bind_eq_some_iff.mp h
          obtain ⟨ur6, eur6, er6⟩ := Option.bind_eq_some_iff.mp er6
          obtain ⟨fsr6, hor6⟩ := kp_ob_inv eur6
          refine kw_callV (As := [.int x1]) (S := []) kcX12 cbX12_ask_X12_lawsMark lkX12_277 imX12_lawsMark seX12_X12_lawsMark_X12_lawsMark rfl rfl (Nat.le_of_ble_eq_true rfl) dX12_ask_49 hor6 (X12_lawsMark_c G hp3 x0 x1 _ er6) (fun vv hh hq => ?_)
          rw [hq.1, hq.2]
          show kw_V G mX12_ask 52 [some (.ref x0), some (.int x1), some (.int x2)] [.int r6.1] r6.2 Q
          refine kw_goto 60 dX12_ask_52 (by decide) ?_
          have h := Option.some.inj h
          subst h
          exact kw_iret rfl dX12_ask_60 hK
      · have h := (if_pos c9).symm.trans h
        refine kw_aload_n dX12_ask_30 rfl ?_
        refine kw_iload_n dX12_ask_31 rfl ?_
        obtain ⟨r8, er8, h⟩ := Option.bind_eq_some_iff.mp h
        obtain ⟨ur8, eur8, er8⟩ := Option.bind_eq_some_iff.mp er8
        obtain ⟨fsr8, hor8⟩ := kp_ob_inv eur8
        refine kw_callV (As := [.int x1]) (S := []) kcX12 cbX12_ask_X12_sizeOf lkX12_274 imX12_sizeOf seX12_X12_sizeOf_X12_sizeOf rfl rfl (Nat.le_of_ble_eq_true rfl) dX12_ask_32 hor8 (X12_sizeOf_c G hp3 x0 x1 _ er8) (fun vv hh hq => ?_)
        rw [hq.1, hq.2]
        show kw_V G mX12_ask 35 [some (.ref x0), some (.int x1), some (.int x2)] [.int r8.1] r8.2 Q
        refine kw_goto 60 dX12_ask_35 (by decide) ?_
        have h := Option.some.inj h
        subst h
        exact kw_iret rfl dX12_ask_60 hK
    · have h := (if_pos c10).symm.trans h
      refine kw_ldc (v := (-1000001)) dX12_ask_18 ckX12_52 ?_
      have h := Option.some.inj h
      subst h
      exact kw_iret rfl dX12_ask_20 hK
/-! KitchenWheelsModel.trace(I)I -/
def X12_trace_F (hp : kw_H) (x0 : Nat) (x1 : Int32) : Option (Int32) :=
  (kp_gI hp x0 [11] 12).bind fun v1 =>
  (X12_in_F hp (Int32.toInt64 x1) (lN 0) (Int32.toInt64 (v1 - (nI 1)))).bind fun r2 =>
  (if r2 = 0 then
  some ((-1000000))
else
  (kp_gR hp x0 [11] 11).bind fun v3 =>
  (kp_ldI hp v3 x1).bind fun v4 =>
  some (v4))
set_option maxRecDepth 100000 in
set_option maxHeartbeats 4000000 in
theorem X12_trace_c (G : kw_G) (hp : kw_H) (x0 : Nat) (x1 : Int32) (r : Int32) (h : X12_trace_F hp x0 x1 = some r) : kw_Met G mX12_trace [.ref x0, .int x1] hp (fun v h2 => v = some (.int r) ∧ h2 = hp) := by
  refine kw_met (L := [some (.ref x0), some (.int x1)]) (r := 0) (by decide +kernel) (Nat.le_of_ble_eq_true rfl) rfl ?_
  unfold X12_trace_F at h
  obtain ⟨Q, hQ⟩ : ∃ Q : Option Value → kw_H → Prop, Q = (fun v h2 => v = some (.int r) ∧ h2 = hp) := ⟨_, rfl⟩
  have hK : Q (some (.int r)) hp := by rw [hQ]; exact ⟨rfl, rfl⟩
  rw [← hQ]
  clear hQ
  refine kw_iload_n dX12_trace_0 rfl ?_
  refine kw_i2l dX12_trace_1 ?_
  refine kw_lconst (v := lN 0) dX12_trace_2 (by decide) ?_
  refine kw_aload_n dX12_trace_3 rfl ?_
  obtain ⟨v1, ev1, h⟩ := Option.bind_eq_some_iff.mp h
  refine kv_gI gfX12_250 dX12_trace_4 ev1 ?_
  refine kw_iconst (v := nI 1) dX12_trace_7 (by decide) ?_
  refine kw_isub dX12_trace_8 ?_
  refine kw_i2l dX12_trace_9 ?_
  obtain ⟨r2, er2, h⟩ := Option.bind_eq_some_iff.mp h
  refine kw_callS (As := [.long (Int32.toInt64 x1), .long (lN 0), .long (Int32.toInt64 (v1 - (nI 1)))]) (S := []) cbX12_trace_X12_in lkX12_42 stX12_in rfl rfl (Nat.le_of_ble_eq_true rfl) dX12_trace_10 (X12_in_c G hp (Int32.toInt64 x1) (lN 0) (Int32.toInt64 (v1 - (nI 1))) _ er2) (fun vv hh hq => ?_)
  rw [hq.1, hq.2]
  show kw_V G mX12_trace 13 [some (.ref x0), some (.int x1)] [.int r2] hp Q
  refine kw_if_eq 25 dX12_trace_13 (by decide) (fun c5 => ?_) (fun c5 => ?_)
  · have h := (if_pos c5).symm.trans h
    refine kw_ldc (v := (-1000000)) dX12_trace_25 ckX12_99 ?_
    have h := Option.some.inj h
    subst h
    exact kw_iret rfl dX12_trace_27 hK
  · have h := (if_neg c5).symm.trans h
    refine kw_aload_n dX12_trace_16 rfl ?_
    obtain ⟨v3, ev3, h⟩ := Option.bind_eq_some_iff.mp h
    refine kv_gR gfX12_29 dX12_trace_17 ev3 ?_
    refine kw_iload_n dX12_trace_20 rfl ?_
    obtain ⟨v4, ev4, h⟩ := Option.bind_eq_some_iff.mp h
    refine kv_ldI dX12_trace_21 ev4 ?_
    refine kw_goto 27 dX12_trace_22 (by decide) ?_
    have h := Option.some.inj h
    subst h
    exact kw_iret rfl dX12_trace_27 hK
/-! KitchenWheelsModel.count(I)I -/
def X12_count_K50 (G : kw_G) (Q : Option Value → kw_H → Prop) (hp : kw_H) (x0 : Nat) (r : (Int32 × Int32) ⊕ (Int32)) : Prop := match r with
  | .inl z => kw_V G mX12_count 50 [some (.ref x0), none, some (.int z.1), some (.int z.2)] [] hp Q
  | .inr r => Q (some (.int r)) hp
def X12_count_J79 (hp : kw_H) (x2 : Int32) : Option (Int32) :=
  some (x2)
set_option maxRecDepth 100000 in
set_option maxHeartbeats 4000000 in
theorem X12_count_J79_t (G : kw_G) (Q : Option Value → kw_H → Prop) (hp : kw_H) (x2 : Int32) (r : Int32) (h : X12_count_J79 hp x2 = some r) (hK : Q (some (.int r)) hp) : kw_V G mX12_count 79 [none, none, some (.int x2), none] [] hp Q := by
  unfold X12_count_J79 at h
  refine kw_iload_n dX12_count_79 rfl ?_
  have h := Option.some.inj h
  subst h
  exact kw_iret rfl dX12_count_80 hK
def X12_count_J71 (hp : kw_H) (x0 : Nat) (x3 : Int32) (s0 : Int32) (s1 : Int32) : Option (((Int32 × Int32) ⊕ (Int32))) :=
  some (.inl (s1 + s0, x3 + (nI 1)))
set_option maxRecDepth 100000 in
set_option maxHeartbeats 4000000 in
theorem X12_count_J71_t (G : kw_G) (Q : Option Value → kw_H → Prop) (hp : kw_H) (x0 : Nat) (x3 : Int32) (s0 : Int32) (s1 : Int32) (r : ((Int32 × Int32) ⊕ (Int32))) (h : X12_count_J71 hp x0 x3 s0 s1 = some r) (hK : X12_count_K50 G Q hp x0 r) : kw_V G mX12_count 71 [some (.ref x0), none, none, some (.int x3)] [.int s0, .int s1] hp Q := by
  unfold X12_count_J71 at h
  refine kw_iadd dX12_count_71 ?_
  refine kw_istore_n (L' := [some (.ref x0), none, some (.int (s1 + s0)), some (.int x3)]) dX12_count_72 (by decide) rfl ?_
  refine kv_iinc (w := nI 1) (L' := [some (.ref x0), none, some (.int (s1 + s0)), some (.int (x3 + (nI 1)))]) dX12_count_73 (by decide) rfl (by decide) rfl ?_
  refine kw_goto 50 dX12_count_76 (by decide) ?_
  have h := Option.some.inj h
  subst h
  exact hK
def X12_count_b50 (hp : kw_H) (x0 : Nat) (x2 : Int32) (x3 : Int32) : Option (((Int32 × Int32) ⊕ (Int32))) :=
  (if (nI 8) ≤ x3 then
  (X12_count_J79 hp x2).map (fun r => .inr (r))
else
  (kp_gR hp x0 [11] 5).bind fun v2 =>
  (kp_ldI hp v2 x3).bind fun v3 =>
  (if 0 ≤ v3 then
  X12_count_J71 hp x0 x3 (nI 1) x2
else
  X12_count_J71 hp x0 x3 (nI 0) x2))
set_option maxRecDepth 100000 in
set_option maxHeartbeats 4000000 in
theorem X12_count_b50_t (G : kw_G) (Q : Option Value → kw_H → Prop) (hp : kw_H) (x0 : Nat) (x2 : Int32) (x3 : Int32) (r : ((Int32 × Int32) ⊕ (Int32))) (h : X12_count_b50 hp x0 x2 x3 = some r) (hK : X12_count_K50 G Q hp x0 r) : kw_V G mX12_count 50 [some (.ref x0), none, some (.int x2), some (.int x3)] [] hp Q := by
  unfold X12_count_b50 at h
  refine kw_iload_n dX12_count_50 rfl ?_
  refine kw_bipush (v := nI 8) dX12_count_51 (by decide) ?_
  refine kw_icmp_ge 79 dX12_count_53 (by decide) (fun c5 => ?_) (fun c5 => ?_)
  · have h := (if_pos c5).symm.trans h
    refine kw_mask [false, true, true, false] (L' := [none, none, some (.int x2), none]) rfl ?_
    obtain ⟨r1, hr1, hrr1⟩ := Option.map_eq_some_iff.mp h
    subst hrr1
    exact X12_count_J79_t G Q hp x2 r1 hr1 hK
  · have h := (if_neg c5).symm.trans h
    refine kw_iload_n dX12_count_56 rfl ?_
    refine kw_aload_n dX12_count_57 rfl ?_
    obtain ⟨v2, ev2, h⟩ := Option.bind_eq_some_iff.mp h
    refine kv_gR gfX12_20 dX12_count_58 ev2 ?_
    refine kw_iload_n dX12_count_61 rfl ?_
    obtain ⟨v3, ev3, h⟩ := Option.bind_eq_some_iff.mp h
    refine kv_ldI dX12_count_62 ev3 ?_
    refine kw_if_ge 70 dX12_count_63 (by decide) (fun c4 => ?_) (fun c4 => ?_)
    · have h := (if_pos c4).symm.trans h
      refine kw_iconst (v := nI 1) dX12_count_70 (by decide) ?_
      refine kw_mask [true, true, false, true] (L' := [some (.ref x0), none, none, some (.int x3)]) rfl ?_
      exact X12_count_J71_t G Q hp x0 x3 (nI 1) x2 _ h hK
    · have h := (if_neg c4).symm.trans h
      refine kw_iconst (v := nI 0) dX12_count_66 (by decide) ?_
      refine kw_goto 71 dX12_count_67 (by decide) ?_
      refine kw_mask [true, true, false, true] (L' := [some (.ref x0), none, none, some (.int x3)]) rfl ?_
      exact X12_count_J71_t G Q hp x0 x3 (nI 0) x2 _ h hK
def X12_count_B50 (hp : kw_H) (x0 : Nat) (z : Int32 × Int32) : Option (((Int32 × Int32) ⊕ (Int32))) := X12_count_b50 hp x0 z.1 z.2
theorem X12_count_L50_t (G : kw_G) (Q : Option Value → kw_H → Prop) (hp : kw_H) (x0 : Nat) (n : Nat) (z : Int32 × Int32) (r : Int32) (h : kp_lp (X12_count_B50 hp x0) n z = some r) (hK : Q (some (.int r)) hp) : kw_V G mX12_count 50 [some (.ref x0), none, some (.int z.1), some (.int z.2)] [] hp Q :=
  kv_lp _ (fun z => kw_V G mX12_count 50 [some (.ref x0), none, some (.int z.1), some (.int z.2)] [] hp Q) (fun r => Q (some (.int r)) hp) (fun z x hb hx => X12_count_b50_t G Q hp x0 z.1 z.2 x hb (by cases x <;> exact hx)) n z r h hK
def X12_count_F (hp : kw_H) (x0 : Nat) (x1 : Int32) : Option (Int32) :=
  (if x1 = nI 0 then
  kp_lp (X12_count_B50 hp x0) 2000 (nI 0, nI 0)
else if x1 = nI 1 then
  (kp_gR hp x0 [11] 0).bind fun v7 =>
  (kp_ldI hp v7 (nI 0)).bind fun v8 =>
  some (v8)
else if x1 = nI 2 then
  (kp_gR hp x0 [11] 0).bind fun v10 =>
  (kp_ldI hp v10 (nI 1)).bind fun v11 =>
  some (v11)
else if x1 = nI 3 then
  (kp_gR hp x0 [11] 0).bind fun v13 =>
  (kp_ldI hp v13 (nI 2)).bind fun v14 =>
  some (v14)
else if x1 = nI 4 then
  (kp_gR hp x0 [11] 0).bind fun v16 =>
  (kp_ldI hp v16 (nI 3)).bind fun v17 =>
  some (v17)
else if x1 = nI 5 then
  ((kp_ob hp x0 11).bind fun _ => X12_doneInAll_F hp x0 (nI 0)).bind fun r19 =>
  some (r19)
else if x1 = nI 6 then
  (kp_gI hp x0 [11] 2).bind fun v21 =>
  some (v21)
else if x1 = nI 7 then
  (kp_gI hp x0 [11] 8).bind fun v23 =>
  some (v23)
else 
  some ((-1000001)))
set_option maxRecDepth 100000 in
set_option maxHeartbeats 4000000 in
theorem X12_count_c (G : kw_G) (hp : kw_H) (x0 : Nat) (x1 : Int32) (r : Int32) (h : X12_count_F hp x0 x1 = some r) : kw_Met G mX12_count [.ref x0, .int x1] hp (fun v h2 => v = some (.int r) ∧ h2 = hp) := by
  refine kw_met (L := [some (.ref x0), some (.int x1), none, none]) (r := 2) (by decide +kernel) (Nat.le_of_ble_eq_true rfl) rfl ?_
  unfold X12_count_F at h
  obtain ⟨Q, hQ⟩ : ∃ Q : Option Value → kw_H → Prop, Q = (fun v h2 => v = some (.int r) ∧ h2 = hp) := ⟨_, rfl⟩
  have hK : Q (some (.int r)) hp := by rw [hQ]; exact ⟨rfl, rfl⟩
  rw [← hQ]
  clear hQ
  refine kw_iconst (v := nI 0) dX12_count_0 (by decide) ?_
  refine kw_istore_n (L' := [some (.ref x0), some (.int x1), some (.int (nI 0)), none]) dX12_count_1 (by decide) rfl ?_
  refine kw_iload_n dX12_count_2 rfl ?_
  by_cases c6 : x1 = nI 0
  · refine kw_tableIn (off := 45) 48 dX12_count_3 (by rw [c6]; decide) (by rw [c6]; decide) (by rw [c6]; decide) (by decide) ?_
    have h := (if_pos c6).symm.trans h
    refine kw_iconst (v := nI 0) dX12_count_48 (by decide) ?_
    refine kw_istore_n (L' := [some (.ref x0), some (.int x1), some (.int (nI 0)), some (.int (nI 0))]) dX12_count_49 (by decide) rfl ?_
    refine kw_mask [true, false, true, true] (L' := [some (.ref x0), none, some (.int (nI 0)), some (.int (nI 0))]) rfl ?_
    exact X12_count_L50_t G Q hp x0 _ (nI 0, nI 0) _ h hK
  · have h := (if_neg c6).symm.trans h
    by_cases c9 : x1 = nI 1
    · refine kw_tableIn (off := 78) 81 dX12_count_3 (by rw [c9]; decide) (by rw [c9]; decide) (by rw [c9]; decide) (by decide) ?_
      have h := (if_pos c9).symm.trans h
      refine kw_aload_n dX12_count_81 rfl ?_
      obtain ⟨v7, ev7, h⟩ := Option.bind_eq_some_iff.mp h
      refine kv_gR gfX12_7 dX12_count_82 ev7 ?_
      refine kw_iconst (v := nI 0) dX12_count_85 (by decide) ?_
      obtain ⟨v8, ev8, h⟩ := Option.bind_eq_some_iff.mp h
      refine kv_ldI dX12_count_86 ev8 ?_
      have h := Option.some.inj h
      subst h
      exact kw_iret rfl dX12_count_87 hK
    · have h := (if_neg c9).symm.trans h
      by_cases c12 : x1 = nI 2
      · refine kw_tableIn (off := 85) 88 dX12_count_3 (by rw [c12]; decide) (by rw [c12]; decide) (by rw [c12]; decide) (by decide) ?_
        have h := (if_pos c12).symm.trans h
        refine kw_aload_n dX12_count_88 rfl ?_
        obtain ⟨v10, ev10, h⟩ := Option.bind_eq_some_iff.mp h
        refine kv_gR gfX12_7 dX12_count_89 ev10 ?_
        refine kw_iconst (v := nI 1) dX12_count_92 (by decide) ?_
        obtain ⟨v11, ev11, h⟩ := Option.bind_eq_some_iff.mp h
        refine kv_ldI dX12_count_93 ev11 ?_
        have h := Option.some.inj h
        subst h
        exact kw_iret rfl dX12_count_94 hK
      · have h := (if_neg c12).symm.trans h
        by_cases c15 : x1 = nI 3
        · refine kw_tableIn (off := 92) 95 dX12_count_3 (by rw [c15]; decide) (by rw [c15]; decide) (by rw [c15]; decide) (by decide) ?_
          have h := (if_pos c15).symm.trans h
          refine kw_aload_n dX12_count_95 rfl ?_
          obtain ⟨v13, ev13, h⟩ := Option.bind_eq_some_iff.mp h
          refine kv_gR gfX12_7 dX12_count_96 ev13 ?_
          refine kw_iconst (v := nI 2) dX12_count_99 (by decide) ?_
          obtain ⟨v14, ev14, h⟩ := Option.bind_eq_some_iff.mp h
          refine kv_ldI dX12_count_100 ev14 ?_
          have h := Option.some.inj h
          subst h
          exact kw_iret rfl dX12_count_101 hK
        · have h := (if_neg c15).symm.trans h
          by_cases c18 : x1 = nI 4
          · refine kw_tableIn (off := 99) 102 dX12_count_3 (by rw [c18]; decide) (by rw [c18]; decide) (by rw [c18]; decide) (by decide) ?_
            have h := (if_pos c18).symm.trans h
            refine kw_aload_n dX12_count_102 rfl ?_
            obtain ⟨v16, ev16, h⟩ := Option.bind_eq_some_iff.mp h
            refine kv_gR gfX12_7 dX12_count_103 ev16 ?_
            refine kw_iconst (v := nI 3) dX12_count_106 (by decide) ?_
            obtain ⟨v17, ev17, h⟩ := Option.bind_eq_some_iff.mp h
            refine kv_ldI dX12_count_107 ev17 ?_
            have h := Option.some.inj h
            subst h
            exact kw_iret rfl dX12_count_108 hK
          · have h := (if_neg c18).symm.trans h
            by_cases c20 : x1 = nI 5
            · refine kw_tableIn (off := 106) 109 dX12_count_3 (by rw [c20]; decide) (by rw [c20]; decide) (by rw [c20]; decide) (by decide) ?_
              have h := (if_pos c20).symm.trans h
              refine kw_aload_n dX12_count_109 rfl ?_
              refine kw_iconst (v := nI 0) dX12_count_110 (by decide) ?_
              obtain ⟨r19, er19, h⟩ := Option.bind_eq_some_iff.mp h
              obtain ⟨ur19, eur19, er19⟩ := Option.bind_eq_some_iff.mp er19
              obtain ⟨fsr19, hor19⟩ := kp_ob_inv eur19
              refine kw_callV (As := [.int (nI 0)]) (S := []) kcX12 cbX12_count_X12_doneInAll lkX12_244 imX12_doneInAll seX12_X12_doneInAll_X12_doneInAll rfl rfl (Nat.le_of_ble_eq_true rfl) dX12_count_111 hor19 (X12_doneInAll_c G hp x0 (nI 0) _ er19) (fun vv hh hq => ?_)
              rw [hq.1, hq.2]
              show kw_V G mX12_count 114 [some (.ref x0), some (.int x1), some (.int (nI 0)), none] [.int r19] hp Q
              have h := Option.some.inj h
              subst h
              exact kw_iret rfl dX12_count_114 hK
            · have h := (if_neg c20).symm.trans h
              by_cases c22 : x1 = nI 6
              · refine kw_tableIn (off := 112) 115 dX12_count_3 (by rw [c22]; decide) (by rw [c22]; decide) (by rw [c22]; decide) (by decide) ?_
                have h := (if_pos c22).symm.trans h
                refine kw_aload_n dX12_count_115 rfl ?_
                obtain ⟨v21, ev21, h⟩ := Option.bind_eq_some_iff.mp h
                refine kv_gI gfX12_136 dX12_count_116 ev21 ?_
                have h := Option.some.inj h
                subst h
                exact kw_iret rfl dX12_count_119 hK
              · have h := (if_neg c22).symm.trans h
                by_cases c24 : x1 = nI 7
                · refine kw_tableIn (off := 117) 120 dX12_count_3 (by rw [c24]; decide) (by rw [c24]; decide) (by rw [c24]; decide) (by decide) ?_
                  have h := (if_pos c24).symm.trans h
                  refine kw_aload_n dX12_count_120 rfl ?_
                  obtain ⟨v23, ev23, h⟩ := Option.bind_eq_some_iff.mp h
                  refine kv_gI gfX12_70 dX12_count_121 ev23 ?_
                  have h := Option.some.inj h
                  subst h
                  exact kw_iret rfl dX12_count_124 hK
                · have h := (if_neg c24).symm.trans h
                  refine kw_tableOut 125 dX12_count_3 (by have n0 := lv_neT (a := 0) c6 (by decide); have n1 := lv_neT (a := 1) c9 (by decide); have n2 := lv_neT (a := 2) c12 (by decide); have n3 := lv_neT (a := 3) c15 (by decide); have n4 := lv_neT (a := 4) c18 (by decide); have n5 := lv_neT (a := 5) c20 (by decide); have n6 := lv_neT (a := 6) c22 (by decide); have n7 := lv_neT (a := 7) c24 (by decide); omega) (by decide) ?_
                  refine kw_ldc (v := (-1000001)) dX12_count_125 ckX12_52 ?_
                  have h := Option.some.inj h
                  subst h
                  exact kw_iret rfl dX12_count_127 hK
/-! KitchenWheelsModel.status()I -/
def X12_status_F (hp : kw_H) (x0 : Nat) : Option (Int32) :=
  (kp_gI hp x0 [11] 10).bind fun v1 =>
  some (v1)
set_option maxRecDepth 100000 in
set_option maxHeartbeats 4000000 in
theorem X12_status_c (G : kw_G) (hp : kw_H) (x0 : Nat) (r : Int32) (h : X12_status_F hp x0 = some r) : kw_Met G mX12_status [.ref x0] hp (fun v h2 => v = some (.int r) ∧ h2 = hp) := by
  refine kw_met (L := [some (.ref x0)]) (r := 0) (by decide +kernel) (Nat.le_of_ble_eq_true rfl) rfl ?_
  unfold X12_status_F at h
  obtain ⟨Q, hQ⟩ : ∃ Q : Option Value → kw_H → Prop, Q = (fun v h2 => v = some (.int r) ∧ h2 = hp) := ⟨_, rfl⟩
  have hK : Q (some (.int r)) hp := by rw [hQ]; exact ⟨rfl, rfl⟩
  rw [← hQ]
  clear hQ
  refine kw_aload_n dX12_status_0 rfl ?_
  obtain ⟨v1, ev1, h⟩ := Option.bind_eq_some_iff.mp h
  refine kv_gI gfX12_35 dX12_status_1 ev1 ?_
  have h := Option.some.inj h
  subst h
  exact kw_iret rfl dX12_status_4 hK
