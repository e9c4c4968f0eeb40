def lw_P (b : Addr) (xs : List Int32) (args : Array Value) (s : State) : Prop := args = #[.ref b] ∧ s.IntsAt b xs ∧ xs.length ≤ 384 ∧ (Jvm.Cond.and given_1 narrow_1).before args s = true
def lw_Q (_ : Array Value) (s : State) (o : Outcome) (t : State) : Prop := o = .returned (some (.int 1)) ∧ Framed s o t [] 600000 7302250
def lw_Z (below : List Frame) (a : Array Value) (s : State) : State → Prop := fun t => ∃ o, t.status = .running ∧ Ended t below o ∧ lw_Q a s o t
/-- the law's own end, with 1 on the stack, nothing written that was there before, its room as the claim has it -/
theorem lw_ret {p : Program} {l : Launch} {e : Env} {s : State} {m : MethodId} {below : List Frame} {meth : Method} {c : Code} {b : Nat} (hx : p.tables.exec = Jvm.exec) (hb : c.code = code) (hr : meth.sig.returnType = ret) (hlocks : meth.locks = false) {pc : Nat} {H : Heap} {ls : Array Slot} (hdg : decode code pc = .ok (.ireturn, 1)) : W p l e room_1 s m #[Value.ref b] below meth c H [] 600000 7302250 (lw_Z below #[Value.ref b] s) (F0 m pc ls [.int 1]) := by
  intro T hT X
  obtain ⟨fs, hret, hrun, hended, hW, hframe⟩ := X.leave (v := some (.int 1)) (hlocks := hlocks) (fun h => by rw [hr] at h; cases h)
  have hmeth' : T.vm.method? m = some meth := X.method'
  refine ⟨T.setFrames fs, ?_, .returned (some (.int 1)), hrun, hended, rfl, ⟨_, rfl⟩, hW, hframe⟩
  jvm_step X.here [X.here.top, hx, hb, hdg, hmeth', hr, ret, narrow_b1]
  (try refine ⟨rfl, ?_⟩); (try refine ⟨rfl, ?_⟩)
  first | (intro acts; rw [hret _ acts rfl rfl rfl]) | rw [hret _ _ rfl rfl rfl]
  exact Steps.refl _
/-- what holds at the law's entry: the machine, the code, the tables' words (any of lw_tbl by 'hts w (by decide +kernel)'), the script of L ints xs at the cell b, what the Statement gives of the start (any of its parts by flat_of_before) -/
def lw_At (p : Program) (s : State) (m : MethodId) (meth : Method) (c : Code) (b L : Nat) (xs : Nat → Int32) : Prop :=
  p.tables.exec = Jvm.exec ∧ c.code = code ∧ meth.sig.returnType = ret ∧ c.maxLocals = 4 ∧ s.vm.findClass R_law = some m.cls ∧ (∀ w ∈ lw_tbl, w.before #[Value.ref b] s = true) ∧ va_X b L xs s s.heap ∧ b < s.heap.size ∧ meth.locks = false ∧ (Jvm.Cond.and given_1 narrow_1).before #[Value.ref b] s = true
theorem lx_cmp (r : Int64) : lg_cmp r r = 0 := by
  simp [lg_cmp]
theorem lx_arg {G : kw_G} {p : Program} {e : Env} {s : State} {m : MethodId} {below : List Frame} {meth : Method} {c : Code} {b L : Nat} {xs : Nat → Int32} {pc t i : Nat} {tI : Int} {R : Room} {H : Heap} {locs : List Loc} {ls : Array Slot} {cells slots : Nat} {Z : State → Prop} {st : List Value} (hC : lx_C G p s m #[Value.ref b] c) (hX : va_X b L xs s s.heap) (hbl : b < s.heap.size) (d1 : decode code pc = .ok (.aload_n 0, 1)) (d2 : decode code (pc + 1) = .ok (.iload_n 3, 1)) (d3 : decode code (pc + 2) = .ok (.iconst tI, 1)) (hv : Int32.ofInt tI = nI t) (d4 : decode code (pc + 3) = .ok (.iadd, 1)) (d5 : decode code (pc + 4) = .ok (.iaload, 1)) (hi : i + t < L) (hL : L < 2 ^ 31) (hS : va_S (fun q => G.2.1 ≤ q) s.heap H locs) (h0 : ls[0]? = some (.val (.ref b))) (h3 : ls[3]? = some (.val (.int (nI i)))) (k : W p G.1 e R s m #[Value.ref b] below meth c H locs cells slots Z (F0 m (pc + 5) ls (.int (xs (i + t)) :: st))) : W p G.1 e R s m #[Value.ref b] below meth c H locs cells slots Z (F0 m pc ls st) := by
  refine lv_aload_n hC.1 hC.2.1 d1 rfl h0 ?_
  refine lv_iload_n hC.1 hC.2.1 d2 rfl h3 ?_
  refine lv_iconst hC.1 hC.2.1 d3 hv ?_
  refine lv_iadd hC.1 hC.2.1 d4 ?_
  rw [nI_add]
  have hin : vp_in (nI (i + t)) L := vp_in_nI hi hL
  refine va_sld hC.1 hC.2.1 hX hbl (by have := hC.2.2.2.2.2.2; omega) hS hin d5 ?_
  rw [nI_clamp (by omega)]
  exact k
theorem llL_13 : Cond.methodLink RL 13 yX11_row ∈ kw_T := kw_in 272 (by decide +kernel) rfl
theorem llL_17 : Cond.methodLink RL 17 yX12_row ∈ kw_T := kw_in 982 (by decide +kernel) rfl
theorem cdX11_row : Cond.code mX11_row.1 mX11_row.2.1 mX11_row.2.2.1 mX11_row.2.2.2.1 ∈ kw_T := kw_in 275 (by decide +kernel) rfl
theorem lbX11_row : lx_cb mX11_row 3 := ⟨cdX11_row, in_X11, ⟨by decide +kernel, by decide +kernel, by decide +kernel⟩, by decide, by decide⟩
theorem imX11_row : Cond.instanceMethod yX11_row ∈ kw_T := kw_in 273 (by decide +kernel) rfl
theorem seX11_X11_row_X11_row : Cond.selects RX11 yX11_row yX11_row ∈ kw_T := kw_in 274 (by decide +kernel) rfl
theorem cdX12_row : Cond.code mX12_row.1 mX12_row.2.1 mX12_row.2.2.1 mX12_row.2.2.2.1 ∈ kw_T := kw_in 985 (by decide +kernel) rfl
theorem lbX12_row : lx_cb mX12_row 3 := ⟨cdX12_row, in_X12, ⟨by decide +kernel, by decide +kernel, by decide +kernel⟩, by decide, by decide⟩
theorem imX12_row : Cond.instanceMethod yX12_row ∈ kw_T := kw_in 983 (by decide +kernel) rfl
theorem seX12_X12_row_X12_row : Cond.selects RX12 yX12_row yX12_row ∈ kw_T := kw_in 984 (by decide +kernel) rfl
theorem llL_18 : Cond.methodLink RL 18 yX11_set ∈ kw_T := kw_in 298 (by decide +kernel) rfl
theorem llL_21 : Cond.methodLink RL 21 yX12_set ∈ kw_T := kw_in 1004 (by decide +kernel) rfl
theorem cdX11_set : Cond.code mX11_set.1 mX11_set.2.1 mX11_set.2.2.1 mX11_set.2.2.2.1 ∈ kw_T := kw_in 301 (by decide +kernel) rfl
theorem lbX11_set : lx_cb mX11_set 3 := ⟨cdX11_set, in_X11, ⟨by decide +kernel, by decide +kernel, by decide +kernel⟩, by decide, by decide⟩
theorem imX11_set : Cond.instanceMethod yX11_set ∈ kw_T := kw_in 299 (by decide +kernel) rfl
theorem seX11_X11_set_X11_set : Cond.selects RX11 yX11_set yX11_set ∈ kw_T := kw_in 300 (by decide +kernel) rfl
theorem cdX12_set : Cond.code mX12_set.1 mX12_set.2.1 mX12_set.2.2.1 mX12_set.2.2.2.1 ∈ kw_T := kw_in 1007 (by decide +kernel) rfl
theorem lbX12_set : lx_cb mX12_set 3 := ⟨cdX12_set, in_X12, ⟨by decide +kernel, by decide +kernel, by decide +kernel⟩, by decide, by decide⟩
theorem imX12_set : Cond.instanceMethod yX12_set ∈ kw_T := kw_in 1005 (by decide +kernel) rfl
theorem seX12_X12_set_X12_set : Cond.selects RX12 yX12_set yX12_set ∈ kw_T := kw_in 1006 (by decide +kernel) rfl
theorem llL_22 : Cond.methodLink RL 22 yX11_copy ∈ kw_T := kw_in 318 (by decide +kernel) rfl
theorem llL_26 : Cond.methodLink RL 26 yX12_copy ∈ kw_T := kw_in 1011 (by decide +kernel) rfl
theorem cdX11_copy : Cond.code mX11_copy.1 mX11_copy.2.1 mX11_copy.2.2.1 mX11_copy.2.2.2.1 ∈ kw_T := kw_in 321 (by decide +kernel) rfl
theorem lbX11_copy : lx_cb mX11_copy 5 := ⟨cdX11_copy, in_X11, ⟨by decide +kernel, by decide +kernel, by decide +kernel⟩, by decide, by decide⟩
theorem imX11_copy : Cond.instanceMethod yX11_copy ∈ kw_T := kw_in 319 (by decide +kernel) rfl
theorem seX11_X11_copy_X11_copy : Cond.selects RX11 yX11_copy yX11_copy ∈ kw_T := kw_in 320 (by decide +kernel) rfl
theorem cdX12_copy : Cond.code mX12_copy.1 mX12_copy.2.1 mX12_copy.2.2.1 mX12_copy.2.2.2.1 ∈ kw_T := kw_in 1014 (by decide +kernel) rfl
theorem lbX12_copy : lx_cb mX12_copy 5 := ⟨cdX12_copy, in_X12, ⟨by decide +kernel, by decide +kernel, by decide +kernel⟩, by decide, by decide⟩
theorem imX12_copy : Cond.instanceMethod yX12_copy ∈ kw_T := kw_in 1012 (by decide +kernel) rfl
theorem seX12_X12_copy_X12_copy : Cond.selects RX12 yX12_copy yX12_copy ∈ kw_T := kw_in 1013 (by decide +kernel) rfl
theorem llL_27 : Cond.methodLink RL 27 yX11_drop ∈ kw_T := kw_in 334 (by decide +kernel) rfl
theorem llL_31 : Cond.methodLink RL 31 yX12_drop ∈ kw_T := kw_in 1019 (by decide +kernel) rfl
theorem cdX11_drop : Cond.code mX11_drop.1 mX11_drop.2.1 mX11_drop.2.2.1 mX11_drop.2.2.2.1 ∈ kw_T := kw_in 337 (by decide +kernel) rfl
theorem lbX11_drop : lx_cb mX11_drop 1 := ⟨cdX11_drop, in_X11, ⟨by decide +kernel, by decide +kernel, by decide +kernel⟩, by decide, by decide⟩
theorem imX11_drop : Cond.instanceMethod yX11_drop ∈ kw_T := kw_in 335 (by decide +kernel) rfl
theorem seX11_X11_drop_X11_drop : Cond.selects RX11 yX11_drop yX11_drop ∈ kw_T := kw_in 336 (by decide +kernel) rfl
theorem cdX12_drop : Cond.code mX12_drop.1 mX12_drop.2.1 mX12_drop.2.2.1 mX12_drop.2.2.2.1 ∈ kw_T := kw_in 1022 (by decide +kernel) rfl
theorem lbX12_drop : lx_cb mX12_drop 1 := ⟨cdX12_drop, in_X12, ⟨by decide +kernel, by decide +kernel, by decide +kernel⟩, by decide, by decide⟩
theorem imX12_drop : Cond.instanceMethod yX12_drop ∈ kw_T := kw_in 1020 (by decide +kernel) rfl
theorem seX12_X12_drop_X12_drop : Cond.selects RX12 yX12_drop yX12_drop ∈ kw_T := kw_in 1021 (by decide +kernel) rfl
theorem llL_32 : Cond.methodLink RL 32 yX11_feed ∈ kw_T := kw_in 342 (by decide +kernel) rfl
theorem llL_35 : Cond.methodLink RL 35 yX12_feed ∈ kw_T := kw_in 1023 (by decide +kernel) rfl
theorem cdX11_feed : Cond.code mX11_feed.1 mX11_feed.2.1 mX11_feed.2.2.1 mX11_feed.2.2.2.1 ∈ kw_T := kw_in 345 (by decide +kernel) rfl
theorem lbX11_feed : lx_cb mX11_feed 1 := ⟨cdX11_feed, in_X11, ⟨by decide +kernel, by decide +kernel, by decide +kernel⟩, by decide, by decide⟩
theorem imX11_feed : Cond.instanceMethod yX11_feed ∈ kw_T := kw_in 343 (by decide +kernel) rfl
theorem seX11_X11_feed_X11_feed : Cond.selects RX11 yX11_feed yX11_feed ∈ kw_T := kw_in 344 (by decide +kernel) rfl
theorem cdX12_feed : Cond.code mX12_feed.1 mX12_feed.2.1 mX12_feed.2.2.1 mX12_feed.2.2.2.1 ∈ kw_T := kw_in 1026 (by decide +kernel) rfl
theorem lbX12_feed : lx_cb mX12_feed 1 := ⟨cdX12_feed, in_X12, ⟨by decide +kernel, by decide +kernel, by decide +kernel⟩, by decide, by decide⟩
theorem imX12_feed : Cond.instanceMethod yX12_feed ∈ kw_T := kw_in 1024 (by decide +kernel) rfl
theorem seX12_X12_feed_X12_feed : Cond.selects RX12 yX12_feed yX12_feed ∈ kw_T := kw_in 1025 (by decide +kernel) rfl
theorem llL_36 : Cond.methodLink RL 36 yX11_kitchen ∈ kw_T := kw_in 351 (by decide +kernel) rfl
theorem llL_40 : Cond.methodLink RL 40 yX12_kitchen ∈ kw_T := kw_in 1029 (by decide +kernel) rfl
theorem cdX11_kitchen : Cond.code mX11_kitchen.1 mX11_kitchen.2.1 mX11_kitchen.2.2.1 mX11_kitchen.2.2.2.1 ∈ kw_T := kw_in 354 (by decide +kernel) rfl
theorem lbX11_kitchen : lx_cb mX11_kitchen 0 := ⟨cdX11_kitchen, in_X11, ⟨by decide +kernel, by decide +kernel, by decide +kernel⟩, by decide, by decide⟩
theorem imX11_kitchen : Cond.instanceMethod yX11_kitchen ∈ kw_T := kw_in 352 (by decide +kernel) rfl
theorem seX11_X11_kitchen_X11_kitchen : Cond.selects RX11 yX11_kitchen yX11_kitchen ∈ kw_T := kw_in 353 (by decide +kernel) rfl
theorem cdX12_kitchen : Cond.code mX12_kitchen.1 mX12_kitchen.2.1 mX12_kitchen.2.2.1 mX12_kitchen.2.2.2.1 ∈ kw_T := kw_in 1032 (by decide +kernel) rfl
theorem lbX12_kitchen : lx_cb mX12_kitchen 0 := ⟨cdX12_kitchen, in_X12, ⟨by decide +kernel, by decide +kernel, by decide +kernel⟩, by decide, by decide⟩
theorem imX12_kitchen : Cond.instanceMethod yX12_kitchen ∈ kw_T := kw_in 1030 (by decide +kernel) rfl
theorem seX12_X12_kitchen_X12_kitchen : Cond.selects RX12 yX12_kitchen yX12_kitchen ∈ kw_T := kw_in 1031 (by decide +kernel) rfl
theorem llL_41 : Cond.methodLink RL 41 yX11_fault ∈ kw_T := kw_in 461 (by decide +kernel) rfl
theorem llL_44 : Cond.methodLink RL 44 yX12_fault ∈ kw_T := kw_in 1082 (by decide +kernel) rfl
theorem cdX11_fault : Cond.code mX11_fault.1 mX11_fault.2.1 mX11_fault.2.2.1 mX11_fault.2.2.2.1 ∈ kw_T := kw_in 464 (by decide +kernel) rfl
theorem lbX11_fault : lx_cb mX11_fault 0 := ⟨cdX11_fault, in_X11, ⟨by decide +kernel, by decide +kernel, by decide +kernel⟩, by decide, by decide⟩
theorem imX11_fault : Cond.instanceMethod yX11_fault ∈ kw_T := kw_in 462 (by decide +kernel) rfl
theorem seX11_X11_fault_X11_fault : Cond.selects RX11 yX11_fault yX11_fault ∈ kw_T := kw_in 463 (by decide +kernel) rfl
theorem cdX12_fault : Cond.code mX12_fault.1 mX12_fault.2.1 mX12_fault.2.2.1 mX12_fault.2.2.2.1 ∈ kw_T := kw_in 1085 (by decide +kernel) rfl
theorem lbX12_fault : lx_cb mX12_fault 0 := ⟨cdX12_fault, in_X12, ⟨by decide +kernel, by decide +kernel, by decide +kernel⟩, by decide, by decide⟩
theorem imX12_fault : Cond.instanceMethod yX12_fault ∈ kw_T := kw_in 1083 (by decide +kernel) rfl
theorem seX12_X12_fault_X12_fault : Cond.selects RX12 yX12_fault yX12_fault ∈ kw_T := kw_in 1084 (by decide +kernel) rfl
theorem llL_45 : Cond.methodLink RL 45 yX11_undo ∈ kw_T := kw_in 465 (by decide +kernel) rfl
theorem llL_48 : Cond.methodLink RL 48 yX12_undo ∈ kw_T := kw_in 1086 (by decide +kernel) rfl
theorem cdX11_undo : Cond.code mX11_undo.1 mX11_undo.2.1 mX11_undo.2.2.1 mX11_undo.2.2.2.1 ∈ kw_T := kw_in 468 (by decide +kernel) rfl
theorem lbX11_undo : lx_cb mX11_undo 0 := ⟨cdX11_undo, in_X11, ⟨by decide +kernel, by decide +kernel, by decide +kernel⟩, by decide, by decide⟩
theorem imX11_undo : Cond.instanceMethod yX11_undo ∈ kw_T := kw_in 466 (by decide +kernel) rfl
theorem seX11_X11_undo_X11_undo : Cond.selects RX11 yX11_undo yX11_undo ∈ kw_T := kw_in 467 (by decide +kernel) rfl
theorem cdX12_undo : Cond.code mX12_undo.1 mX12_undo.2.1 mX12_undo.2.2.1 mX12_undo.2.2.2.1 ∈ kw_T := kw_in 1089 (by decide +kernel) rfl
theorem lbX12_undo : lx_cb mX12_undo 0 := ⟨cdX12_undo, in_X12, ⟨by decide +kernel, by decide +kernel, by decide +kernel⟩, by decide, by decide⟩
theorem imX12_undo : Cond.instanceMethod yX12_undo ∈ kw_T := kw_in 1087 (by decide +kernel) rfl
theorem seX12_X12_undo_X12_undo : Cond.selects RX12 yX12_undo yX12_undo ∈ kw_T := kw_in 1088 (by decide +kernel) rfl
theorem llL_49 : Cond.methodLink RL 49 yX11_weeks ∈ kw_T := kw_in 473 (by decide +kernel) rfl
theorem llL_52 : Cond.methodLink RL 52 yX12_weeks ∈ kw_T := kw_in 1091 (by decide +kernel) rfl
theorem cdX11_weeks : Cond.code mX11_weeks.1 mX11_weeks.2.1 mX11_weeks.2.2.1 mX11_weeks.2.2.2.1 ∈ kw_T := kw_in 476 (by decide +kernel) rfl
theorem lbX11_weeks : lx_cb mX11_weeks 1 := ⟨cdX11_weeks, in_X11, ⟨by decide +kernel, by decide +kernel, by decide +kernel⟩, by decide, by decide⟩
theorem imX11_weeks : Cond.instanceMethod yX11_weeks ∈ kw_T := kw_in 474 (by decide +kernel) rfl
theorem seX11_X11_weeks_X11_weeks : Cond.selects RX11 yX11_weeks yX11_weeks ∈ kw_T := kw_in 475 (by decide +kernel) rfl
theorem cdX12_weeks : Cond.code mX12_weeks.1 mX12_weeks.2.1 mX12_weeks.2.2.1 mX12_weeks.2.2.2.1 ∈ kw_T := kw_in 1094 (by decide +kernel) rfl
theorem lbX12_weeks : lx_cb mX12_weeks 1 := ⟨cdX12_weeks, in_X12, ⟨by decide +kernel, by decide +kernel, by decide +kernel⟩, by decide, by decide⟩
theorem imX12_weeks : Cond.instanceMethod yX12_weeks ∈ kw_T := kw_in 1092 (by decide +kernel) rfl
theorem seX12_X12_weeks_X12_weeks : Cond.selects RX12 yX12_weeks yX12_weeks ∈ kw_T := kw_in 1093 (by decide +kernel) rfl
theorem llL_53 : Cond.methodLink RL 53 yX11_leave ∈ kw_T := kw_in 548 (by decide +kernel) rfl
theorem llL_56 : Cond.methodLink RL 56 yX12_leave ∈ kw_T := kw_in 1134 (by decide +kernel) rfl
theorem cdX11_leave : Cond.code mX11_leave.1 mX11_leave.2.1 mX11_leave.2.2.1 mX11_leave.2.2.2.1 ∈ kw_T := kw_in 551 (by decide +kernel) rfl
theorem lbX11_leave : lx_cb mX11_leave 1 := ⟨cdX11_leave, in_X11, ⟨by decide +kernel, by decide +kernel, by decide +kernel⟩, by decide, by decide⟩
theorem imX11_leave : Cond.instanceMethod yX11_leave ∈ kw_T := kw_in 549 (by decide +kernel) rfl
theorem seX11_X11_leave_X11_leave : Cond.selects RX11 yX11_leave yX11_leave ∈ kw_T := kw_in 550 (by decide +kernel) rfl
theorem cdX12_leave : Cond.code mX12_leave.1 mX12_leave.2.1 mX12_leave.2.2.1 mX12_leave.2.2.2.1 ∈ kw_T := kw_in 1137 (by decide +kernel) rfl
theorem lbX12_leave : lx_cb mX12_leave 1 := ⟨cdX12_leave, in_X12, ⟨by decide +kernel, by decide +kernel, by decide +kernel⟩, by decide, by decide⟩
theorem imX12_leave : Cond.instanceMethod yX12_leave ∈ kw_T := kw_in 1135 (by decide +kernel) rfl
theorem seX12_X12_leave_X12_leave : Cond.selects RX12 yX12_leave yX12_leave ∈ kw_T := kw_in 1136 (by decide +kernel) rfl
theorem llL_57 : Cond.methodLink RL 57 yX11_name ∈ kw_T := kw_in 554 (by decide +kernel) rfl
theorem llL_61 : Cond.methodLink RL 61 yX12_name ∈ kw_T := kw_in 1142 (by decide +kernel) rfl
theorem cdX11_name : Cond.code mX11_name.1 mX11_name.2.1 mX11_name.2.2.1 mX11_name.2.2.2.1 ∈ kw_T := kw_in 557 (by decide +kernel) rfl
theorem lbX11_name : lx_cb mX11_name 2 := ⟨cdX11_name, in_X11, ⟨by decide +kernel, by decide +kernel, by decide +kernel⟩, by decide, by decide⟩
theorem imX11_name : Cond.instanceMethod yX11_name ∈ kw_T := kw_in 555 (by decide +kernel) rfl
theorem seX11_X11_name_X11_name : Cond.selects RX11 yX11_name yX11_name ∈ kw_T := kw_in 556 (by decide +kernel) rfl
theorem cdX12_name : Cond.code mX12_name.1 mX12_name.2.1 mX12_name.2.2.1 mX12_name.2.2.2.1 ∈ kw_T := kw_in 1145 (by decide +kernel) rfl
theorem lbX12_name : lx_cb mX12_name 2 := ⟨cdX12_name, in_X12, ⟨by decide +kernel, by decide +kernel, by decide +kernel⟩, by decide, by decide⟩
theorem imX12_name : Cond.instanceMethod yX12_name ∈ kw_T := kw_in 1143 (by decide +kernel) rfl
theorem seX12_X12_name_X12_name : Cond.selects RX12 yX12_name yX12_name ∈ kw_T := kw_in 1144 (by decide +kernel) rfl
theorem llL_62 : Cond.methodLink RL 62 yX11_job ∈ kw_T := kw_in 562 (by decide +kernel) rfl
theorem llL_65 : Cond.methodLink RL 65 yX12_job ∈ kw_T := kw_in 1147 (by decide +kernel) rfl
theorem cdX11_job : Cond.code mX11_job.1 mX11_job.2.1 mX11_job.2.2.1 mX11_job.2.2.2.1 ∈ kw_T := kw_in 565 (by decide +kernel) rfl
theorem lbX11_job : lx_cb mX11_job 2 := ⟨cdX11_job, in_X11, ⟨by decide +kernel, by decide +kernel, by decide +kernel⟩, by decide, by decide⟩
theorem imX11_job : Cond.instanceMethod yX11_job ∈ kw_T := kw_in 563 (by decide +kernel) rfl
theorem seX11_X11_job_X11_job : Cond.selects RX11 yX11_job yX11_job ∈ kw_T := kw_in 564 (by decide +kernel) rfl
theorem cdX12_job : Cond.code mX12_job.1 mX12_job.2.1 mX12_job.2.2.1 mX12_job.2.2.2.1 ∈ kw_T := kw_in 1150 (by decide +kernel) rfl
theorem lbX12_job : lx_cb mX12_job 2 := ⟨cdX12_job, in_X12, ⟨by decide +kernel, by decide +kernel, by decide +kernel⟩, by decide, by decide⟩
theorem imX12_job : Cond.instanceMethod yX12_job ∈ kw_T := kw_in 1148 (by decide +kernel) rfl
theorem seX12_X12_job_X12_job : Cond.selects RX12 yX12_job yX12_job ∈ kw_T := kw_in 1149 (by decide +kernel) rfl
theorem llL_66 : Cond.methodLink RL 66 yX11_turn ∈ kw_T := kw_in 566 (by decide +kernel) rfl
theorem llL_69 : Cond.methodLink RL 69 yX12_turn ∈ kw_T := kw_in 1151 (by decide +kernel) rfl
theorem cdX11_turn : Cond.code mX11_turn.1 mX11_turn.2.1 mX11_turn.2.2.1 mX11_turn.2.2.2.1 ∈ kw_T := kw_in 569 (by decide +kernel) rfl
theorem lbX11_turn : lx_cb mX11_turn 1 := ⟨cdX11_turn, in_X11, ⟨by decide +kernel, by decide +kernel, by decide +kernel⟩, by decide, by decide⟩
theorem imX11_turn : Cond.instanceMethod yX11_turn ∈ kw_T := kw_in 567 (by decide +kernel) rfl
theorem seX11_X11_turn_X11_turn : Cond.selects RX11 yX11_turn yX11_turn ∈ kw_T := kw_in 568 (by decide +kernel) rfl
theorem cdX12_turn : Cond.code mX12_turn.1 mX12_turn.2.1 mX12_turn.2.2.1 mX12_turn.2.2.2.1 ∈ kw_T := kw_in 1154 (by decide +kernel) rfl
theorem lbX12_turn : lx_cb mX12_turn 1 := ⟨cdX12_turn, in_X12, ⟨by decide +kernel, by decide +kernel, by decide +kernel⟩, by decide, by decide⟩
theorem imX12_turn : Cond.instanceMethod yX12_turn ∈ kw_T := kw_in 1152 (by decide +kernel) rfl
theorem seX12_X12_turn_X12_turn : Cond.selects RX12 yX12_turn yX12_turn ∈ kw_T := kw_in 1153 (by decide +kernel) rfl
theorem llL_70 : Cond.methodLink RL 70 yX11_done ∈ kw_T := kw_in 570 (by decide +kernel) rfl
theorem llL_73 : Cond.methodLink RL 73 yX12_done ∈ kw_T := kw_in 1156 (by decide +kernel) rfl
theorem cdX11_done : Cond.code mX11_done.1 mX11_done.2.1 mX11_done.2.2.1 mX11_done.2.2.2.1 ∈ kw_T := kw_in 573 (by decide +kernel) rfl
theorem lbX11_done : lx_cb mX11_done 2 := ⟨cdX11_done, in_X11, ⟨by decide +kernel, by decide +kernel, by decide +kernel⟩, by decide, by decide⟩
theorem imX11_done : Cond.instanceMethod yX11_done ∈ kw_T := kw_in 571 (by decide +kernel) rfl
theorem seX11_X11_done_X11_done : Cond.selects RX11 yX11_done yX11_done ∈ kw_T := kw_in 572 (by decide +kernel) rfl
theorem cdX12_done : Cond.code mX12_done.1 mX12_done.2.1 mX12_done.2.2.1 mX12_done.2.2.2.1 ∈ kw_T := kw_in 1159 (by decide +kernel) rfl
theorem lbX12_done : lx_cb mX12_done 2 := ⟨cdX12_done, in_X12, ⟨by decide +kernel, by decide +kernel, by decide +kernel⟩, by decide, by decide⟩
theorem imX12_done : Cond.instanceMethod yX12_done ∈ kw_T := kw_in 1157 (by decide +kernel) rfl
theorem seX12_X12_done_X12_done : Cond.selects RX12 yX12_done yX12_done ∈ kw_T := kw_in 1158 (by decide +kernel) rfl
theorem llL_74 : Cond.methodLink RL 74 yX11_slot ∈ kw_T := kw_in 575 (by decide +kernel) rfl
theorem llL_77 : Cond.methodLink RL 77 yX12_slot ∈ kw_T := kw_in 1160 (by decide +kernel) rfl
theorem cdX11_slot : Cond.code mX11_slot.1 mX11_slot.2.1 mX11_slot.2.2.1 mX11_slot.2.2.2.1 ∈ kw_T := kw_in 578 (by decide +kernel) rfl
theorem lbX11_slot : lx_cb mX11_slot 2 := ⟨cdX11_slot, in_X11, ⟨by decide +kernel, by decide +kernel, by decide +kernel⟩, by decide, by decide⟩
theorem imX11_slot : Cond.instanceMethod yX11_slot ∈ kw_T := kw_in 576 (by decide +kernel) rfl
theorem seX11_X11_slot_X11_slot : Cond.selects RX11 yX11_slot yX11_slot ∈ kw_T := kw_in 577 (by decide +kernel) rfl
theorem cdX12_slot : Cond.code mX12_slot.1 mX12_slot.2.1 mX12_slot.2.2.1 mX12_slot.2.2.2.1 ∈ kw_T := kw_in 1163 (by decide +kernel) rfl
theorem lbX12_slot : lx_cb mX12_slot 2 := ⟨cdX12_slot, in_X12, ⟨by decide +kernel, by decide +kernel, by decide +kernel⟩, by decide, by decide⟩
theorem imX12_slot : Cond.instanceMethod yX12_slot ∈ kw_T := kw_in 1161 (by decide +kernel) rfl
theorem seX12_X12_slot_X12_slot : Cond.selects RX12 yX12_slot yX12_slot ∈ kw_T := kw_in 1162 (by decide +kernel) rfl
theorem llL_78 : Cond.methodLink RL 78 yX11_turner ∈ kw_T := kw_in 581 (by decide +kernel) rfl
theorem llL_81 : Cond.methodLink RL 81 yX12_turner ∈ kw_T := kw_in 1164 (by decide +kernel) rfl
theorem cdX11_turner : Cond.code mX11_turner.1 mX11_turner.2.1 mX11_turner.2.2.1 mX11_turner.2.2.2.1 ∈ kw_T := kw_in 584 (by decide +kernel) rfl
theorem lbX11_turner : lx_cb mX11_turner 2 := ⟨cdX11_turner, in_X11, ⟨by decide +kernel, by decide +kernel, by decide +kernel⟩, by decide, by decide⟩
theorem imX11_turner : Cond.instanceMethod yX11_turner ∈ kw_T := kw_in 582 (by decide +kernel) rfl
theorem seX11_X11_turner_X11_turner : Cond.selects RX11 yX11_turner yX11_turner ∈ kw_T := kw_in 583 (by decide +kernel) rfl
theorem cdX12_turner : Cond.code mX12_turner.1 mX12_turner.2.1 mX12_turner.2.2.1 mX12_turner.2.2.2.1 ∈ kw_T := kw_in 1167 (by decide +kernel) rfl
theorem lbX12_turner : lx_cb mX12_turner 2 := ⟨cdX12_turner, in_X12, ⟨by decide +kernel, by decide +kernel, by decide +kernel⟩, by decide, by decide⟩
theorem imX12_turner : Cond.instanceMethod yX12_turner ∈ kw_T := kw_in 1165 (by decide +kernel) rfl
theorem seX12_X12_turner_X12_turner : Cond.selects RX12 yX12_turner yX12_turner ∈ kw_T := kw_in 1166 (by decide +kernel) rfl
theorem llL_82 : Cond.methodLink RL 82 yX11_hasJobs ∈ kw_T := kw_in 587 (by decide +kernel) rfl
theorem llL_85 : Cond.methodLink RL 85 yX12_hasJobs ∈ kw_T := kw_in 1172 (by decide +kernel) rfl
theorem cdX11_hasJobs : Cond.code mX11_hasJobs.1 mX11_hasJobs.2.1 mX11_hasJobs.2.2.1 mX11_hasJobs.2.2.2.1 ∈ kw_T := kw_in 590 (by decide +kernel) rfl
theorem lbX11_hasJobs : lx_cb mX11_hasJobs 2 := ⟨cdX11_hasJobs, in_X11, ⟨by decide +kernel, by decide +kernel, by decide +kernel⟩, by decide, by decide⟩
theorem imX11_hasJobs : Cond.instanceMethod yX11_hasJobs ∈ kw_T := kw_in 588 (by decide +kernel) rfl
theorem seX11_X11_hasJobs_X11_hasJobs : Cond.selects RX11 yX11_hasJobs yX11_hasJobs ∈ kw_T := kw_in 589 (by decide +kernel) rfl
theorem cdX12_hasJobs : Cond.code mX12_hasJobs.1 mX12_hasJobs.2.1 mX12_hasJobs.2.2.1 mX12_hasJobs.2.2.2.1 ∈ kw_T := kw_in 1175 (by decide +kernel) rfl
theorem lbX12_hasJobs : lx_cb mX12_hasJobs 2 := ⟨cdX12_hasJobs, in_X12, ⟨by decide +kernel, by decide +kernel, by decide +kernel⟩, by decide, by decide⟩
theorem imX12_hasJobs : Cond.instanceMethod yX12_hasJobs ∈ kw_T := kw_in 1173 (by decide +kernel) rfl
theorem seX12_X12_hasJobs_X12_hasJobs : Cond.selects RX12 yX12_hasJobs yX12_hasJobs ∈ kw_T := kw_in 1174 (by decide +kernel) rfl
theorem llL_86 : Cond.methodLink RL 86 yX11_whoDoes ∈ kw_T := kw_in 603 (by decide +kernel) rfl
theorem llL_89 : Cond.methodLink RL 89 yX12_whoDoes ∈ kw_T := kw_in 1185 (by decide +kernel) rfl
theorem cdX11_whoDoes : Cond.code mX11_whoDoes.1 mX11_whoDoes.2.1 mX11_whoDoes.2.2.1 mX11_whoDoes.2.2.2.1 ∈ kw_T := kw_in 606 (by decide +kernel) rfl
theorem lbX11_whoDoes : lx_cb mX11_whoDoes 2 := ⟨cdX11_whoDoes, in_X11, ⟨by decide +kernel, by decide +kernel, by decide +kernel⟩, by decide, by decide⟩
theorem imX11_whoDoes : Cond.instanceMethod yX11_whoDoes ∈ kw_T := kw_in 604 (by decide +kernel) rfl
theorem seX11_X11_whoDoes_X11_whoDoes : Cond.selects RX11 yX11_whoDoes yX11_whoDoes ∈ kw_T := kw_in 605 (by decide +kernel) rfl
theorem cdX12_whoDoes : Cond.code mX12_whoDoes.1 mX12_whoDoes.2.1 mX12_whoDoes.2.2.1 mX12_whoDoes.2.2.2.1 ∈ kw_T := kw_in 1188 (by decide +kernel) rfl
theorem lbX12_whoDoes : lx_cb mX12_whoDoes 2 := ⟨cdX12_whoDoes, in_X12, ⟨by decide +kernel, by decide +kernel, by decide +kernel⟩, by decide, by decide⟩
theorem imX12_whoDoes : Cond.instanceMethod yX12_whoDoes ∈ kw_T := kw_in 1186 (by decide +kernel) rfl
theorem seX12_X12_whoDoes_X12_whoDoes : Cond.selects RX12 yX12_whoDoes yX12_whoDoes ∈ kw_T := kw_in 1187 (by decide +kernel) rfl
theorem llL_90 : Cond.methodLink RL 90 yX11_often ∈ kw_T := kw_in 611 (by decide +kernel) rfl
theorem llL_93 : Cond.methodLink RL 93 yX12_often ∈ kw_T := kw_in 1193 (by decide +kernel) rfl
theorem cdX11_often : Cond.code mX11_often.1 mX11_often.2.1 mX11_often.2.2.1 mX11_often.2.2.2.1 ∈ kw_T := kw_in 614 (by decide +kernel) rfl
theorem lbX11_often : lx_cb mX11_often 3 := ⟨cdX11_often, in_X11, ⟨by decide +kernel, by decide +kernel, by decide +kernel⟩, by decide, by decide⟩
theorem imX11_often : Cond.instanceMethod yX11_often ∈ kw_T := kw_in 612 (by decide +kernel) rfl
theorem seX11_X11_often_X11_often : Cond.selects RX11 yX11_often yX11_often ∈ kw_T := kw_in 613 (by decide +kernel) rfl
theorem cdX12_often : Cond.code mX12_often.1 mX12_often.2.1 mX12_often.2.2.1 mX12_often.2.2.2.1 ∈ kw_T := kw_in 1196 (by decide +kernel) rfl
theorem lbX12_often : lx_cb mX12_often 3 := ⟨cdX12_often, in_X12, ⟨by decide +kernel, by decide +kernel, by decide +kernel⟩, by decide, by decide⟩
theorem imX12_often : Cond.instanceMethod yX12_often ∈ kw_T := kw_in 1194 (by decide +kernel) rfl
theorem seX12_X12_often_X12_often : Cond.selects RX12 yX12_often yX12_often ∈ kw_T := kw_in 1195 (by decide +kernel) rfl
theorem llL_94 : Cond.methodLink RL 94 yX11_meets ∈ kw_T := kw_in 623 (by decide +kernel) rfl
theorem llL_97 : Cond.methodLink RL 97 yX12_meets ∈ kw_T := kw_in 1197 (by decide +kernel) rfl
theorem cdX11_meets : Cond.code mX11_meets.1 mX11_meets.2.1 mX11_meets.2.2.1 mX11_meets.2.2.2.1 ∈ kw_T := kw_in 626 (by decide +kernel) rfl
theorem lbX11_meets : lx_cb mX11_meets 2 := ⟨cdX11_meets, in_X11, ⟨by decide +kernel, by decide +kernel, by decide +kernel⟩, by decide, by decide⟩
theorem imX11_meets : Cond.instanceMethod yX11_meets ∈ kw_T := kw_in 624 (by decide +kernel) rfl
theorem seX11_X11_meets_X11_meets : Cond.selects RX11 yX11_meets yX11_meets ∈ kw_T := kw_in 625 (by decide +kernel) rfl
theorem cdX12_meets : Cond.code mX12_meets.1 mX12_meets.2.1 mX12_meets.2.2.1 mX12_meets.2.2.2.1 ∈ kw_T := kw_in 1200 (by decide +kernel) rfl
theorem lbX12_meets : lx_cb mX12_meets 2 := ⟨cdX12_meets, in_X12, ⟨by decide +kernel, by decide +kernel, by decide +kernel⟩, by decide, by decide⟩
theorem imX12_meets : Cond.instanceMethod yX12_meets ∈ kw_T := kw_in 1198 (by decide +kernel) rfl
theorem seX12_X12_meets_X12_meets : Cond.selects RX12 yX12_meets yX12_meets ∈ kw_T := kw_in 1199 (by decide +kernel) rfl
theorem llL_98 : Cond.methodLink RL 98 yX11_allMet ∈ kw_T := kw_in 634 (by decide +kernel) rfl
theorem llL_101 : Cond.methodLink RL 101 yX12_allMet ∈ kw_T := kw_in 1201 (by decide +kernel) rfl
theorem cdX11_allMet : Cond.code mX11_allMet.1 mX11_allMet.2.1 mX11_allMet.2.2.1 mX11_allMet.2.2.2.1 ∈ kw_T := kw_in 637 (by decide +kernel) rfl
theorem lbX11_allMet : lx_cb mX11_allMet 0 := ⟨cdX11_allMet, in_X11, ⟨by decide +kernel, by decide +kernel, by decide +kernel⟩, by decide, by decide⟩
theorem imX11_allMet : Cond.instanceMethod yX11_allMet ∈ kw_T := kw_in 635 (by decide +kernel) rfl
theorem seX11_X11_allMet_X11_allMet : Cond.selects RX11 yX11_allMet yX11_allMet ∈ kw_T := kw_in 636 (by decide +kernel) rfl
theorem cdX12_allMet : Cond.code mX12_allMet.1 mX12_allMet.2.1 mX12_allMet.2.2.1 mX12_allMet.2.2.2.1 ∈ kw_T := kw_in 1204 (by decide +kernel) rfl
theorem lbX12_allMet : lx_cb mX12_allMet 0 := ⟨cdX12_allMet, in_X12, ⟨by decide +kernel, by decide +kernel, by decide +kernel⟩, by decide, by decide⟩
theorem imX12_allMet : Cond.instanceMethod yX12_allMet ∈ kw_T := kw_in 1202 (by decide +kernel) rfl
theorem seX12_X12_allMet_X12_allMet : Cond.selects RX12 yX12_allMet yX12_allMet ∈ kw_T := kw_in 1203 (by decide +kernel) rfl
theorem llL_102 : Cond.methodLink RL 102 yX11_round ∈ kw_T := kw_in 655 (by decide +kernel) rfl
theorem llL_105 : Cond.methodLink RL 105 yX12_round ∈ kw_T := kw_in 1213 (by decide +kernel) rfl
theorem cdX11_round : Cond.code mX11_round.1 mX11_round.2.1 mX11_round.2.2.1 mX11_round.2.2.2.1 ∈ kw_T := kw_in 658 (by decide +kernel) rfl
theorem lbX11_round : lx_cb mX11_round 0 := ⟨cdX11_round, in_X11, ⟨by decide +kernel, by decide +kernel, by decide +kernel⟩, by decide, by decide⟩
theorem imX11_round : Cond.instanceMethod yX11_round ∈ kw_T := kw_in 656 (by decide +kernel) rfl
theorem seX11_X11_round_X11_round : Cond.selects RX11 yX11_round yX11_round ∈ kw_T := kw_in 657 (by decide +kernel) rfl
theorem cdX12_round : Cond.code mX12_round.1 mX12_round.2.1 mX12_round.2.2.1 mX12_round.2.2.2.1 ∈ kw_T := kw_in 1216 (by decide +kernel) rfl
theorem lbX12_round : lx_cb mX12_round 0 := ⟨cdX12_round, in_X12, ⟨by decide +kernel, by decide +kernel, by decide +kernel⟩, by decide, by decide⟩
theorem imX12_round : Cond.instanceMethod yX12_round ∈ kw_T := kw_in 1214 (by decide +kernel) rfl
theorem seX12_X12_round_X12_round : Cond.selects RX12 yX12_round yX12_round ∈ kw_T := kw_in 1215 (by decide +kernel) rfl
theorem llL_106 : Cond.methodLink RL 106 yX11_fairest ∈ kw_T := kw_in 664 (by decide +kernel) rfl
theorem llL_109 : Cond.methodLink RL 109 yX12_fairest ∈ kw_T := kw_in 1217 (by decide +kernel) rfl
theorem cdX11_fairest : Cond.code mX11_fairest.1 mX11_fairest.2.1 mX11_fairest.2.2.1 mX11_fairest.2.2.2.1 ∈ kw_T := kw_in 667 (by decide +kernel) rfl
theorem lbX11_fairest : lx_cb mX11_fairest 2 := ⟨cdX11_fairest, in_X11, ⟨by decide +kernel, by decide +kernel, by decide +kernel⟩, by decide, by decide⟩
theorem imX11_fairest : Cond.instanceMethod yX11_fairest ∈ kw_T := kw_in 665 (by decide +kernel) rfl
theorem seX11_X11_fairest_X11_fairest : Cond.selects RX11 yX11_fairest yX11_fairest ∈ kw_T := kw_in 666 (by decide +kernel) rfl
theorem cdX12_fairest : Cond.code mX12_fairest.1 mX12_fairest.2.1 mX12_fairest.2.2.1 mX12_fairest.2.2.2.1 ∈ kw_T := kw_in 1220 (by decide +kernel) rfl
theorem lbX12_fairest : lx_cb mX12_fairest 2 := ⟨cdX12_fairest, in_X12, ⟨by decide +kernel, by decide +kernel, by decide +kernel⟩, by decide, by decide⟩
theorem imX12_fairest : Cond.instanceMethod yX12_fairest ∈ kw_T := kw_in 1218 (by decide +kernel) rfl
theorem seX12_X12_fairest_X12_fairest : Cond.selects RX12 yX12_fairest yX12_fairest ∈ kw_T := kw_in 1219 (by decide +kernel) rfl
theorem llL_110 : Cond.methodLink RL 110 yX11_owed ∈ kw_T := kw_in 691 (by decide +kernel) rfl
theorem llL_113 : Cond.methodLink RL 113 yX12_owed ∈ kw_T := kw_in 1230 (by decide +kernel) rfl
theorem cdX11_owed : Cond.code mX11_owed.1 mX11_owed.2.1 mX11_owed.2.2.1 mX11_owed.2.2.2.1 ∈ kw_T := kw_in 694 (by decide +kernel) rfl
theorem lbX11_owed : lx_cb mX11_owed 1 := ⟨cdX11_owed, in_X11, ⟨by decide +kernel, by decide +kernel, by decide +kernel⟩, by decide, by decide⟩
theorem imX11_owed : Cond.instanceMethod yX11_owed ∈ kw_T := kw_in 692 (by decide +kernel) rfl
theorem seX11_X11_owed_X11_owed : Cond.selects RX11 yX11_owed yX11_owed ∈ kw_T := kw_in 693 (by decide +kernel) rfl
theorem cdX12_owed : Cond.code mX12_owed.1 mX12_owed.2.1 mX12_owed.2.2.1 mX12_owed.2.2.2.1 ∈ kw_T := kw_in 1233 (by decide +kernel) rfl
theorem lbX12_owed : lx_cb mX12_owed 1 := ⟨cdX12_owed, in_X12, ⟨by decide +kernel, by decide +kernel, by decide +kernel⟩, by decide, by decide⟩
theorem imX12_owed : Cond.instanceMethod yX12_owed ∈ kw_T := kw_in 1231 (by decide +kernel) rfl
theorem seX12_X12_owed_X12_owed : Cond.selects RX12 yX12_owed yX12_owed ∈ kw_T := kw_in 1232 (by decide +kernel) rfl
theorem llL_114 : Cond.methodLink RL 114 yX11_right ∈ kw_T := kw_in 700 (by decide +kernel) rfl
theorem llL_118 : Cond.methodLink RL 118 yX12_right ∈ kw_T := kw_in 1234 (by decide +kernel) rfl
theorem cdX11_right : Cond.code mX11_right.1 mX11_right.2.1 mX11_right.2.2.1 mX11_right.2.2.2.1 ∈ kw_T := kw_in 703 (by decide +kernel) rfl
theorem lbX11_right : lx_cb mX11_right 4 := ⟨cdX11_right, in_X11, ⟨by decide +kernel, by decide +kernel, by decide +kernel⟩, by decide, by decide⟩
theorem imX11_right : Cond.instanceMethod yX11_right ∈ kw_T := kw_in 701 (by decide +kernel) rfl
theorem seX11_X11_right_X11_right : Cond.selects RX11 yX11_right yX11_right ∈ kw_T := kw_in 702 (by decide +kernel) rfl
theorem cdX12_right : Cond.code mX12_right.1 mX12_right.2.1 mX12_right.2.2.1 mX12_right.2.2.2.1 ∈ kw_T := kw_in 1237 (by decide +kernel) rfl
theorem lbX12_right : lx_cb mX12_right 4 := ⟨cdX12_right, in_X12, ⟨by decide +kernel, by decide +kernel, by decide +kernel⟩, by decide, by decide⟩
theorem imX12_right : Cond.instanceMethod yX12_right ∈ kw_T := kw_in 1235 (by decide +kernel) rfl
theorem seX12_X12_right_X12_right : Cond.selects RX12 yX12_right yX12_right ∈ kw_T := kw_in 1236 (by decide +kernel) rfl
theorem llL_119 : Cond.methodLink RL 119 yX11_twice ∈ kw_T := kw_in 715 (by decide +kernel) rfl
theorem llL_122 : Cond.methodLink RL 122 yX12_twice ∈ kw_T := kw_in 1242 (by decide +kernel) rfl
theorem cdX11_twice : Cond.code mX11_twice.1 mX11_twice.2.1 mX11_twice.2.2.1 mX11_twice.2.2.2.1 ∈ kw_T := kw_in 718 (by decide +kernel) rfl
theorem lbX11_twice : lx_cb mX11_twice 0 := ⟨cdX11_twice, in_X11, ⟨by decide +kernel, by decide +kernel, by decide +kernel⟩, by decide, by decide⟩
theorem imX11_twice : Cond.instanceMethod yX11_twice ∈ kw_T := kw_in 716 (by decide +kernel) rfl
theorem seX11_X11_twice_X11_twice : Cond.selects RX11 yX11_twice yX11_twice ∈ kw_T := kw_in 717 (by decide +kernel) rfl
theorem cdX12_twice : Cond.code mX12_twice.1 mX12_twice.2.1 mX12_twice.2.2.1 mX12_twice.2.2.2.1 ∈ kw_T := kw_in 1245 (by decide +kernel) rfl
theorem lbX12_twice : lx_cb mX12_twice 0 := ⟨cdX12_twice, in_X12, ⟨by decide +kernel, by decide +kernel, by decide +kernel⟩, by decide, by decide⟩
theorem imX12_twice : Cond.instanceMethod yX12_twice ∈ kw_T := kw_in 1243 (by decide +kernel) rfl
theorem seX12_X12_twice_X12_twice : Cond.selects RX12 yX12_twice yX12_twice ∈ kw_T := kw_in 1244 (by decide +kernel) rfl
theorem llL_123 : Cond.methodLink RL 123 yX11_seen ∈ kw_T := kw_in 732 (by decide +kernel) rfl
theorem llL_126 : Cond.methodLink RL 126 yX12_seen ∈ kw_T := kw_in 1246 (by decide +kernel) rfl
theorem cdX11_seen : Cond.code mX11_seen.1 mX11_seen.2.1 mX11_seen.2.2.1 mX11_seen.2.2.2.1 ∈ kw_T := kw_in 735 (by decide +kernel) rfl
theorem lbX11_seen : lx_cb mX11_seen 4 := ⟨cdX11_seen, in_X11, ⟨by decide +kernel, by decide +kernel, by decide +kernel⟩, by decide, by decide⟩
theorem imX11_seen : Cond.instanceMethod yX11_seen ∈ kw_T := kw_in 733 (by decide +kernel) rfl
theorem seX11_X11_seen_X11_seen : Cond.selects RX11 yX11_seen yX11_seen ∈ kw_T := kw_in 734 (by decide +kernel) rfl
theorem cdX12_seen : Cond.code mX12_seen.1 mX12_seen.2.1 mX12_seen.2.2.1 mX12_seen.2.2.2.1 ∈ kw_T := kw_in 1249 (by decide +kernel) rfl
theorem lbX12_seen : lx_cb mX12_seen 4 := ⟨cdX12_seen, in_X12, ⟨by decide +kernel, by decide +kernel, by decide +kernel⟩, by decide, by decide⟩
theorem imX12_seen : Cond.instanceMethod yX12_seen ∈ kw_T := kw_in 1247 (by decide +kernel) rfl
theorem seX12_X12_seen_X12_seen : Cond.selects RX12 yX12_seen yX12_seen ∈ kw_T := kw_in 1248 (by decide +kernel) rfl
theorem llL_127 : Cond.methodLink RL 127 yX11_who ∈ kw_T := kw_in 747 (by decide +kernel) rfl
theorem llL_130 : Cond.methodLink RL 130 yX12_who ∈ kw_T := kw_in 1263 (by decide +kernel) rfl
theorem cdX11_who : Cond.code mX11_who.1 mX11_who.2.1 mX11_who.2.2.1 mX11_who.2.2.2.1 ∈ kw_T := kw_in 750 (by decide +kernel) rfl
theorem lbX11_who : lx_cb mX11_who 4 := ⟨cdX11_who, in_X11, ⟨by decide +kernel, by decide +kernel, by decide +kernel⟩, by decide, by decide⟩
theorem imX11_who : Cond.instanceMethod yX11_who ∈ kw_T := kw_in 748 (by decide +kernel) rfl
theorem seX11_X11_who_X11_who : Cond.selects RX11 yX11_who yX11_who ∈ kw_T := kw_in 749 (by decide +kernel) rfl
theorem cdX12_who : Cond.code mX12_who.1 mX12_who.2.1 mX12_who.2.2.1 mX12_who.2.2.2.1 ∈ kw_T := kw_in 1266 (by decide +kernel) rfl
theorem lbX12_who : lx_cb mX12_who 4 := ⟨cdX12_who, in_X12, ⟨by decide +kernel, by decide +kernel, by decide +kernel⟩, by decide, by decide⟩
theorem imX12_who : Cond.instanceMethod yX12_who ∈ kw_T := kw_in 1264 (by decide +kernel) rfl
theorem seX12_X12_who_X12_who : Cond.selects RX12 yX12_who yX12_who ∈ kw_T := kw_in 1265 (by decide +kernel) rfl
theorem llL_131 : Cond.methodLink RL 131 yX11_pairs ∈ kw_T := kw_in 757 (by decide +kernel) rfl
theorem llL_134 : Cond.methodLink RL 134 yX12_pairs ∈ kw_T := kw_in 1271 (by decide +kernel) rfl
theorem cdX11_pairs : Cond.code mX11_pairs.1 mX11_pairs.2.1 mX11_pairs.2.2.1 mX11_pairs.2.2.2.1 ∈ kw_T := kw_in 760 (by decide +kernel) rfl
theorem lbX11_pairs : lx_cb mX11_pairs 1 := ⟨cdX11_pairs, in_X11, ⟨by decide +kernel, by decide +kernel, by decide +kernel⟩, by decide, by decide⟩
theorem imX11_pairs : Cond.instanceMethod yX11_pairs ∈ kw_T := kw_in 758 (by decide +kernel) rfl
theorem seX11_X11_pairs_X11_pairs : Cond.selects RX11 yX11_pairs yX11_pairs ∈ kw_T := kw_in 759 (by decide +kernel) rfl
theorem cdX12_pairs : Cond.code mX12_pairs.1 mX12_pairs.2.1 mX12_pairs.2.2.1 mX12_pairs.2.2.2.1 ∈ kw_T := kw_in 1274 (by decide +kernel) rfl
theorem lbX12_pairs : lx_cb mX12_pairs 1 := ⟨cdX12_pairs, in_X12, ⟨by decide +kernel, by decide +kernel, by decide +kernel⟩, by decide, by decide⟩
theorem imX12_pairs : Cond.instanceMethod yX12_pairs ∈ kw_T := kw_in 1272 (by decide +kernel) rfl
theorem seX12_X12_pairs_X12_pairs : Cond.selects RX12 yX12_pairs yX12_pairs ∈ kw_T := kw_in 1273 (by decide +kernel) rfl
theorem llL_135 : Cond.methodLink RL 135 yX11_forgets ∈ kw_T := kw_in 771 (by decide +kernel) rfl
theorem llL_139 : Cond.methodLink RL 139 yX12_forgets ∈ kw_T := kw_in 1279 (by decide +kernel) rfl
theorem cdX11_forgets : Cond.code mX11_forgets.1 mX11_forgets.2.1 mX11_forgets.2.2.1 mX11_forgets.2.2.2.1 ∈ kw_T := kw_in 774 (by decide +kernel) rfl
theorem lbX11_forgets : lx_cb mX11_forgets 5 := ⟨cdX11_forgets, in_X11, ⟨by decide +kernel, by decide +kernel, by decide +kernel⟩, by decide, by decide⟩
theorem imX11_forgets : Cond.instanceMethod yX11_forgets ∈ kw_T := kw_in 772 (by decide +kernel) rfl
theorem seX11_X11_forgets_X11_forgets : Cond.selects RX11 yX11_forgets yX11_forgets ∈ kw_T := kw_in 773 (by decide +kernel) rfl
theorem cdX12_forgets : Cond.code mX12_forgets.1 mX12_forgets.2.1 mX12_forgets.2.2.1 mX12_forgets.2.2.2.1 ∈ kw_T := kw_in 1282 (by decide +kernel) rfl
theorem lbX12_forgets : lx_cb mX12_forgets 5 := ⟨cdX12_forgets, in_X12, ⟨by decide +kernel, by decide +kernel, by decide +kernel⟩, by decide, by decide⟩
theorem imX12_forgets : Cond.instanceMethod yX12_forgets ∈ kw_T := kw_in 1280 (by decide +kernel) rfl
theorem seX12_X12_forgets_X12_forgets : Cond.selects RX12 yX12_forgets yX12_forgets ∈ kw_T := kw_in 1281 (by decide +kernel) rfl
theorem llL_140 : Cond.methodLink RL 140 yX11_drawn ∈ kw_T := kw_in 793 (by decide +kernel) rfl
theorem llL_143 : Cond.methodLink RL 143 yX12_drawn ∈ kw_T := kw_in 1286 (by decide +kernel) rfl
theorem cdX11_drawn : Cond.code mX11_drawn.1 mX11_drawn.2.1 mX11_drawn.2.2.1 mX11_drawn.2.2.2.1 ∈ kw_T := kw_in 796 (by decide +kernel) rfl
theorem lbX11_drawn : lx_cb mX11_drawn 3 := ⟨cdX11_drawn, in_X11, ⟨by decide +kernel, by decide +kernel, by decide +kernel⟩, by decide, by decide⟩
theorem imX11_drawn : Cond.instanceMethod yX11_drawn ∈ kw_T := kw_in 794 (by decide +kernel) rfl
theorem seX11_X11_drawn_X11_drawn : Cond.selects RX11 yX11_drawn yX11_drawn ∈ kw_T := kw_in 795 (by decide +kernel) rfl
theorem cdX12_drawn : Cond.code mX12_drawn.1 mX12_drawn.2.1 mX12_drawn.2.2.1 mX12_drawn.2.2.2.1 ∈ kw_T := kw_in 1289 (by decide +kernel) rfl
theorem lbX12_drawn : lx_cb mX12_drawn 3 := ⟨cdX12_drawn, in_X12, ⟨by decide +kernel, by decide +kernel, by decide +kernel⟩, by decide, by decide⟩
theorem imX12_drawn : Cond.instanceMethod yX12_drawn ∈ kw_T := kw_in 1287 (by decide +kernel) rfl
theorem seX12_X12_drawn_X12_drawn : Cond.selects RX12 yX12_drawn yX12_drawn ∈ kw_T := kw_in 1288 (by decide +kernel) rfl
theorem llL_144 : Cond.methodLink RL 144 yX11_image ∈ kw_T := kw_in 805 (by decide +kernel) rfl
theorem llL_147 : Cond.methodLink RL 147 yX12_image ∈ kw_T := kw_in 1297 (by decide +kernel) rfl
theorem cdX11_image : Cond.code mX11_image.1 mX11_image.2.1 mX11_image.2.2.1 mX11_image.2.2.2.1 ∈ kw_T := kw_in 808 (by decide +kernel) rfl
theorem lbX11_image : lx_cb mX11_image 1 := ⟨cdX11_image, in_X11, ⟨by decide +kernel, by decide +kernel, by decide +kernel⟩, by decide, by decide⟩
theorem imX11_image : Cond.instanceMethod yX11_image ∈ kw_T := kw_in 806 (by decide +kernel) rfl
theorem seX11_X11_image_X11_image : Cond.selects RX11 yX11_image yX11_image ∈ kw_T := kw_in 807 (by decide +kernel) rfl
theorem cdX12_image : Cond.code mX12_image.1 mX12_image.2.1 mX12_image.2.2.1 mX12_image.2.2.2.1 ∈ kw_T := kw_in 1300 (by decide +kernel) rfl
theorem lbX12_image : lx_cb mX12_image 1 := ⟨cdX12_image, in_X12, ⟨by decide +kernel, by decide +kernel, by decide +kernel⟩, by decide, by decide⟩
theorem imX12_image : Cond.instanceMethod yX12_image ∈ kw_T := kw_in 1298 (by decide +kernel) rfl
theorem seX12_X12_image_X12_image : Cond.selects RX12 yX12_image yX12_image ∈ kw_T := kw_in 1299 (by decide +kernel) rfl
theorem llL_148 : Cond.methodLink RL 148 yX11_restore ∈ kw_T := kw_in 809 (by decide +kernel) rfl
theorem llL_151 : Cond.methodLink RL 151 yX12_restore ∈ kw_T := kw_in 1301 (by decide +kernel) rfl
theorem cdX11_restore : Cond.code mX11_restore.1 mX11_restore.2.1 mX11_restore.2.2.1 mX11_restore.2.2.2.1 ∈ kw_T := kw_in 812 (by decide +kernel) rfl
theorem lbX11_restore : lx_cb mX11_restore 1 := ⟨cdX11_restore, in_X11, ⟨by decide +kernel, by decide +kernel, by decide +kernel⟩, by decide, by decide⟩
theorem imX11_restore : Cond.instanceMethod yX11_restore ∈ kw_T := kw_in 810 (by decide +kernel) rfl
theorem seX11_X11_restore_X11_restore : Cond.selects RX11 yX11_restore yX11_restore ∈ kw_T := kw_in 811 (by decide +kernel) rfl
theorem cdX12_restore : Cond.code mX12_restore.1 mX12_restore.2.1 mX12_restore.2.2.1 mX12_restore.2.2.2.1 ∈ kw_T := kw_in 1304 (by decide +kernel) rfl
theorem lbX12_restore : lx_cb mX12_restore 1 := ⟨cdX12_restore, in_X12, ⟨by decide +kernel, by decide +kernel, by decide +kernel⟩, by decide, by decide⟩
theorem imX12_restore : Cond.instanceMethod yX12_restore ∈ kw_T := kw_in 1302 (by decide +kernel) rfl
theorem seX12_X12_restore_X12_restore : Cond.selects RX12 yX12_restore yX12_restore ∈ kw_T := kw_in 1303 (by decide +kernel) rfl
theorem llL_152 : Cond.methodLink RL 152 yX11_kind ∈ kw_T := kw_in 813 (by decide +kernel) rfl
theorem llL_155 : Cond.methodLink RL 155 yX12_kind ∈ kw_T := kw_in 1305 (by decide +kernel) rfl
theorem cdX11_kind : Cond.code mX11_kind.1 mX11_kind.2.1 mX11_kind.2.2.1 mX11_kind.2.2.2.1 ∈ kw_T := kw_in 816 (by decide +kernel) rfl
theorem lbX11_kind : lx_cb mX11_kind 1 := ⟨cdX11_kind, in_X11, ⟨by decide +kernel, by decide +kernel, by decide +kernel⟩, by decide, by decide⟩
theorem imX11_kind : Cond.instanceMethod yX11_kind ∈ kw_T := kw_in 814 (by decide +kernel) rfl
theorem seX11_X11_kind_X11_kind : Cond.selects RX11 yX11_kind yX11_kind ∈ kw_T := kw_in 815 (by decide +kernel) rfl
theorem cdX12_kind : Cond.code mX12_kind.1 mX12_kind.2.1 mX12_kind.2.2.1 mX12_kind.2.2.2.1 ∈ kw_T := kw_in 1308 (by decide +kernel) rfl
theorem lbX12_kind : lx_cb mX12_kind 1 := ⟨cdX12_kind, in_X12, ⟨by decide +kernel, by decide +kernel, by decide +kernel⟩, by decide, by decide⟩
theorem imX12_kind : Cond.instanceMethod yX12_kind ∈ kw_T := kw_in 1306 (by decide +kernel) rfl
theorem seX12_X12_kind_X12_kind : Cond.selects RX12 yX12_kind yX12_kind ∈ kw_T := kw_in 1307 (by decide +kernel) rfl
theorem llL_156 : Cond.methodLink RL 156 yX11_as ∈ kw_T := kw_in 835 (by decide +kernel) rfl
theorem llL_159 : Cond.methodLink RL 159 yX12_as ∈ kw_T := kw_in 1309 (by decide +kernel) rfl
theorem cdX11_as : Cond.code mX11_as.1 mX11_as.2.1 mX11_as.2.2.1 mX11_as.2.2.2.1 ∈ kw_T := kw_in 838 (by decide +kernel) rfl
theorem lbX11_as : lx_cb mX11_as 2 := ⟨cdX11_as, in_X11, ⟨by decide +kernel, by decide +kernel, by decide +kernel⟩, by decide, by decide⟩
theorem imX11_as : Cond.instanceMethod yX11_as ∈ kw_T := kw_in 836 (by decide +kernel) rfl
theorem seX11_X11_as_X11_as : Cond.selects RX11 yX11_as yX11_as ∈ kw_T := kw_in 837 (by decide +kernel) rfl
theorem cdX12_as : Cond.code mX12_as.1 mX12_as.2.1 mX12_as.2.2.1 mX12_as.2.2.2.1 ∈ kw_T := kw_in 1312 (by decide +kernel) rfl
theorem lbX12_as : lx_cb mX12_as 2 := ⟨cdX12_as, in_X12, ⟨by decide +kernel, by decide +kernel, by decide +kernel⟩, by decide, by decide⟩
theorem imX12_as : Cond.instanceMethod yX12_as ∈ kw_T := kw_in 1310 (by decide +kernel) rfl
theorem seX12_X12_as_X12_as : Cond.selects RX12 yX12_as yX12_as ∈ kw_T := kw_in 1311 (by decide +kernel) rfl
theorem llL_160 : Cond.methodLink RL 160 yX11_ask ∈ kw_T := kw_in 842 (by decide +kernel) rfl
theorem llL_163 : Cond.methodLink RL 163 yX12_ask ∈ kw_T := kw_in 1317 (by decide +kernel) rfl
theorem cdX11_ask : Cond.code mX11_ask.1 mX11_ask.2.1 mX11_ask.2.2.1 mX11_ask.2.2.2.1 ∈ kw_T := kw_in 845 (by decide +kernel) rfl
theorem lbX11_ask : lx_cb mX11_ask 2 := ⟨cdX11_ask, in_X11, ⟨by decide +kernel, by decide +kernel, by decide +kernel⟩, by decide, by decide⟩
theorem imX11_ask : Cond.instanceMethod yX11_ask ∈ kw_T := kw_in 843 (by decide +kernel) rfl
theorem seX11_X11_ask_X11_ask : Cond.selects RX11 yX11_ask yX11_ask ∈ kw_T := kw_in 844 (by decide +kernel) rfl
theorem cdX12_ask : Cond.code mX12_ask.1 mX12_ask.2.1 mX12_ask.2.2.1 mX12_ask.2.2.2.1 ∈ kw_T := kw_in 1320 (by decide +kernel) rfl
theorem lbX12_ask : lx_cb mX12_ask 2 := ⟨cdX12_ask, in_X12, ⟨by decide +kernel, by decide +kernel, by decide +kernel⟩, by decide, by decide⟩
theorem imX12_ask : Cond.instanceMethod yX12_ask ∈ kw_T := kw_in 1318 (by decide +kernel) rfl
theorem seX12_X12_ask_X12_ask : Cond.selects RX12 yX12_ask yX12_ask ∈ kw_T := kw_in 1319 (by decide +kernel) rfl
theorem llL_164 : Cond.methodLink RL 164 yX11_trace ∈ kw_T := kw_in 897 (by decide +kernel) rfl
theorem llL_167 : Cond.methodLink RL 167 yX12_trace ∈ kw_T := kw_in 1357 (by decide +kernel) rfl
theorem cdX11_trace : Cond.code mX11_trace.1 mX11_trace.2.1 mX11_trace.2.2.1 mX11_trace.2.2.2.1 ∈ kw_T := kw_in 900 (by decide +kernel) rfl
theorem lbX11_trace : lx_cb mX11_trace 1 := ⟨cdX11_trace, in_X11, ⟨by decide +kernel, by decide +kernel, by decide +kernel⟩, by decide, by decide⟩
theorem imX11_trace : Cond.instanceMethod yX11_trace ∈ kw_T := kw_in 898 (by decide +kernel) rfl
theorem seX11_X11_trace_X11_trace : Cond.selects RX11 yX11_trace yX11_trace ∈ kw_T := kw_in 899 (by decide +kernel) rfl
theorem cdX12_trace : Cond.code mX12_trace.1 mX12_trace.2.1 mX12_trace.2.2.1 mX12_trace.2.2.2.1 ∈ kw_T := kw_in 1360 (by decide +kernel) rfl
theorem lbX12_trace : lx_cb mX12_trace 1 := ⟨cdX12_trace, in_X12, ⟨by decide +kernel, by decide +kernel, by decide +kernel⟩, by decide, by decide⟩
theorem imX12_trace : Cond.instanceMethod yX12_trace ∈ kw_T := kw_in 1358 (by decide +kernel) rfl
theorem seX12_X12_trace_X12_trace : Cond.selects RX12 yX12_trace yX12_trace ∈ kw_T := kw_in 1359 (by decide +kernel) rfl
theorem llL_168 : Cond.methodLink RL 168 yX11_count ∈ kw_T := kw_in 906 (by decide +kernel) rfl
theorem llL_171 : Cond.methodLink RL 171 yX12_count ∈ kw_T := kw_in 1361 (by decide +kernel) rfl
theorem cdX11_count : Cond.code mX11_count.1 mX11_count.2.1 mX11_count.2.2.1 mX11_count.2.2.2.1 ∈ kw_T := kw_in 909 (by decide +kernel) rfl
theorem lbX11_count : lx_cb mX11_count 1 := ⟨cdX11_count, in_X11, ⟨by decide +kernel, by decide +kernel, by decide +kernel⟩, by decide, by decide⟩
theorem imX11_count : Cond.instanceMethod yX11_count ∈ kw_T := kw_in 907 (by decide +kernel) rfl
theorem seX11_X11_count_X11_count : Cond.selects RX11 yX11_count yX11_count ∈ kw_T := kw_in 908 (by decide +kernel) rfl
theorem cdX12_count : Cond.code mX12_count.1 mX12_count.2.1 mX12_count.2.2.1 mX12_count.2.2.2.1 ∈ kw_T := kw_in 1364 (by decide +kernel) rfl
theorem lbX12_count : lx_cb mX12_count 1 := ⟨cdX12_count, in_X12, ⟨by decide +kernel, by decide +kernel, by decide +kernel⟩, by decide, by decide⟩
theorem imX12_count : Cond.instanceMethod yX12_count ∈ kw_T := kw_in 1362 (by decide +kernel) rfl
theorem seX12_X12_count_X12_count : Cond.selects RX12 yX12_count yX12_count ∈ kw_T := kw_in 1363 (by decide +kernel) rfl
theorem llL_172 : Cond.methodLink RL 172 yX11_status ∈ kw_T := kw_in 919 (by decide +kernel) rfl
theorem llL_175 : Cond.methodLink RL 175 yX12_status ∈ kw_T := kw_in 1365 (by decide +kernel) rfl
theorem cdX11_status : Cond.code mX11_status.1 mX11_status.2.1 mX11_status.2.2.1 mX11_status.2.2.2.1 ∈ kw_T := kw_in 922 (by decide +kernel) rfl
theorem lbX11_status : lx_cb mX11_status 0 := ⟨cdX11_status, in_X11, ⟨by decide +kernel, by decide +kernel, by decide +kernel⟩, by decide, by decide⟩
theorem imX11_status : Cond.instanceMethod yX11_status ∈ kw_T := kw_in 920 (by decide +kernel) rfl
theorem seX11_X11_status_X11_status : Cond.selects RX11 yX11_status yX11_status ∈ kw_T := kw_in 921 (by decide +kernel) rfl
theorem cdX12_status : Cond.code mX12_status.1 mX12_status.2.1 mX12_status.2.2.1 mX12_status.2.2.2.1 ∈ kw_T := kw_in 1368 (by decide +kernel) rfl
theorem lbX12_status : lx_cb mX12_status 0 := ⟨cdX12_status, in_X12, ⟨by decide +kernel, by decide +kernel, by decide +kernel⟩, by decide, by decide⟩
theorem imX12_status : Cond.instanceMethod yX12_status ∈ kw_T := kw_in 1366 (by decide +kernel) rfl
theorem seX12_X12_status_X12_status : Cond.selects RX12 yX12_status yX12_status ∈ kw_T := kw_in 1367 (by decide +kernel) rfl
def lx_ag_row (Inv : Nat → kw_H → Prop) : Prop := ∀ (j : Nat) (hp : kw_H), Inv j hp → j < 64 → ∀ (a1 a2 a3 : Int32), ∃ (r : Int32) (hp1 : kw_H) (hp2 : kw_H), X11_row_F hp 0 a1 a2 a3 = some (r, hp1) ∧ (∃ fs, hp1[38]? = some (.inr (11, fs))) ∧ X12_row_F hp1 38 a1 a2 a3 = some (r, hp2) ∧ Inv (j + 1) hp2
set_option maxRecDepth 100000 in
set_option maxHeartbeats 4000000 in
theorem lx_arm_0 {G : kw_G} {p : Program} {e : Env} {s : State} {m : MethodId} {below : List Frame} {meth : Method} {c : Code} {b L : Nat} {xs : Nat → Int32} (Inv : Nat → kw_H → Prop) (hO : ∀ j hp, Inv j hp → ∃ fs, hp[0]? = some (.inr (10, fs))) (hag : lx_ag_row Inv) (hC : lx_C G p s m #[Value.ref b] c) (hX : va_X b L xs s s.heap) (hbl : b < s.heap.size) {i j : Nat} (hi : i + 6 ≤ L) (hL : L ≤ 384) {hp : kw_H} {H : Heap} {locs : List Loc} {ls : Array Slot} (hI : Inv j hp) (hj : j < 64) (hR : kw_R G hp H) (hS : va_S (fun q => G.2.1 ≤ q) s.heap H locs) (hl : lv_has ls 4 [(0, .ref b), (1, .ref (G.2.1 + 0)), (2, .ref (G.2.1 + 38)), (3, .int (nI i))]) (k : ∀ (hp2 : kw_H) (H2 : Heap) (locs2 : List Loc), Inv (j + 1) hp2 → kw_R G hp2 H2 → va_S (fun q => G.2.1 ≤ q) s.heap H2 locs2 → W p G.1 e room_1 s m #[Value.ref b] below meth c H2 locs2 (Array.size H2 - s.heap.size) (1848 * (Array.size H2 - s.heap.size)) (lw_Z below #[Value.ref b] s) (F0 m 1392 ls [])) : W p G.1 e room_1 s m #[Value.ref b] below meth c H locs (Array.size H - s.heap.size) (1848 * (Array.size H - s.heap.size)) (lw_Z below #[Value.ref b] s) (F0 m 204 ls []) := by
  obtain ⟨hx, hb, hml, hown, hts, hZ, hN⟩ := id hC
  obtain ⟨r, hp1, hp2, e1, ⟨fs1, o1⟩, e2, hI2⟩ := hag j hp hI hj (xs (i + 1)) (xs (i + 2)) (xs (i + 3))
  obtain ⟨fs0, o0⟩ := hO j hp hI
  refine lv_aload_n hx hb dL_law_204 rfl (lv_at hl 1 rfl) ?_
  refine lx_arg hC hX hbl (t := 1) dL_law_205 dL_law_206 dL_law_207 (by decide) dL_law_208 dL_law_209 (by omega) (by omega) hS (lv_at hl 0 rfl) (lv_at hl 3 rfl) ?_
  refine lx_arg hC hX hbl (t := 2) dL_law_210 dL_law_211 dL_law_212 (by decide) dL_law_213 dL_law_214 (by omega) (by omega) hS (lv_at hl 0 rfl) (lv_at hl 3 rfl) ?_
  refine lx_arg hC hX hbl (t := 3) dL_law_215 dL_law_216 dL_law_217 (by decide) dL_law_218 dL_law_219 (by omega) (by omega) hS (lv_at hl 0 rfl) (lv_at hl 3 rfl) ?_
  refine lx_callV (As := [xs (i + 1), xs (i + 2), xs (i + 3)]) (a := 0) (rest := []) kcX11 lbX11_row llL_13 imX11_row seX11_X11_row_X11_row rfl rfl (Nat.le_of_ble_eq_true rfl) dL_law_220 o0 (X11_row_c G hp 0 (xs (i + 1)) (xs (i + 2)) (xs (i + 3)) _ e1) hC hR hS hl.1 (fun rv hh H1 locs1 hq hR1 hS1 => ?_)
  obtain ⟨hq1, hq2⟩ := hq
  subst hq1
  subst hq2
  show W p G.1 e room_1 s m #[Value.ref b] below meth c H1 locs1 (Array.size H1 - s.heap.size) (1848 * (Array.size H1 - s.heap.size)) (lw_Z below #[Value.ref b] s) (F0 m 223 ls [.int r])
  refine lv_aload_n hx hb dL_law_223 rfl (lv_at hl 2 rfl) ?_
  refine lx_arg hC hX hbl (t := 1) dL_law_224 dL_law_225 dL_law_226 (by decide) dL_law_227 dL_law_228 (by omega) (by omega) hS1 (lv_at hl 0 rfl) (lv_at hl 3 rfl) ?_
  refine lx_arg hC hX hbl (t := 2) dL_law_229 dL_law_230 dL_law_231 (by decide) dL_law_232 dL_law_233 (by omega) (by omega) hS1 (lv_at hl 0 rfl) (lv_at hl 3 rfl) ?_
  refine lx_arg hC hX hbl (t := 3) dL_law_234 dL_law_235 dL_law_236 (by decide) dL_law_237 dL_law_238 (by omega) (by omega) hS1 (lv_at hl 0 rfl) (lv_at hl 3 rfl) ?_
  refine lx_callV (As := [xs (i + 1), xs (i + 2), xs (i + 3)]) (a := 38) (rest := [.int r]) kcX12 lbX12_row llL_17 imX12_row seX12_X12_row_X12_row rfl rfl (Nat.le_of_ble_eq_true rfl) dL_law_239 o1 (X12_row_c G _ 38 (xs (i + 1)) (xs (i + 2)) (xs (i + 3)) _ e2) hC hR1 hS1 hl.1 (fun rv hh H2 locs2 hq hR2 hS2 => ?_)
  obtain ⟨hq1, hq2⟩ := hq
  subst hq1
  subst hq2
  show W p G.1 e room_1 s m #[Value.ref b] below meth c H2 locs2 (Array.size H2 - s.heap.size) (1848 * (Array.size H2 - s.heap.size)) (lw_Z below #[Value.ref b] s) (F0 m 242 ls [.int r, .int r])
  refine lv_icmp_eq (tgt := 1392) hx hb dL_law_242 (by decide) (fun _ => k _ _ _ hI2 hR2 hS2) (fun hne => absurd rfl hne)
def lx_ag_set (Inv : Nat → kw_H → Prop) : Prop := ∀ (j : Nat) (hp : kw_H), Inv j hp → j < 64 → ∀ (a1 a2 a3 : Int32), ∃ (r : Int32) (hp1 : kw_H) (hp2 : kw_H), X11_set_F hp 0 a1 a2 a3 = some (r, hp1) ∧ (∃ fs, hp1[38]? = some (.inr (11, fs))) ∧ X12_set_F hp1 38 a1 a2 a3 = some (r, hp2) ∧ Inv (j + 1) hp2
set_option maxRecDepth 100000 in
set_option maxHeartbeats 4000000 in
theorem lx_arm_1 {G : kw_G} {p : Program} {e : Env} {s : State} {m : MethodId} {below : List Frame} {meth : Method} {c : Code} {b L : Nat} {xs : Nat → Int32} (Inv : Nat → kw_H → Prop) (hO : ∀ j hp, Inv j hp → ∃ fs, hp[0]? = some (.inr (10, fs))) (hag : lx_ag_set Inv) (hC : lx_C G p s m #[Value.ref b] c) (hX : va_X b L xs s s.heap) (hbl : b < s.heap.size) {i j : Nat} (hi : i + 6 ≤ L) (hL : L ≤ 384) {hp : kw_H} {H : Heap} {locs : List Loc} {ls : Array Slot} (hI : Inv j hp) (hj : j < 64) (hR : kw_R G hp H) (hS : va_S (fun q => G.2.1 ≤ q) s.heap H locs) (hl : lv_has ls 4 [(0, .ref b), (1, .ref (G.2.1 + 0)), (2, .ref (G.2.1 + 38)), (3, .int (nI i))]) (k : ∀ (hp2 : kw_H) (H2 : Heap) (locs2 : List Loc), Inv (j + 1) hp2 → kw_R G hp2 H2 → va_S (fun q => G.2.1 ≤ q) s.heap H2 locs2 → W p G.1 e room_1 s m #[Value.ref b] below meth c H2 locs2 (Array.size H2 - s.heap.size) (1848 * (Array.size H2 - s.heap.size)) (lw_Z below #[Value.ref b] s) (F0 m 1392 ls [])) : W p G.1 e room_1 s m #[Value.ref b] below meth c H locs (Array.size H - s.heap.size) (1848 * (Array.size H - s.heap.size)) (lw_Z below #[Value.ref b] s) (F0 m 247 ls []) := by
  obtain ⟨hx, hb, hml, hown, hts, hZ, hN⟩ := id hC
  obtain ⟨r, hp1, hp2, e1, ⟨fs1, o1⟩, e2, hI2⟩ := hag j hp hI hj (xs (i + 1)) (xs (i + 2)) (xs (i + 3))
  obtain ⟨fs0, o0⟩ := hO j hp hI
  refine lv_aload_n hx hb dL_law_247 rfl (lv_at hl 1 rfl) ?_
  refine lx_arg hC hX hbl (t := 1) dL_law_248 dL_law_249 dL_law_250 (by decide) dL_law_251 dL_law_252 (by omega) (by omega) hS (lv_at hl 0 rfl) (lv_at hl 3 rfl) ?_
  refine lx_arg hC hX hbl (t := 2) dL_law_253 dL_law_254 dL_law_255 (by decide) dL_law_256 dL_law_257 (by omega) (by omega) hS (lv_at hl 0 rfl) (lv_at hl 3 rfl) ?_
  refine lx_arg hC hX hbl (t := 3) dL_law_258 dL_law_259 dL_law_260 (by decide) dL_law_261 dL_law_262 (by omega) (by omega) hS (lv_at hl 0 rfl) (lv_at hl 3 rfl) ?_
  refine lx_callV (As := [xs (i + 1), xs (i + 2), xs (i + 3)]) (a := 0) (rest := []) kcX11 lbX11_set llL_18 imX11_set seX11_X11_set_X11_set rfl rfl (Nat.le_of_ble_eq_true rfl) dL_law_263 o0 (X11_set_c G hp 0 (xs (i + 1)) (xs (i + 2)) (xs (i + 3)) _ e1) hC hR hS hl.1 (fun rv hh H1 locs1 hq hR1 hS1 => ?_)
  obtain ⟨hq1, hq2⟩ := hq
  subst hq1
  subst hq2
  show W p G.1 e room_1 s m #[Value.ref b] below meth c H1 locs1 (Array.size H1 - s.heap.size) (1848 * (Array.size H1 - s.heap.size)) (lw_Z below #[Value.ref b] s) (F0 m 266 ls [.int r])
  refine lv_aload_n hx hb dL_law_266 rfl (lv_at hl 2 rfl) ?_
  refine lx_arg hC hX hbl (t := 1) dL_law_267 dL_law_268 dL_law_269 (by decide) dL_law_270 dL_law_271 (by omega) (by omega) hS1 (lv_at hl 0 rfl) (lv_at hl 3 rfl) ?_
  refine lx_arg hC hX hbl (t := 2) dL_law_272 dL_law_273 dL_law_274 (by decide) dL_law_275 dL_law_276 (by omega) (by omega) hS1 (lv_at hl 0 rfl) (lv_at hl 3 rfl) ?_
  refine lx_arg hC hX hbl (t := 3) dL_law_277 dL_law_278 dL_law_279 (by decide) dL_law_280 dL_law_281 (by omega) (by omega) hS1 (lv_at hl 0 rfl) (lv_at hl 3 rfl) ?_
  refine lx_callV (As := [xs (i + 1), xs (i + 2), xs (i + 3)]) (a := 38) (rest := [.int r]) kcX12 lbX12_set llL_21 imX12_set seX12_X12_set_X12_set rfl rfl (Nat.le_of_ble_eq_true rfl) dL_law_282 o1 (X12_set_c G _ 38 (xs (i + 1)) (xs (i + 2)) (xs (i + 3)) _ e2) hC hR1 hS1 hl.1 (fun rv hh H2 locs2 hq hR2 hS2 => ?_)
  obtain ⟨hq1, hq2⟩ := hq
  subst hq1
  subst hq2
  show W p G.1 e room_1 s m #[Value.ref b] below meth c H2 locs2 (Array.size H2 - s.heap.size) (1848 * (Array.size H2 - s.heap.size)) (lw_Z below #[Value.ref b] s) (F0 m 285 ls [.int r, .int r])
  refine lv_icmp_eq (tgt := 1392) hx hb dL_law_285 (by decide) (fun _ => k _ _ _ hI2 hR2 hS2) (fun hne => absurd rfl hne)
def lx_ag_copy (Inv : Nat → kw_H → Prop) : Prop := ∀ (j : Nat) (hp : kw_H), Inv j hp → j < 64 → ∀ (a1 a2 a3 a4 a5 : Int32), ∃ (r : Int32) (hp1 : kw_H) (hp2 : kw_H), X11_copy_F hp 0 a1 a2 a3 a4 a5 = some (r, hp1) ∧ (∃ fs, hp1[38]? = some (.inr (11, fs))) ∧ X12_copy_F hp1 38 a1 a2 a3 a4 a5 = some (r, hp2) ∧ Inv (j + 1) hp2
set_option maxRecDepth 100000 in
set_option maxHeartbeats 4000000 in
theorem lx_arm_2 {G : kw_G} {p : Program} {e : Env} {s : State} {m : MethodId} {below : List Frame} {meth : Method} {c : Code} {b L : Nat} {xs : Nat → Int32} (Inv : Nat → kw_H → Prop) (hO : ∀ j hp, Inv j hp → ∃ fs, hp[0]? = some (.inr (10, fs))) (hag : lx_ag_copy Inv) (hC : lx_C G p s m #[Value.ref b] c) (hX : va_X b L xs s s.heap) (hbl : b < s.heap.size) {i j : Nat} (hi : i + 6 ≤ L) (hL : L ≤ 384) {hp : kw_H} {H : Heap} {locs : List Loc} {ls : Array Slot} (hI : Inv j hp) (hj : j < 64) (hR : kw_R G hp H) (hS : va_S (fun q => G.2.1 ≤ q) s.heap H locs) (hl : lv_has ls 4 [(0, .ref b), (1, .ref (G.2.1 + 0)), (2, .ref (G.2.1 + 38)), (3, .int (nI i))]) (k : ∀ (hp2 : kw_H) (H2 : Heap) (locs2 : List Loc), Inv (j + 1) hp2 → kw_R G hp2 H2 → va_S (fun q => G.2.1 ≤ q) s.heap H2 locs2 → W p G.1 e room_1 s m #[Value.ref b] below meth c H2 locs2 (Array.size H2 - s.heap.size) (1848 * (Array.size H2 - s.heap.size)) (lw_Z below #[Value.ref b] s) (F0 m 1392 ls [])) : W p G.1 e room_1 s m #[Value.ref b] below meth c H locs (Array.size H - s.heap.size) (1848 * (Array.size H - s.heap.size)) (lw_Z below #[Value.ref b] s) (F0 m 290 ls []) := by
  obtain ⟨hx, hb, hml, hown, hts, hZ, hN⟩ := id hC
  obtain ⟨r, hp1, hp2, e1, ⟨fs1, o1⟩, e2, hI2⟩ := hag j hp hI hj (xs (i + 1)) (xs (i + 2)) (xs (i + 3)) (xs (i + 4)) (xs (i + 5))
  obtain ⟨fs0, o0⟩ := hO j hp hI
  refine lv_aload_n hx hb dL_law_290 rfl (lv_at hl 1 rfl) ?_
  refine lx_arg hC hX hbl (t := 1) dL_law_291 dL_law_292 dL_law_293 (by decide) dL_law_294 dL_law_295 (by omega) (by omega) hS (lv_at hl 0 rfl) (lv_at hl 3 rfl) ?_
  refine lx_arg hC hX hbl (t := 2) dL_law_296 dL_law_297 dL_law_298 (by decide) dL_law_299 dL_law_300 (by omega) (by omega) hS (lv_at hl 0 rfl) (lv_at hl 3 rfl) ?_
  refine lx_arg hC hX hbl (t := 3) dL_law_301 dL_law_302 dL_law_303 (by decide) dL_law_304 dL_law_305 (by omega) (by omega) hS (lv_at hl 0 rfl) (lv_at hl 3 rfl) ?_
  refine lx_arg hC hX hbl (t := 4) dL_law_306 dL_law_307 dL_law_308 (by decide) dL_law_309 dL_law_310 (by omega) (by omega) hS (lv_at hl 0 rfl) (lv_at hl 3 rfl) ?_
  refine lx_arg hC hX hbl (t := 5) dL_law_311 dL_law_312 dL_law_313 (by decide) dL_law_314 dL_law_315 (by omega) (by omega) hS (lv_at hl 0 rfl) (lv_at hl 3 rfl) ?_
  refine lx_callV (As := [xs (i + 1), xs (i + 2), xs (i + 3), xs (i + 4), xs (i + 5)]) (a := 0) (rest := []) kcX11 lbX11_copy llL_22 imX11_copy seX11_X11_copy_X11_copy rfl rfl (Nat.le_of_ble_eq_true rfl) dL_law_316 o0 (X11_copy_c G hp 0 (xs (i + 1)) (xs (i + 2)) (xs (i + 3)) (xs (i + 4)) (xs (i + 5)) _ e1) hC hR hS hl.1 (fun rv hh H1 locs1 hq hR1 hS1 => ?_)
  obtain ⟨hq1, hq2⟩ := hq
  subst hq1
  subst hq2
  show W p G.1 e room_1 s m #[Value.ref b] below meth c H1 locs1 (Array.size H1 - s.heap.size) (1848 * (Array.size H1 - s.heap.size)) (lw_Z below #[Value.ref b] s) (F0 m 319 ls [.int r])
  refine lv_aload_n hx hb dL_law_319 rfl (lv_at hl 2 rfl) ?_
  refine lx_arg hC hX hbl (t := 1) dL_law_320 dL_law_321 dL_law_322 (by decide) dL_law_323 dL_law_324 (by omega) (by omega) hS1 (lv_at hl 0 rfl) (lv_at hl 3 rfl) ?_
  refine lx_arg hC hX hbl (t := 2) dL_law_325 dL_law_326 dL_law_327 (by decide) dL_law_328 dL_law_329 (by omega) (by omega) hS1 (lv_at hl 0 rfl) (lv_at hl 3 rfl) ?_
  refine lx_arg hC hX hbl (t := 3) dL_law_330 dL_law_331 dL_law_332 (by decide) dL_law_333 dL_law_334 (by omega) (by omega) hS1 (lv_at hl 0 rfl) (lv_at hl 3 rfl) ?_
  refine lx_arg hC hX hbl (t := 4) dL_law_335 dL_law_336 dL_law_337 (by decide) dL_law_338 dL_law_339 (by omega) (by omega) hS1 (lv_at hl 0 rfl) (lv_at hl 3 rfl) ?_
  refine lx_arg hC hX hbl (t := 5) dL_law_340 dL_law_341 dL_law_342 (by decide) dL_law_343 dL_law_344 (by omega) (by omega) hS1 (lv_at hl 0 rfl) (lv_at hl 3 rfl) ?_
  refine lx_callV (As := [xs (i + 1), xs (i + 2), xs (i + 3), xs (i + 4), xs (i + 5)]) (a := 38) (rest := [.int r]) kcX12 lbX12_copy llL_26 imX12_copy seX12_X12_copy_X12_copy rfl rfl (Nat.le_of_ble_eq_true rfl) dL_law_345 o1 (X12_copy_c G _ 38 (xs (i + 1)) (xs (i + 2)) (xs (i + 3)) (xs (i + 4)) (xs (i + 5)) _ e2) hC hR1 hS1 hl.1 (fun rv hh H2 locs2 hq hR2 hS2 => ?_)
  obtain ⟨hq1, hq2⟩ := hq
  subst hq1
  subst hq2
  show W p G.1 e room_1 s m #[Value.ref b] below meth c H2 locs2 (Array.size H2 - s.heap.size) (1848 * (Array.size H2 - s.heap.size)) (lw_Z below #[Value.ref b] s) (F0 m 348 ls [.int r, .int r])
  refine lv_icmp_eq (tgt := 1392) hx hb dL_law_348 (by decide) (fun _ => k _ _ _ hI2 hR2 hS2) (fun hne => absurd rfl hne)
def lx_ag_drop (Inv : Nat → kw_H → Prop) : Prop := ∀ (j : Nat) (hp : kw_H), Inv j hp → j < 64 → ∀ (a1 : Int32), ∃ (r : Int32) (hp1 : kw_H) (hp2 : kw_H), X11_drop_F hp 0 a1 = some (r, hp1) ∧ (∃ fs, hp1[38]? = some (.inr (11, fs))) ∧ X12_drop_F hp1 38 a1 = some (r, hp2) ∧ Inv (j + 1) hp2
set_option maxRecDepth 100000 in
set_option maxHeartbeats 4000000 in
theorem lx_arm_3 {G : kw_G} {p : Program} {e : Env} {s : State} {m : MethodId} {below : List Frame} {meth : Method} {c : Code} {b L : Nat} {xs : Nat → Int32} (Inv : Nat → kw_H → Prop) (hO : ∀ j hp, Inv j hp → ∃ fs, hp[0]? = some (.inr (10, fs))) (hag : lx_ag_drop Inv) (hC : lx_C G p s m #[Value.ref b] c) (hX : va_X b L xs s s.heap) (hbl : b < s.heap.size) {i j : Nat} (hi : i + 6 ≤ L) (hL : L ≤ 384) {hp : kw_H} {H : Heap} {locs : List Loc} {ls : Array Slot} (hI : Inv j hp) (hj : j < 64) (hR : kw_R G hp H) (hS : va_S (fun q => G.2.1 ≤ q) s.heap H locs) (hl : lv_has ls 4 [(0, .ref b), (1, .ref (G.2.1 + 0)), (2, .ref (G.2.1 + 38)), (3, .int (nI i))]) (k : ∀ (hp2 : kw_H) (H2 : Heap) (locs2 : List Loc), Inv (j + 1) hp2 → kw_R G hp2 H2 → va_S (fun q => G.2.1 ≤ q) s.heap H2 locs2 → W p G.1 e room_1 s m #[Value.ref b] below meth c H2 locs2 (Array.size H2 - s.heap.size) (1848 * (Array.size H2 - s.heap.size)) (lw_Z below #[Value.ref b] s) (F0 m 1392 ls [])) : W p G.1 e room_1 s m #[Value.ref b] below meth c H locs (Array.size H - s.heap.size) (1848 * (Array.size H - s.heap.size)) (lw_Z below #[Value.ref b] s) (F0 m 353 ls []) := by
  obtain ⟨hx, hb, hml, hown, hts, hZ, hN⟩ := id hC
  obtain ⟨r, hp1, hp2, e1, ⟨fs1, o1⟩, e2, hI2⟩ := hag j hp hI hj (xs (i + 1))
  obtain ⟨fs0, o0⟩ := hO j hp hI
  refine lv_aload_n hx hb dL_law_353 rfl (lv_at hl 1 rfl) ?_
  refine lx_arg hC hX hbl (t := 1) dL_law_354 dL_law_355 dL_law_356 (by decide) dL_law_357 dL_law_358 (by omega) (by omega) hS (lv_at hl 0 rfl) (lv_at hl 3 rfl) ?_
  refine lx_callV (As := [xs (i + 1)]) (a := 0) (rest := []) kcX11 lbX11_drop llL_27 imX11_drop seX11_X11_drop_X11_drop rfl rfl (Nat.le_of_ble_eq_true rfl) dL_law_359 o0 (X11_drop_c G hp 0 (xs (i + 1)) _ e1) hC hR hS hl.1 (fun rv hh H1 locs1 hq hR1 hS1 => ?_)
  obtain ⟨hq1, hq2⟩ := hq
  subst hq1
  subst hq2
  show W p G.1 e room_1 s m #[Value.ref b] below meth c H1 locs1 (Array.size H1 - s.heap.size) (1848 * (Array.size H1 - s.heap.size)) (lw_Z below #[Value.ref b] s) (F0 m 362 ls [.int r])
  refine lv_aload_n hx hb dL_law_362 rfl (lv_at hl 2 rfl) ?_
  refine lx_arg hC hX hbl (t := 1) dL_law_363 dL_law_364 dL_law_365 (by decide) dL_law_366 dL_law_367 (by omega) (by omega) hS1 (lv_at hl 0 rfl) (lv_at hl 3 rfl) ?_
  refine lx_callV (As := [xs (i + 1)]) (a := 38) (rest := [.int r]) kcX12 lbX12_drop llL_31 imX12_drop seX12_X12_drop_X12_drop rfl rfl (Nat.le_of_ble_eq_true rfl) dL_law_368 o1 (X12_drop_c G _ 38 (xs (i + 1)) _ e2) hC hR1 hS1 hl.1 (fun rv hh H2 locs2 hq hR2 hS2 => ?_)
  obtain ⟨hq1, hq2⟩ := hq
  subst hq1
  subst hq2
  show W p G.1 e room_1 s m #[Value.ref b] below meth c H2 locs2 (Array.size H2 - s.heap.size) (1848 * (Array.size H2 - s.heap.size)) (lw_Z below #[Value.ref b] s) (F0 m 371 ls [.int r, .int r])
  refine lv_icmp_eq (tgt := 1392) hx hb dL_law_371 (by decide) (fun _ => k _ _ _ hI2 hR2 hS2) (fun hne => absurd rfl hne)
def lx_ag_feed (Inv : Nat → kw_H → Prop) : Prop := ∀ (j : Nat) (hp : kw_H), Inv j hp → j < 64 → ∀ (a1 : Int32), ∃ (r : Int32) (hp1 : kw_H) (hp2 : kw_H), X11_feed_F hp 0 a1 = some (r, hp1) ∧ (∃ fs, hp1[38]? = some (.inr (11, fs))) ∧ X12_feed_F hp1 38 a1 = some (r, hp2) ∧ Inv (j + 1) hp2
set_option maxRecDepth 100000 in
set_option maxHeartbeats 4000000 in
theorem lx_arm_4 {G : kw_G} {p : Program} {e : Env} {s : State} {m : MethodId} {below : List Frame} {meth : Method} {c : Code} {b L : Nat} {xs : Nat → Int32} (Inv : Nat → kw_H → Prop) (hO : ∀ j hp, Inv j hp → ∃ fs, hp[0]? = some (.inr (10, fs))) (hag : lx_ag_feed Inv) (hC : lx_C G p s m #[Value.ref b] c) (hX : va_X b L xs s s.heap) (hbl : b < s.heap.size) {i j : Nat} (hi : i + 6 ≤ L) (hL : L ≤ 384) {hp : kw_H} {H : Heap} {locs : List Loc} {ls : Array Slot} (hI : Inv j hp) (hj : j < 64) (hR : kw_R G hp H) (hS : va_S (fun q => G.2.1 ≤ q) s.heap H locs) (hl : lv_has ls 4 [(0, .ref b), (1, .ref (G.2.1 + 0)), (2, .ref (G.2.1 + 38)), (3, .int (nI i))]) (k : ∀ (hp2 : kw_H) (H2 : Heap) (locs2 : List Loc), Inv (j + 1) hp2 → kw_R G hp2 H2 → va_S (fun q => G.2.1 ≤ q) s.heap H2 locs2 → W p G.1 e room_1 s m #[Value.ref b] below meth c H2 locs2 (Array.size H2 - s.heap.size) (1848 * (Array.size H2 - s.heap.size)) (lw_Z below #[Value.ref b] s) (F0 m 1392 ls [])) : W p G.1 e room_1 s m #[Value.ref b] below meth c H locs (Array.size H - s.heap.size) (1848 * (Array.size H - s.heap.size)) (lw_Z below #[Value.ref b] s) (F0 m 376 ls []) := by
  obtain ⟨hx, hb, hml, hown, hts, hZ, hN⟩ := id hC
  obtain ⟨r, hp1, hp2, e1, ⟨fs1, o1⟩, e2, hI2⟩ := hag j hp hI hj (xs (i + 1))
  obtain ⟨fs0, o0⟩ := hO j hp hI
  refine lv_aload_n hx hb dL_law_376 rfl (lv_at hl 1 rfl) ?_
  refine lx_arg hC hX hbl (t := 1) dL_law_377 dL_law_378 dL_law_379 (by decide) dL_law_380 dL_law_381 (by omega) (by omega) hS (lv_at hl 0 rfl) (lv_at hl 3 rfl) ?_
  refine lx_callV (As := [xs (i + 1)]) (a := 0) (rest := []) kcX11 lbX11_feed llL_32 imX11_feed seX11_X11_feed_X11_feed rfl rfl (Nat.le_of_ble_eq_true rfl) dL_law_382 o0 (X11_feed_c G hp 0 (xs (i + 1)) _ e1) hC hR hS hl.1 (fun rv hh H1 locs1 hq hR1 hS1 => ?_)
  obtain ⟨hq1, hq2⟩ := hq
  subst hq1
  subst hq2
  show W p G.1 e room_1 s m #[Value.ref b] below meth c H1 locs1 (Array.size H1 - s.heap.size) (1848 * (Array.size H1 - s.heap.size)) (lw_Z below #[Value.ref b] s) (F0 m 385 ls [.int r])
  refine lv_aload_n hx hb dL_law_385 rfl (lv_at hl 2 rfl) ?_
  refine lx_arg hC hX hbl (t := 1) dL_law_386 dL_law_387 dL_law_388 (by decide) dL_law_389 dL_law_390 (by omega) (by omega) hS1 (lv_at hl 0 rfl) (lv_at hl 3 rfl) ?_
  refine lx_callV (As := [xs (i + 1)]) (a := 38) (rest := [.int r]) kcX12 lbX12_feed llL_35 imX12_feed seX12_X12_feed_X12_feed rfl rfl (Nat.le_of_ble_eq_true rfl) dL_law_391 o1 (X12_feed_c G _ 38 (xs (i + 1)) _ e2) hC hR1 hS1 hl.1 (fun rv hh H2 locs2 hq hR2 hS2 => ?_)
  obtain ⟨hq1, hq2⟩ := hq
  subst hq1
  subst hq2
  show W p G.1 e room_1 s m #[Value.ref b] below meth c H2 locs2 (Array.size H2 - s.heap.size) (1848 * (Array.size H2 - s.heap.size)) (lw_Z below #[Value.ref b] s) (F0 m 394 ls [.int r, .int r])
  refine lv_icmp_eq (tgt := 1392) hx hb dL_law_394 (by decide) (fun _ => k _ _ _ hI2 hR2 hS2) (fun hne => absurd rfl hne)
def lx_ag_kitchen (Inv : Nat → kw_H → Prop) : Prop := ∀ (j : Nat) (hp : kw_H), Inv j hp → j < 64 → ∀ (_ : Unit), ∃ (r : Int32) (hp1 : kw_H) (hp2 : kw_H), X11_kitchen_F hp 0 = some (r, hp1) ∧ (∃ fs, hp1[38]? = some (.inr (11, fs))) ∧ X12_kitchen_F hp1 38 = some (r, hp2) ∧ Inv (j + 1) hp2
set_option maxRecDepth 100000 in
set_option maxHeartbeats 4000000 in
theorem lx_arm_5 {G : kw_G} {p : Program} {e : Env} {s : State} {m : MethodId} {below : List Frame} {meth : Method} {c : Code} {b L : Nat} {xs : Nat → Int32} (Inv : Nat → kw_H → Prop) (hO : ∀ j hp, Inv j hp → ∃ fs, hp[0]? = some (.inr (10, fs))) (hag : lx_ag_kitchen Inv) (hC : lx_C G p s m #[Value.ref b] c) (hX : va_X b L xs s s.heap) (hbl : b < s.heap.size) {i j : Nat} (hi : i + 6 ≤ L) (hL : L ≤ 384) {hp : kw_H} {H : Heap} {locs : List Loc} {ls : Array Slot} (hI : Inv j hp) (hj : j < 64) (hR : kw_R G hp H) (hS : va_S (fun q => G.2.1 ≤ q) s.heap H locs) (hl : lv_has ls 4 [(0, .ref b), (1, .ref (G.2.1 + 0)), (2, .ref (G.2.1 + 38)), (3, .int (nI i))]) (k : ∀ (hp2 : kw_H) (H2 : Heap) (locs2 : List Loc), Inv (j + 1) hp2 → kw_R G hp2 H2 → va_S (fun q => G.2.1 ≤ q) s.heap H2 locs2 → W p G.1 e room_1 s m #[Value.ref b] below meth c H2 locs2 (Array.size H2 - s.heap.size) (1848 * (Array.size H2 - s.heap.size)) (lw_Z below #[Value.ref b] s) (F0 m 1392 ls [])) : W p G.1 e room_1 s m #[Value.ref b] below meth c H locs (Array.size H - s.heap.size) (1848 * (Array.size H - s.heap.size)) (lw_Z below #[Value.ref b] s) (F0 m 399 ls []) := by
  obtain ⟨hx, hb, hml, hown, hts, hZ, hN⟩ := id hC
  obtain ⟨r, hp1, hp2, e1, ⟨fs1, o1⟩, e2, hI2⟩ := hag j hp hI hj ()
  obtain ⟨fs0, o0⟩ := hO j hp hI
  refine lv_aload_n hx hb dL_law_399 rfl (lv_at hl 1 rfl) ?_
  refine lx_callV (As := []) (a := 0) (rest := []) kcX11 lbX11_kitchen llL_36 imX11_kitchen seX11_X11_kitchen_X11_kitchen rfl rfl (Nat.le_of_ble_eq_true rfl) dL_law_400 o0 (X11_kitchen_c G hp 0 _ e1) hC hR hS hl.1 (fun rv hh H1 locs1 hq hR1 hS1 => ?_)
  obtain ⟨hq1, hq2⟩ := hq
  subst hq1
  subst hq2
  show W p G.1 e room_1 s m #[Value.ref b] below meth c H1 locs1 (Array.size H1 - s.heap.size) (1848 * (Array.size H1 - s.heap.size)) (lw_Z below #[Value.ref b] s) (F0 m 403 ls [.int r])
  refine lv_aload_n hx hb dL_law_403 rfl (lv_at hl 2 rfl) ?_
  refine lx_callV (As := []) (a := 38) (rest := [.int r]) kcX12 lbX12_kitchen llL_40 imX12_kitchen seX12_X12_kitchen_X12_kitchen rfl rfl (Nat.le_of_ble_eq_true rfl) dL_law_404 o1 (X12_kitchen_c G _ 38 _ e2) hC hR1 hS1 hl.1 (fun rv hh H2 locs2 hq hR2 hS2 => ?_)
  obtain ⟨hq1, hq2⟩ := hq
  subst hq1
  subst hq2
  show W p G.1 e room_1 s m #[Value.ref b] below meth c H2 locs2 (Array.size H2 - s.heap.size) (1848 * (Array.size H2 - s.heap.size)) (lw_Z below #[Value.ref b] s) (F0 m 407 ls [.int r, .int r])
  refine lv_icmp_eq (tgt := 1392) hx hb dL_law_407 (by decide) (fun _ => k _ _ _ hI2 hR2 hS2) (fun hne => absurd rfl hne)
def lx_ag_fault (Inv : Nat → kw_H → Prop) : Prop := ∀ (j : Nat) (hp : kw_H), Inv j hp → j < 64 → ∀ (_ : Unit), ∃ (r : Int32), X11_fault_F hp 0 = some r ∧ (∃ fs, hp[38]? = some (.inr (11, fs))) ∧ X12_fault_F hp 38 = some r ∧ Inv (j + 1) hp
set_option maxRecDepth 100000 in
set_option maxHeartbeats 4000000 in
theorem lx_arm_6 {G : kw_G} {p : Program} {e : Env} {s : State} {m : MethodId} {below : List Frame} {meth : Method} {c : Code} {b L : Nat} {xs : Nat → Int32} (Inv : Nat → kw_H → Prop) (hO : ∀ j hp, Inv j hp → ∃ fs, hp[0]? = some (.inr (10, fs))) (hag : lx_ag_fault Inv) (hC : lx_C G p s m #[Value.ref b] c) (hX : va_X b L xs s s.heap) (hbl : b < s.heap.size) {i j : Nat} (hi : i + 6 ≤ L) (hL : L ≤ 384) {hp : kw_H} {H : Heap} {locs : List Loc} {ls : Array Slot} (hI : Inv j hp) (hj : j < 64) (hR : kw_R G hp H) (hS : va_S (fun q => G.2.1 ≤ q) s.heap H locs) (hl : lv_has ls 4 [(0, .ref b), (1, .ref (G.2.1 + 0)), (2, .ref (G.2.1 + 38)), (3, .int (nI i))]) (k : ∀ (hp2 : kw_H) (H2 : Heap) (locs2 : List Loc), Inv (j + 1) hp2 → kw_R G hp2 H2 → va_S (fun q => G.2.1 ≤ q) s.heap H2 locs2 → W p G.1 e room_1 s m #[Value.ref b] below meth c H2 locs2 (Array.size H2 - s.heap.size) (1848 * (Array.size H2 - s.heap.size)) (lw_Z below #[Value.ref b] s) (F0 m 1392 ls [])) : W p G.1 e room_1 s m #[Value.ref b] below meth c H locs (Array.size H - s.heap.size) (1848 * (Array.size H - s.heap.size)) (lw_Z below #[Value.ref b] s) (F0 m 412 ls []) := by
  obtain ⟨hx, hb, hml, hown, hts, hZ, hN⟩ := id hC
  obtain ⟨r, e1, ⟨fs1, o1⟩, e2, hI2⟩ := hag j hp hI hj ()
  obtain ⟨fs0, o0⟩ := hO j hp hI
  refine lv_aload_n hx hb dL_law_412 rfl (lv_at hl 1 rfl) ?_
  refine lx_callV (As := []) (a := 0) (rest := []) kcX11 lbX11_fault llL_41 imX11_fault seX11_X11_fault_X11_fault rfl rfl (Nat.le_of_ble_eq_true rfl) dL_law_413 o0 (X11_fault_c G hp 0 _ e1) hC hR hS hl.1 (fun rv hh H1 locs1 hq hR1 hS1 => ?_)
  obtain ⟨hq1, hq2⟩ := hq
  subst hq1
  subst hq2
  show W p G.1 e room_1 s m #[Value.ref b] below meth c H1 locs1 (Array.size H1 - s.heap.size) (1848 * (Array.size H1 - s.heap.size)) (lw_Z below #[Value.ref b] s) (F0 m 416 ls [.int r])
  refine lv_aload_n hx hb dL_law_416 rfl (lv_at hl 2 rfl) ?_
  refine lx_callV (As := []) (a := 38) (rest := [.int r]) kcX12 lbX12_fault llL_44 imX12_fault seX12_X12_fault_X12_fault rfl rfl (Nat.le_of_ble_eq_true rfl) dL_law_417 o1 (X12_fault_c G _ 38 _ e2) hC hR1 hS1 hl.1 (fun rv hh H2 locs2 hq hR2 hS2 => ?_)
  obtain ⟨hq1, hq2⟩ := hq
  subst hq1
  subst hq2
  show W p G.1 e room_1 s m #[Value.ref b] below meth c H2 locs2 (Array.size H2 - s.heap.size) (1848 * (Array.size H2 - s.heap.size)) (lw_Z below #[Value.ref b] s) (F0 m 420 ls [.int r, .int r])
  refine lv_icmp_eq (tgt := 1392) hx hb dL_law_420 (by decide) (fun _ => k _ _ _ hI2 hR2 hS2) (fun hne => absurd rfl hne)
def lx_ag_undo (Inv : Nat → kw_H → Prop) : Prop := ∀ (j : Nat) (hp : kw_H), Inv j hp → j < 64 → ∀ (_ : Unit), ∃ (r : Int32) (hp1 : kw_H) (hp2 : kw_H), X11_undo_F hp 0 = some (r, hp1) ∧ (∃ fs, hp1[38]? = some (.inr (11, fs))) ∧ X12_undo_F hp1 38 = some (r, hp2) ∧ Inv (j + 1) hp2
set_option maxRecDepth 100000 in
set_option maxHeartbeats 4000000 in
theorem lx_arm_7 {G : kw_G} {p : Program} {e : Env} {s : State} {m : MethodId} {below : List Frame} {meth : Method} {c : Code} {b L : Nat} {xs : Nat → Int32} (Inv : Nat → kw_H → Prop) (hO : ∀ j hp, Inv j hp → ∃ fs, hp[0]? = some (.inr (10, fs))) (hag : lx_ag_undo Inv) (hC : lx_C G p s m #[Value.ref b] c) (hX : va_X b L xs s s.heap) (hbl : b < s.heap.size) {i j : Nat} (hi : i + 6 ≤ L) (hL : L ≤ 384) {hp : kw_H} {H : Heap} {locs : List Loc} {ls : Array Slot} (hI : Inv j hp) (hj : j < 64) (hR : kw_R G hp H) (hS : va_S (fun q => G.2.1 ≤ q) s.heap H locs) (hl : lv_has ls 4 [(0, .ref b), (1, .ref (G.2.1 + 0)), (2, .ref (G.2.1 + 38)), (3, .int (nI i))]) (k : ∀ (hp2 : kw_H) (H2 : Heap) (locs2 : List Loc), Inv (j + 1) hp2 → kw_R G hp2 H2 → va_S (fun q => G.2.1 ≤ q) s.heap H2 locs2 → W p G.1 e room_1 s m #[Value.ref b] below meth c H2 locs2 (Array.size H2 - s.heap.size) (1848 * (Array.size H2 - s.heap.size)) (lw_Z below #[Value.ref b] s) (F0 m 1392 ls [])) : W p G.1 e room_1 s m #[Value.ref b] below meth c H locs (Array.size H - s.heap.size) (1848 * (Array.size H - s.heap.size)) (lw_Z below #[Value.ref b] s) (F0 m 425 ls []) := by
  obtain ⟨hx, hb, hml, hown, hts, hZ, hN⟩ := id hC
  obtain ⟨r, hp1, hp2, e1, ⟨fs1, o1⟩, e2, hI2⟩ := hag j hp hI hj ()
  obtain ⟨fs0, o0⟩ := hO j hp hI
  refine lv_aload_n hx hb dL_law_425 rfl (lv_at hl 1 rfl) ?_
  refine lx_callV (As := []) (a := 0) (rest := []) kcX11 lbX11_undo llL_45 imX11_undo seX11_X11_undo_X11_undo rfl rfl (Nat.le_of_ble_eq_true rfl) dL_law_426 o0 (X11_undo_c G hp 0 _ e1) hC hR hS hl.1 (fun rv hh H1 locs1 hq hR1 hS1 => ?_)
  obtain ⟨hq1, hq2⟩ := hq
  subst hq1
  subst hq2
  show W p G.1 e room_1 s m #[Value.ref b] below meth c H1 locs1 (Array.size H1 - s.heap.size) (1848 * (Array.size H1 - s.heap.size)) (lw_Z below #[Value.ref b] s) (F0 m 429 ls [.int r])
  refine lv_aload_n hx hb dL_law_429 rfl (lv_at hl 2 rfl) ?_
  refine lx_callV (As := []) (a := 38) (rest := [.int r]) kcX12 lbX12_undo llL_48 imX12_undo seX12_X12_undo_X12_undo rfl rfl (Nat.le_of_ble_eq_true rfl) dL_law_430 o1 (X12_undo_c G _ 38 _ e2) hC hR1 hS1 hl.1 (fun rv hh H2 locs2 hq hR2 hS2 => ?_)
  obtain ⟨hq1, hq2⟩ := hq
  subst hq1
  subst hq2
  show W p G.1 e room_1 s m #[Value.ref b] below meth c H2 locs2 (Array.size H2 - s.heap.size) (1848 * (Array.size H2 - s.heap.size)) (lw_Z below #[Value.ref b] s) (F0 m 433 ls [.int r, .int r])
  refine lv_icmp_eq (tgt := 1392) hx hb dL_law_433 (by decide) (fun _ => k _ _ _ hI2 hR2 hS2) (fun hne => absurd rfl hne)
def lx_ag_weeks (Inv : Nat → kw_H → Prop) : Prop := ∀ (j : Nat) (hp : kw_H), Inv j hp → j < 64 → ∀ (a1 : Int32), ∃ (r : Int32) (hp1 : kw_H) (hp2 : kw_H), X11_weeks_F hp 0 a1 = some (r, hp1) ∧ (∃ fs, hp1[38]? = some (.inr (11, fs))) ∧ X12_weeks_F hp1 38 a1 = some (r, hp2) ∧ Inv (j + 1) hp2
set_option maxRecDepth 100000 in
set_option maxHeartbeats 4000000 in
theorem lx_arm_8 {G : kw_G} {p : Program} {e : Env} {s : State} {m : MethodId} {below : List Frame} {meth : Method} {c : Code} {b L : Nat} {xs : Nat → Int32} (Inv : Nat → kw_H → Prop) (hO : ∀ j hp, Inv j hp → ∃ fs, hp[0]? = some (.inr (10, fs))) (hag : lx_ag_weeks Inv) (hC : lx_C G p s m #[Value.ref b] c) (hX : va_X b L xs s s.heap) (hbl : b < s.heap.size) {i j : Nat} (hi : i + 6 ≤ L) (hL : L ≤ 384) {hp : kw_H} {H : Heap} {locs : List Loc} {ls : Array Slot} (hI : Inv j hp) (hj : j < 64) (hR : kw_R G hp H) (hS : va_S (fun q => G.2.1 ≤ q) s.heap H locs) (hl : lv_has ls 4 [(0, .ref b), (1, .ref (G.2.1 + 0)), (2, .ref (G.2.1 + 38)), (3, .int (nI i))]) (k : ∀ (hp2 : kw_H) (H2 : Heap) (locs2 : List Loc), Inv (j + 1) hp2 → kw_R G hp2 H2 → va_S (fun q => G.2.1 ≤ q) s.heap H2 locs2 → W p G.1 e room_1 s m #[Value.ref b] below meth c H2 locs2 (Array.size H2 - s.heap.size) (1848 * (Array.size H2 - s.heap.size)) (lw_Z below #[Value.ref b] s) (F0 m 1392 ls [])) : W p G.1 e room_1 s m #[Value.ref b] below meth c H locs (Array.size H - s.heap.size) (1848 * (Array.size H - s.heap.size)) (lw_Z below #[Value.ref b] s) (F0 m 438 ls []) := by
  obtain ⟨hx, hb, hml, hown, hts, hZ, hN⟩ := id hC
  obtain ⟨r, hp1, hp2, e1, ⟨fs1, o1⟩, e2, hI2⟩ := hag j hp hI hj (xs (i + 1))
  obtain ⟨fs0, o0⟩ := hO j hp hI
  refine lv_aload_n hx hb dL_law_438 rfl (lv_at hl 1 rfl) ?_
  refine lx_arg hC hX hbl (t := 1) dL_law_439 dL_law_440 dL_law_441 (by decide) dL_law_442 dL_law_443 (by omega) (by omega) hS (lv_at hl 0 rfl) (lv_at hl 3 rfl) ?_
  refine lx_callV (As := [xs (i + 1)]) (a := 0) (rest := []) kcX11 lbX11_weeks llL_49 imX11_weeks seX11_X11_weeks_X11_weeks rfl rfl (Nat.le_of_ble_eq_true rfl) dL_law_444 o0 (X11_weeks_c G hp 0 (xs (i + 1)) _ e1) hC hR hS hl.1 (fun rv hh H1 locs1 hq hR1 hS1 => ?_)
  obtain ⟨hq1, hq2⟩ := hq
  subst hq1
  subst hq2
  show W p G.1 e room_1 s m #[Value.ref b] below meth c H1 locs1 (Array.size H1 - s.heap.size) (1848 * (Array.size H1 - s.heap.size)) (lw_Z below #[Value.ref b] s) (F0 m 447 ls [.int r])
  refine lv_aload_n hx hb dL_law_447 rfl (lv_at hl 2 rfl) ?_
  refine lx_arg hC hX hbl (t := 1) dL_law_448 dL_law_449 dL_law_450 (by decide) dL_law_451 dL_law_452 (by omega) (by omega) hS1 (lv_at hl 0 rfl) (lv_at hl 3 rfl) ?_
  refine lx_callV (As := [xs (i + 1)]) (a := 38) (rest := [.int r]) kcX12 lbX12_weeks llL_52 imX12_weeks seX12_X12_weeks_X12_weeks rfl rfl (Nat.le_of_ble_eq_true rfl) dL_law_453 o1 (X12_weeks_c G _ 38 (xs (i + 1)) _ e2) hC hR1 hS1 hl.1 (fun rv hh H2 locs2 hq hR2 hS2 => ?_)
  obtain ⟨hq1, hq2⟩ := hq
  subst hq1
  subst hq2
  show W p G.1 e room_1 s m #[Value.ref b] below meth c H2 locs2 (Array.size H2 - s.heap.size) (1848 * (Array.size H2 - s.heap.size)) (lw_Z below #[Value.ref b] s) (F0 m 456 ls [.int r, .int r])
  refine lv_icmp_eq (tgt := 1392) hx hb dL_law_456 (by decide) (fun _ => k _ _ _ hI2 hR2 hS2) (fun hne => absurd rfl hne)
def lx_ag_leave (Inv : Nat → kw_H → Prop) : Prop := ∀ (j : Nat) (hp : kw_H), Inv j hp → j < 64 → ∀ (a1 : Int32), ∃ (r : Int32) (hp1 : kw_H) (hp2 : kw_H), X11_leave_F hp 0 a1 = some (r, hp1) ∧ (∃ fs, hp1[38]? = some (.inr (11, fs))) ∧ X12_leave_F hp1 38 a1 = some (r, hp2) ∧ Inv (j + 1) hp2
set_option maxRecDepth 100000 in
set_option maxHeartbeats 4000000 in
theorem lx_arm_9 {G : kw_G} {p : Program} {e : Env} {s : State} {m : MethodId} {below : List Frame} {meth : Method} {c : Code} {b L : Nat} {xs : Nat → Int32} (Inv : Nat → kw_H → Prop) (hO : ∀ j hp, Inv j hp → ∃ fs, hp[0]? = some (.inr (10, fs))) (hag : lx_ag_leave Inv) (hC : lx_C G p s m #[Value.ref b] c) (hX : va_X b L xs s s.heap) (hbl : b < s.heap.size) {i j : Nat} (hi : i + 6 ≤ L) (hL : L ≤ 384) {hp : kw_H} {H : Heap} {locs : List Loc} {ls : Array Slot} (hI : Inv j hp) (hj : j < 64) (hR : kw_R G hp H) (hS : va_S (fun q => G.2.1 ≤ q) s.heap H locs) (hl : lv_has ls 4 [(0, .ref b), (1, .ref (G.2.1 + 0)), (2, .ref (G.2.1 + 38)), (3, .int (nI i))]) (k : ∀ (hp2 : kw_H) (H2 : Heap) (locs2 : List Loc), Inv (j + 1) hp2 → kw_R G hp2 H2 → va_S (fun q => G.2.1 ≤ q) s.heap H2 locs2 → W p G.1 e room_1 s m #[Value.ref b] below meth c H2 locs2 (Array.size H2 - s.heap.size) (1848 * (Array.size H2 - s.heap.size)) (lw_Z below #[Value.ref b] s) (F0 m 1392 ls [])) : W p G.1 e room_1 s m #[Value.ref b] below meth c H locs (Array.size H - s.heap.size) (1848 * (Array.size H - s.heap.size)) (lw_Z below #[Value.ref b] s) (F0 m 461 ls []) := by
  obtain ⟨hx, hb, hml, hown, hts, hZ, hN⟩ := id hC
  obtain ⟨r, hp1, hp2, e1, ⟨fs1, o1⟩, e2, hI2⟩ := hag j hp hI hj (xs (i + 1))
  obtain ⟨fs0, o0⟩ := hO j hp hI
  refine lv_aload_n hx hb dL_law_461 rfl (lv_at hl 1 rfl) ?_
  refine lx_arg hC hX hbl (t := 1) dL_law_462 dL_law_463 dL_law_464 (by decide) dL_law_465 dL_law_466 (by omega) (by omega) hS (lv_at hl 0 rfl) (lv_at hl 3 rfl) ?_
  refine lx_callV (As := [xs (i + 1)]) (a := 0) (rest := []) kcX11 lbX11_leave llL_53 imX11_leave seX11_X11_leave_X11_leave rfl rfl (Nat.le_of_ble_eq_true rfl) dL_law_467 o0 (X11_leave_c G hp 0 (xs (i + 1)) _ e1) hC hR hS hl.1 (fun rv hh H1 locs1 hq hR1 hS1 => ?_)
  obtain ⟨hq1, hq2⟩ := hq
  subst hq1
  subst hq2
  show W p G.1 e room_1 s m #[Value.ref b] below meth c H1 locs1 (Array.size H1 - s.heap.size) (1848 * (Array.size H1 - s.heap.size)) (lw_Z below #[Value.ref b] s) (F0 m 470 ls [.int r])
  refine lv_aload_n hx hb dL_law_470 rfl (lv_at hl 2 rfl) ?_
  refine lx_arg hC hX hbl (t := 1) dL_law_471 dL_law_472 dL_law_473 (by decide) dL_law_474 dL_law_475 (by omega) (by omega) hS1 (lv_at hl 0 rfl) (lv_at hl 3 rfl) ?_
  refine lx_callV (As := [xs (i + 1)]) (a := 38) (rest := [.int r]) kcX12 lbX12_leave llL_56 imX12_leave seX12_X12_leave_X12_leave rfl rfl (Nat.le_of_ble_eq_true rfl) dL_law_476 o1 (X12_leave_c G _ 38 (xs (i + 1)) _ e2) hC hR1 hS1 hl.1 (fun rv hh H2 locs2 hq hR2 hS2 => ?_)
  obtain ⟨hq1, hq2⟩ := hq
  subst hq1
  subst hq2
  show W p G.1 e room_1 s m #[Value.ref b] below meth c H2 locs2 (Array.size H2 - s.heap.size) (1848 * (Array.size H2 - s.heap.size)) (lw_Z below #[Value.ref b] s) (F0 m 479 ls [.int r, .int r])
  refine lv_icmp_eq (tgt := 1392) hx hb dL_law_479 (by decide) (fun _ => k _ _ _ hI2 hR2 hS2) (fun hne => absurd rfl hne)
def lx_ag_name (Inv : Nat → kw_H → Prop) : Prop := ∀ (j : Nat) (hp : kw_H), Inv j hp → j < 64 → ∀ (a1 a2 : Int32), ∃ (r : Int32) (hp1 : kw_H) (hp2 : kw_H), X11_name_F hp 0 a1 a2 = some (r, hp1) ∧ (∃ fs, hp1[38]? = some (.inr (11, fs))) ∧ X12_name_F hp1 38 a1 a2 = some (r, hp2) ∧ Inv (j + 1) hp2
set_option maxRecDepth 100000 in
set_option maxHeartbeats 4000000 in
theorem lx_arm_10 {G : kw_G} {p : Program} {e : Env} {s : State} {m : MethodId} {below : List Frame} {meth : Method} {c : Code} {b L : Nat} {xs : Nat → Int32} (Inv : Nat → kw_H → Prop) (hO : ∀ j hp, Inv j hp → ∃ fs, hp[0]? = some (.inr (10, fs))) (hag : lx_ag_name Inv) (hC : lx_C G p s m #[Value.ref b] c) (hX : va_X b L xs s s.heap) (hbl : b < s.heap.size) {i j : Nat} (hi : i + 6 ≤ L) (hL : L ≤ 384) {hp : kw_H} {H : Heap} {locs : List Loc} {ls : Array Slot} (hI : Inv j hp) (hj : j < 64) (hR : kw_R G hp H) (hS : va_S (fun q => G.2.1 ≤ q) s.heap H locs) (hl : lv_has ls 4 [(0, .ref b), (1, .ref (G.2.1 + 0)), (2, .ref (G.2.1 + 38)), (3, .int (nI i))]) (k : ∀ (hp2 : kw_H) (H2 : Heap) (locs2 : List Loc), Inv (j + 1) hp2 → kw_R G hp2 H2 → va_S (fun q => G.2.1 ≤ q) s.heap H2 locs2 → W p G.1 e room_1 s m #[Value.ref b] below meth c H2 locs2 (Array.size H2 - s.heap.size) (1848 * (Array.size H2 - s.heap.size)) (lw_Z below #[Value.ref b] s) (F0 m 1392 ls [])) : W p G.1 e room_1 s m #[Value.ref b] below meth c H locs (Array.size H - s.heap.size) (1848 * (Array.size H - s.heap.size)) (lw_Z below #[Value.ref b] s) (F0 m 484 ls []) := by
  obtain ⟨hx, hb, hml, hown, hts, hZ, hN⟩ := id hC
  obtain ⟨r, hp1, hp2, e1, ⟨fs1, o1⟩, e2, hI2⟩ := hag j hp hI hj (xs (i + 1)) (xs (i + 2))
  obtain ⟨fs0, o0⟩ := hO j hp hI
  refine lv_aload_n hx hb dL_law_484 rfl (lv_at hl 1 rfl) ?_
  refine lx_arg hC hX hbl (t := 1) dL_law_485 dL_law_486 dL_law_487 (by decide) dL_law_488 dL_law_489 (by omega) (by omega) hS (lv_at hl 0 rfl) (lv_at hl 3 rfl) ?_
  refine lx_arg hC hX hbl (t := 2) dL_law_490 dL_law_491 dL_law_492 (by decide) dL_law_493 dL_law_494 (by omega) (by omega) hS (lv_at hl 0 rfl) (lv_at hl 3 rfl) ?_
  refine lx_callV (As := [xs (i + 1), xs (i + 2)]) (a := 0) (rest := []) kcX11 lbX11_name llL_57 imX11_name seX11_X11_name_X11_name rfl rfl (Nat.le_of_ble_eq_true rfl) dL_law_495 o0 (X11_name_c G hp 0 (xs (i + 1)) (xs (i + 2)) _ e1) hC hR hS hl.1 (fun rv hh H1 locs1 hq hR1 hS1 => ?_)
  obtain ⟨hq1, hq2⟩ := hq
  subst hq1
  subst hq2
  show W p G.1 e room_1 s m #[Value.ref b] below meth c H1 locs1 (Array.size H1 - s.heap.size) (1848 * (Array.size H1 - s.heap.size)) (lw_Z below #[Value.ref b] s) (F0 m 498 ls [.int r])
  refine lv_aload_n hx hb dL_law_498 rfl (lv_at hl 2 rfl) ?_
  refine lx_arg hC hX hbl (t := 1) dL_law_499 dL_law_500 dL_law_501 (by decide) dL_law_502 dL_law_503 (by omega) (by omega) hS1 (lv_at hl 0 rfl) (lv_at hl 3 rfl) ?_
  refine lx_arg hC hX hbl (t := 2) dL_law_504 dL_law_505 dL_law_506 (by decide) dL_law_507 dL_law_508 (by omega) (by omega) hS1 (lv_at hl 0 rfl) (lv_at hl 3 rfl) ?_
  refine lx_callV (As := [xs (i + 1), xs (i + 2)]) (a := 38) (rest := [.int r]) kcX12 lbX12_name llL_61 imX12_name seX12_X12_name_X12_name rfl rfl (Nat.le_of_ble_eq_true rfl) dL_law_509 o1 (X12_name_c G _ 38 (xs (i + 1)) (xs (i + 2)) _ e2) hC hR1 hS1 hl.1 (fun rv hh H2 locs2 hq hR2 hS2 => ?_)
  obtain ⟨hq1, hq2⟩ := hq
  subst hq1
  subst hq2
  show W p G.1 e room_1 s m #[Value.ref b] below meth c H2 locs2 (Array.size H2 - s.heap.size) (1848 * (Array.size H2 - s.heap.size)) (lw_Z below #[Value.ref b] s) (F0 m 512 ls [.int r, .int r])
  refine lv_icmp_eq (tgt := 1392) hx hb dL_law_512 (by decide) (fun _ => k _ _ _ hI2 hR2 hS2) (fun hne => absurd rfl hne)
def lx_ag_job (Inv : Nat → kw_H → Prop) : Prop := ∀ (j : Nat) (hp : kw_H), Inv j hp → j < 64 → ∀ (a1 a2 : Int32), ∃ (r : Int32) (hp1 : kw_H) (hp2 : kw_H), X11_job_F hp 0 a1 a2 = some (r, hp1) ∧ (∃ fs, hp1[38]? = some (.inr (11, fs))) ∧ X12_job_F hp1 38 a1 a2 = some (r, hp2) ∧ Inv (j + 1) hp2
set_option maxRecDepth 100000 in
set_option maxHeartbeats 4000000 in
theorem lx_arm_11 {G : kw_G} {p : Program} {e : Env} {s : State} {m : MethodId} {below : List Frame} {meth : Method} {c : Code} {b L : Nat} {xs : Nat → Int32} (Inv : Nat → kw_H → Prop) (hO : ∀ j hp, Inv j hp → ∃ fs, hp[0]? = some (.inr (10, fs))) (hag : lx_ag_job Inv) (hC : lx_C G p s m #[Value.ref b] c) (hX : va_X b L xs s s.heap) (hbl : b < s.heap.size) {i j : Nat} (hi : i + 6 ≤ L) (hL : L ≤ 384) {hp : kw_H} {H : Heap} {locs : List Loc} {ls : Array Slot} (hI : Inv j hp) (hj : j < 64) (hR : kw_R G hp H) (hS : va_S (fun q => G.2.1 ≤ q) s.heap H locs) (hl : lv_has ls 4 [(0, .ref b), (1, .ref (G.2.1 + 0)), (2, .ref (G.2.1 + 38)), (3, .int (nI i))]) (k : ∀ (hp2 : kw_H) (H2 : Heap) (locs2 : List Loc), Inv (j + 1) hp2 → kw_R G hp2 H2 → va_S (fun q => G.2.1 ≤ q) s.heap H2 locs2 → W p G.1 e room_1 s m #[Value.ref b] below meth c H2 locs2 (Array.size H2 - s.heap.size) (1848 * (Array.size H2 - s.heap.size)) (lw_Z below #[Value.ref b] s) (F0 m 1392 ls [])) : W p G.1 e room_1 s m #[Value.ref b] below meth c H locs (Array.size H - s.heap.size) (1848 * (Array.size H - s.heap.size)) (lw_Z below #[Value.ref b] s) (F0 m 517 ls []) := by
  obtain ⟨hx, hb, hml, hown, hts, hZ, hN⟩ := id hC
  obtain ⟨r, hp1, hp2, e1, ⟨fs1, o1⟩, e2, hI2⟩ := hag j hp hI hj (xs (i + 1)) (xs (i + 2))
  obtain ⟨fs0, o0⟩ := hO j hp hI
  refine lv_aload_n hx hb dL_law_517 rfl (lv_at hl 1 rfl) ?_
  refine lx_arg hC hX hbl (t := 1) dL_law_518 dL_law_519 dL_law_520 (by decide) dL_law_521 dL_law_522 (by omega) (by omega) hS (lv_at hl 0 rfl) (lv_at hl 3 rfl) ?_
  refine lx_arg hC hX hbl (t := 2) dL_law_523 dL_law_524 dL_law_525 (by decide) dL_law_526 dL_law_527 (by omega) (by omega) hS (lv_at hl 0 rfl) (lv_at hl 3 rfl) ?_
  refine lx_callV (As := [xs (i + 1), xs (i + 2)]) (a := 0) (rest := []) kcX11 lbX11_job llL_62 imX11_job seX11_X11_job_X11_job rfl rfl (Nat.le_of_ble_eq_true rfl) dL_law_528 o0 (X11_job_c G hp 0 (xs (i + 1)) (xs (i + 2)) _ e1) hC hR hS hl.1 (fun rv hh H1 locs1 hq hR1 hS1 => ?_)
  obtain ⟨hq1, hq2⟩ := hq
  subst hq1
  subst hq2
  show W p G.1 e room_1 s m #[Value.ref b] below meth c H1 locs1 (Array.size H1 - s.heap.size) (1848 * (Array.size H1 - s.heap.size)) (lw_Z below #[Value.ref b] s) (F0 m 531 ls [.int r])
  refine lv_aload_n hx hb dL_law_531 rfl (lv_at hl 2 rfl) ?_
  refine lx_arg hC hX hbl (t := 1) dL_law_532 dL_law_533 dL_law_534 (by decide) dL_law_535 dL_law_536 (by omega) (by omega) hS1 (lv_at hl 0 rfl) (lv_at hl 3 rfl) ?_
  refine lx_arg hC hX hbl (t := 2) dL_law_537 dL_law_538 dL_law_539 (by decide) dL_law_540 dL_law_541 (by omega) (by omega) hS1 (lv_at hl 0 rfl) (lv_at hl 3 rfl) ?_
  refine lx_callV (As := [xs (i + 1), xs (i + 2)]) (a := 38) (rest := [.int r]) kcX12 lbX12_job llL_65 imX12_job seX12_X12_job_X12_job rfl rfl (Nat.le_of_ble_eq_true rfl) dL_law_542 o1 (X12_job_c G _ 38 (xs (i + 1)) (xs (i + 2)) _ e2) hC hR1 hS1 hl.1 (fun rv hh H2 locs2 hq hR2 hS2 => ?_)
  obtain ⟨hq1, hq2⟩ := hq
  subst hq1
  subst hq2
  show W p G.1 e room_1 s m #[Value.ref b] below meth c H2 locs2 (Array.size H2 - s.heap.size) (1848 * (Array.size H2 - s.heap.size)) (lw_Z below #[Value.ref b] s) (F0 m 545 ls [.int r, .int r])
  refine lv_icmp_eq (tgt := 1392) hx hb dL_law_545 (by decide) (fun _ => k _ _ _ hI2 hR2 hS2) (fun hne => absurd rfl hne)
def lx_ag_turn (Inv : Nat → kw_H → Prop) : Prop := ∀ (j : Nat) (hp : kw_H), Inv j hp → j < 64 → ∀ (a1 : Int32), ∃ (r : Int32) (hp1 : kw_H) (hp2 : kw_H), X11_turn_F hp 0 a1 = some (r, hp1) ∧ (∃ fs, hp1[38]? = some (.inr (11, fs))) ∧ X12_turn_F hp1 38 a1 = some (r, hp2) ∧ Inv (j + 1) hp2
set_option maxRecDepth 100000 in
set_option maxHeartbeats 4000000 in
theorem lx_arm_12 {G : kw_G} {p : Program} {e : Env} {s : State} {m : MethodId} {below : List Frame} {meth : Method} {c : Code} {b L : Nat} {xs : Nat → Int32} (Inv : Nat → kw_H → Prop) (hO : ∀ j hp, Inv j hp → ∃ fs, hp[0]? = some (.inr (10, fs))) (hag : lx_ag_turn Inv) (hC : lx_C G p s m #[Value.ref b] c) (hX : va_X b L xs s s.heap) (hbl : b < s.heap.size) {i j : Nat} (hi : i + 6 ≤ L) (hL : L ≤ 384) {hp : kw_H} {H : Heap} {locs : List Loc} {ls : Array Slot} (hI : Inv j hp) (hj : j < 64) (hR : kw_R G hp H) (hS : va_S (fun q => G.2.1 ≤ q) s.heap H locs) (hl : lv_has ls 4 [(0, .ref b), (1, .ref (G.2.1 + 0)), (2, .ref (G.2.1 + 38)), (3, .int (nI i))]) (k : ∀ (hp2 : kw_H) (H2 : Heap) (locs2 : List Loc), Inv (j + 1) hp2 → kw_R G hp2 H2 → va_S (fun q => G.2.1 ≤ q) s.heap H2 locs2 → W p G.1 e room_1 s m #[Value.ref b] below meth c H2 locs2 (Array.size H2 - s.heap.size) (1848 * (Array.size H2 - s.heap.size)) (lw_Z below #[Value.ref b] s) (F0 m 1392 ls [])) : W p G.1 e room_1 s m #[Value.ref b] below meth c H locs (Array.size H - s.heap.size) (1848 * (Array.size H - s.heap.size)) (lw_Z below #[Value.ref b] s) (F0 m 550 ls []) := by
  obtain ⟨hx, hb, hml, hown, hts, hZ, hN⟩ := id hC
  obtain ⟨r, hp1, hp2, e1, ⟨fs1, o1⟩, e2, hI2⟩ := hag j hp hI hj (xs (i + 1))
  obtain ⟨fs0, o0⟩ := hO j hp hI
  refine lv_aload_n hx hb dL_law_550 rfl (lv_at hl 1 rfl) ?_
  refine lx_arg hC hX hbl (t := 1) dL_law_551 dL_law_552 dL_law_553 (by decide) dL_law_554 dL_law_555 (by omega) (by omega) hS (lv_at hl 0 rfl) (lv_at hl 3 rfl) ?_
  refine lx_callV (As := [xs (i + 1)]) (a := 0) (rest := []) kcX11 lbX11_turn llL_66 imX11_turn seX11_X11_turn_X11_turn rfl rfl (Nat.le_of_ble_eq_true rfl) dL_law_556 o0 (X11_turn_c G hp 0 (xs (i + 1)) _ e1) hC hR hS hl.1 (fun rv hh H1 locs1 hq hR1 hS1 => ?_)
  obtain ⟨hq1, hq2⟩ := hq
  subst hq1
  subst hq2
  show W p G.1 e room_1 s m #[Value.ref b] below meth c H1 locs1 (Array.size H1 - s.heap.size) (1848 * (Array.size H1 - s.heap.size)) (lw_Z below #[Value.ref b] s) (F0 m 559 ls [.int r])
  refine lv_aload_n hx hb dL_law_559 rfl (lv_at hl 2 rfl) ?_
  refine lx_arg hC hX hbl (t := 1) dL_law_560 dL_law_561 dL_law_562 (by decide) dL_law_563 dL_law_564 (by omega) (by omega) hS1 (lv_at hl 0 rfl) (lv_at hl 3 rfl) ?_
  refine lx_callV (As := [xs (i + 1)]) (a := 38) (rest := [.int r]) kcX12 lbX12_turn llL_69 imX12_turn seX12_X12_turn_X12_turn rfl rfl (Nat.le_of_ble_eq_true rfl) dL_law_565 o1 (X12_turn_c G _ 38 (xs (i + 1)) _ e2) hC hR1 hS1 hl.1 (fun rv hh H2 locs2 hq hR2 hS2 => ?_)
  obtain ⟨hq1, hq2⟩ := hq
  subst hq1
  subst hq2
  show W p G.1 e room_1 s m #[Value.ref b] below meth c H2 locs2 (Array.size H2 - s.heap.size) (1848 * (Array.size H2 - s.heap.size)) (lw_Z below #[Value.ref b] s) (F0 m 568 ls [.int r, .int r])
  refine lv_icmp_eq (tgt := 1392) hx hb dL_law_568 (by decide) (fun _ => k _ _ _ hI2 hR2 hS2) (fun hne => absurd rfl hne)
def lx_ag_done (Inv : Nat → kw_H → Prop) : Prop := ∀ (j : Nat) (hp : kw_H), Inv j hp → j < 64 → ∀ (a1 a2 : Int32), ∃ (r : Int32), X11_done_F hp 0 a1 a2 = some r ∧ (∃ fs, hp[38]? = some (.inr (11, fs))) ∧ X12_done_F hp 38 a1 a2 = some r ∧ Inv (j + 1) hp
set_option maxRecDepth 100000 in
set_option maxHeartbeats 4000000 in
theorem lx_arm_13 {G : kw_G} {p : Program} {e : Env} {s : State} {m : MethodId} {below : List Frame} {meth : Method} {c : Code} {b L : Nat} {xs : Nat → Int32} (Inv : Nat → kw_H → Prop) (hO : ∀ j hp, Inv j hp → ∃ fs, hp[0]? = some (.inr (10, fs))) (hag : lx_ag_done Inv) (hC : lx_C G p s m #[Value.ref b] c) (hX : va_X b L xs s s.heap) (hbl : b < s.heap.size) {i j : Nat} (hi : i + 6 ≤ L) (hL : L ≤ 384) {hp : kw_H} {H : Heap} {locs : List Loc} {ls : Array Slot} (hI : Inv j hp) (hj : j < 64) (hR : kw_R G hp H) (hS : va_S (fun q => G.2.1 ≤ q) s.heap H locs) (hl : lv_has ls 4 [(0, .ref b), (1, .ref (G.2.1 + 0)), (2, .ref (G.2.1 + 38)), (3, .int (nI i))]) (k : ∀ (hp2 : kw_H) (H2 : Heap) (locs2 : List Loc), Inv (j + 1) hp2 → kw_R G hp2 H2 → va_S (fun q => G.2.1 ≤ q) s.heap H2 locs2 → W p G.1 e room_1 s m #[Value.ref b] below meth c H2 locs2 (Array.size H2 - s.heap.size) (1848 * (Array.size H2 - s.heap.size)) (lw_Z below #[Value.ref b] s) (F0 m 1392 ls [])) : W p G.1 e room_1 s m #[Value.ref b] below meth c H locs (Array.size H - s.heap.size) (1848 * (Array.size H - s.heap.size)) (lw_Z below #[Value.ref b] s) (F0 m 573 ls []) := by
  obtain ⟨hx, hb, hml, hown, hts, hZ, hN⟩ := id hC
  obtain ⟨r, e1, ⟨fs1, o1⟩, e2, hI2⟩ := hag j hp hI hj (xs (i + 1)) (xs (i + 2))
  obtain ⟨fs0, o0⟩ := hO j hp hI
  refine lv_aload_n hx hb dL_law_573 rfl (lv_at hl 1 rfl) ?_
  refine lx_arg hC hX hbl (t := 1) dL_law_574 dL_law_575 dL_law_576 (by decide) dL_law_577 dL_law_578 (by omega) (by omega) hS (lv_at hl 0 rfl) (lv_at hl 3 rfl) ?_
  refine lx_arg hC hX hbl (t := 2) dL_law_579 dL_law_580 dL_law_581 (by decide) dL_law_582 dL_law_583 (by omega) (by omega) hS (lv_at hl 0 rfl) (lv_at hl 3 rfl) ?_
  refine lx_callV (As := [xs (i + 1), xs (i + 2)]) (a := 0) (rest := []) kcX11 lbX11_done llL_70 imX11_done seX11_X11_done_X11_done rfl rfl (Nat.le_of_ble_eq_true rfl) dL_law_584 o0 (X11_done_c G hp 0 (xs (i + 1)) (xs (i + 2)) _ e1) hC hR hS hl.1 (fun rv hh H1 locs1 hq hR1 hS1 => ?_)
  obtain ⟨hq1, hq2⟩ := hq
  subst hq1
  subst hq2
  show W p G.1 e room_1 s m #[Value.ref b] below meth c H1 locs1 (Array.size H1 - s.heap.size) (1848 * (Array.size H1 - s.heap.size)) (lw_Z below #[Value.ref b] s) (F0 m 587 ls [.int r])
  refine lv_aload_n hx hb dL_law_587 rfl (lv_at hl 2 rfl) ?_
  refine lx_arg hC hX hbl (t := 1) dL_law_588 dL_law_589 dL_law_590 (by decide) dL_law_591 dL_law_592 (by omega) (by omega) hS1 (lv_at hl 0 rfl) (lv_at hl 3 rfl) ?_
  refine lx_arg hC hX hbl (t := 2) dL_law_593 dL_law_594 dL_law_595 (by decide) dL_law_596 dL_law_597 (by omega) (by omega) hS1 (lv_at hl 0 rfl) (lv_at hl 3 rfl) ?_
  refine lx_callV (As := [xs (i + 1), xs (i + 2)]) (a := 38) (rest := [.int r]) kcX12 lbX12_done llL_73 imX12_done seX12_X12_done_X12_done rfl rfl (Nat.le_of_ble_eq_true rfl) dL_law_598 o1 (X12_done_c G _ 38 (xs (i + 1)) (xs (i + 2)) _ e2) hC hR1 hS1 hl.1 (fun rv hh H2 locs2 hq hR2 hS2 => ?_)
  obtain ⟨hq1, hq2⟩ := hq
  subst hq1
  subst hq2
  show W p G.1 e room_1 s m #[Value.ref b] below meth c H2 locs2 (Array.size H2 - s.heap.size) (1848 * (Array.size H2 - s.heap.size)) (lw_Z below #[Value.ref b] s) (F0 m 601 ls [.int r, .int r])
  refine lv_icmp_eq (tgt := 1392) hx hb dL_law_601 (by decide) (fun _ => k _ _ _ hI2 hR2 hS2) (fun hne => absurd rfl hne)
def lx_ag_slot (Inv : Nat → kw_H → Prop) : Prop := ∀ (j : Nat) (hp : kw_H), Inv j hp → j < 64 → ∀ (a1 a2 : Int32), ∃ (r : Int32), X11_slot_F hp 0 a1 a2 = some r ∧ (∃ fs, hp[38]? = some (.inr (11, fs))) ∧ X12_slot_F hp 38 a1 a2 = some r ∧ Inv (j + 1) hp
set_option maxRecDepth 100000 in
set_option maxHeartbeats 4000000 in
theorem lx_arm_14 {G : kw_G} {p : Program} {e : Env} {s : State} {m : MethodId} {below : List Frame} {meth : Method} {c : Code} {b L : Nat} {xs : Nat → Int32} (Inv : Nat → kw_H → Prop) (hO : ∀ j hp, Inv j hp → ∃ fs, hp[0]? = some (.inr (10, fs))) (hag : lx_ag_slot Inv) (hC : lx_C G p s m #[Value.ref b] c) (hX : va_X b L xs s s.heap) (hbl : b < s.heap.size) {i j : Nat} (hi : i + 6 ≤ L) (hL : L ≤ 384) {hp : kw_H} {H : Heap} {locs : List Loc} {ls : Array Slot} (hI : Inv j hp) (hj : j < 64) (hR : kw_R G hp H) (hS : va_S (fun q => G.2.1 ≤ q) s.heap H locs) (hl : lv_has ls 4 [(0, .ref b), (1, .ref (G.2.1 + 0)), (2, .ref (G.2.1 + 38)), (3, .int (nI i))]) (k : ∀ (hp2 : kw_H) (H2 : Heap) (locs2 : List Loc), Inv (j + 1) hp2 → kw_R G hp2 H2 → va_S (fun q => G.2.1 ≤ q) s.heap H2 locs2 → W p G.1 e room_1 s m #[Value.ref b] below meth c H2 locs2 (Array.size H2 - s.heap.size) (1848 * (Array.size H2 - s.heap.size)) (lw_Z below #[Value.ref b] s) (F0 m 1392 ls [])) : W p G.1 e room_1 s m #[Value.ref b] below meth c H locs (Array.size H - s.heap.size) (1848 * (Array.size H - s.heap.size)) (lw_Z below #[Value.ref b] s) (F0 m 606 ls []) := by
  obtain ⟨hx, hb, hml, hown, hts, hZ, hN⟩ := id hC
  obtain ⟨r, e1, ⟨fs1, o1⟩, e2, hI2⟩ := hag j hp hI hj (xs (i + 1)) (xs (i + 2))
  obtain ⟨fs0, o0⟩ := hO j hp hI
  refine lv_aload_n hx hb dL_law_606 rfl (lv_at hl 1 rfl) ?_
  refine lx_arg hC hX hbl (t := 1) dL_law_607 dL_law_608 dL_law_609 (by decide) dL_law_610 dL_law_611 (by omega) (by omega) hS (lv_at hl 0 rfl) (lv_at hl 3 rfl) ?_
  refine lx_arg hC hX hbl (t := 2) dL_law_612 dL_law_613 dL_law_614 (by decide) dL_law_615 dL_law_616 (by omega) (by omega) hS (lv_at hl 0 rfl) (lv_at hl 3 rfl) ?_
  refine lx_callV (As := [xs (i + 1), xs (i + 2)]) (a := 0) (rest := []) kcX11 lbX11_slot llL_74 imX11_slot seX11_X11_slot_X11_slot rfl rfl (Nat.le_of_ble_eq_true rfl) dL_law_617 o0 (X11_slot_c G hp 0 (xs (i + 1)) (xs (i + 2)) _ e1) hC hR hS hl.1 (fun rv hh H1 locs1 hq hR1 hS1 => ?_)
  obtain ⟨hq1, hq2⟩ := hq
  subst hq1
  subst hq2
  show W p G.1 e room_1 s m #[Value.ref b] below meth c H1 locs1 (Array.size H1 - s.heap.size) (1848 * (Array.size H1 - s.heap.size)) (lw_Z below #[Value.ref b] s) (F0 m 620 ls [.int r])
  refine lv_aload_n hx hb dL_law_620 rfl (lv_at hl 2 rfl) ?_
  refine lx_arg hC hX hbl (t := 1) dL_law_621 dL_law_622 dL_law_623 (by decide) dL_law_624 dL_law_625 (by omega) (by omega) hS1 (lv_at hl 0 rfl) (lv_at hl 3 rfl) ?_
  refine lx_arg hC hX hbl (t := 2) dL_law_626 dL_law_627 dL_law_628 (by decide) dL_law_629 dL_law_630 (by omega) (by omega) hS1 (lv_at hl 0 rfl) (lv_at hl 3 rfl) ?_
  refine lx_callV (As := [xs (i + 1), xs (i + 2)]) (a := 38) (rest := [.int r]) kcX12 lbX12_slot llL_77 imX12_slot seX12_X12_slot_X12_slot rfl rfl (Nat.le_of_ble_eq_true rfl) dL_law_631 o1 (X12_slot_c G _ 38 (xs (i + 1)) (xs (i + 2)) _ e2) hC hR1 hS1 hl.1 (fun rv hh H2 locs2 hq hR2 hS2 => ?_)
  obtain ⟨hq1, hq2⟩ := hq
  subst hq1
  subst hq2
  show W p G.1 e room_1 s m #[Value.ref b] below meth c H2 locs2 (Array.size H2 - s.heap.size) (1848 * (Array.size H2 - s.heap.size)) (lw_Z below #[Value.ref b] s) (F0 m 634 ls [.int r, .int r])
  refine lv_icmp_eq (tgt := 1392) hx hb dL_law_634 (by decide) (fun _ => k _ _ _ hI2 hR2 hS2) (fun hne => absurd rfl hne)
def lx_ag_turner (Inv : Nat → kw_H → Prop) : Prop := ∀ (j : Nat) (hp : kw_H), Inv j hp → j < 64 → ∀ (a1 a2 : Int32), ∃ (r : Int32), X11_turner_F hp 0 a1 a2 = some r ∧ (∃ fs, hp[38]? = some (.inr (11, fs))) ∧ X12_turner_F hp 38 a1 a2 = some r ∧ Inv (j + 1) hp
set_option maxRecDepth 100000 in
set_option maxHeartbeats 4000000 in
theorem lx_arm_15 {G : kw_G} {p : Program} {e : Env} {s : State} {m : MethodId} {below : List Frame} {meth : Method} {c : Code} {b L : Nat} {xs : Nat → Int32} (Inv : Nat → kw_H → Prop) (hO : ∀ j hp, Inv j hp → ∃ fs, hp[0]? = some (.inr (10, fs))) (hag : lx_ag_turner Inv) (hC : lx_C G p s m #[Value.ref b] c) (hX : va_X b L xs s s.heap) (hbl : b < s.heap.size) {i j : Nat} (hi : i + 6 ≤ L) (hL : L ≤ 384) {hp : kw_H} {H : Heap} {locs : List Loc} {ls : Array Slot} (hI : Inv j hp) (hj : j < 64) (hR : kw_R G hp H) (hS : va_S (fun q => G.2.1 ≤ q) s.heap H locs) (hl : lv_has ls 4 [(0, .ref b), (1, .ref (G.2.1 + 0)), (2, .ref (G.2.1 + 38)), (3, .int (nI i))]) (k : ∀ (hp2 : kw_H) (H2 : Heap) (locs2 : List Loc), Inv (j + 1) hp2 → kw_R G hp2 H2 → va_S (fun q => G.2.1 ≤ q) s.heap H2 locs2 → W p G.1 e room_1 s m #[Value.ref b] below meth c H2 locs2 (Array.size H2 - s.heap.size) (1848 * (Array.size H2 - s.heap.size)) (lw_Z below #[Value.ref b] s) (F0 m 1392 ls [])) : W p G.1 e room_1 s m #[Value.ref b] below meth c H locs (Array.size H - s.heap.size) (1848 * (Array.size H - s.heap.size)) (lw_Z below #[Value.ref b] s) (F0 m 639 ls []) := by
  obtain ⟨hx, hb, hml, hown, hts, hZ, hN⟩ := id hC
  obtain ⟨r, e1, ⟨fs1, o1⟩, e2, hI2⟩ := hag j hp hI hj (xs (i + 1)) (xs (i + 2))
  obtain ⟨fs0, o0⟩ := hO j hp hI
  refine lv_aload_n hx hb dL_law_639 rfl (lv_at hl 1 rfl) ?_
  refine lx_arg hC hX hbl (t := 1) dL_law_640 dL_law_641 dL_law_642 (by decide) dL_law_643 dL_law_644 (by omega) (by omega) hS (lv_at hl 0 rfl) (lv_at hl 3 rfl) ?_
  refine lx_arg hC hX hbl (t := 2) dL_law_645 dL_law_646 dL_law_647 (by decide) dL_law_648 dL_law_649 (by omega) (by omega) hS (lv_at hl 0 rfl) (lv_at hl 3 rfl) ?_
  refine lx_callV (As := [xs (i + 1), xs (i + 2)]) (a := 0) (rest := []) kcX11 lbX11_turner llL_78 imX11_turner seX11_X11_turner_X11_turner rfl rfl (Nat.le_of_ble_eq_true rfl) dL_law_650 o0 (X11_turner_c G hp 0 (xs (i + 1)) (xs (i + 2)) _ e1) hC hR hS hl.1 (fun rv hh H1 locs1 hq hR1 hS1 => ?_)
  obtain ⟨hq1, hq2⟩ := hq
  subst hq1
  subst hq2
  show W p G.1 e room_1 s m #[Value.ref b] below meth c H1 locs1 (Array.size H1 - s.heap.size) (1848 * (Array.size H1 - s.heap.size)) (lw_Z below #[Value.ref b] s) (F0 m 653 ls [.int r])
  refine lv_aload_n hx hb dL_law_653 rfl (lv_at hl 2 rfl) ?_
  refine lx_arg hC hX hbl (t := 1) dL_law_654 dL_law_655 dL_law_656 (by decide) dL_law_657 dL_law_658 (by omega) (by omega) hS1 (lv_at hl 0 rfl) (lv_at hl 3 rfl) ?_
  refine lx_arg hC hX hbl (t := 2) dL_law_659 dL_law_660 dL_law_661 (by decide) dL_law_662 dL_law_663 (by omega) (by omega) hS1 (lv_at hl 0 rfl) (lv_at hl 3 rfl) ?_
  refine lx_callV (As := [xs (i + 1), xs (i + 2)]) (a := 38) (rest := [.int r]) kcX12 lbX12_turner llL_81 imX12_turner seX12_X12_turner_X12_turner rfl rfl (Nat.le_of_ble_eq_true rfl) dL_law_664 o1 (X12_turner_c G _ 38 (xs (i + 1)) (xs (i + 2)) _ e2) hC hR1 hS1 hl.1 (fun rv hh H2 locs2 hq hR2 hS2 => ?_)
  obtain ⟨hq1, hq2⟩ := hq
  subst hq1
  subst hq2
  show W p G.1 e room_1 s m #[Value.ref b] below meth c H2 locs2 (Array.size H2 - s.heap.size) (1848 * (Array.size H2 - s.heap.size)) (lw_Z below #[Value.ref b] s) (F0 m 667 ls [.int r, .int r])
  refine lv_icmp_eq (tgt := 1392) hx hb dL_law_667 (by decide) (fun _ => k _ _ _ hI2 hR2 hS2) (fun hne => absurd rfl hne)
def lx_ag_hasJobs (Inv : Nat → kw_H → Prop) : Prop := ∀ (j : Nat) (hp : kw_H), Inv j hp → j < 64 → ∀ (a1 a2 : Int32), ∃ (r : Int32) (hp2 : kw_H), X11_hasJobs_F hp 0 a1 a2 = some r ∧ (∃ fs, hp[38]? = some (.inr (11, fs))) ∧ X12_hasJobs_F hp 38 a1 a2 = some (r, hp2) ∧ Inv (j + 1) hp2
set_option maxRecDepth 100000 in
set_option maxHeartbeats 4000000 in
theorem lx_arm_16 {G : kw_G} {p : Program} {e : Env} {s : State} {m : MethodId} {below : List Frame} {meth : Method} {c : Code} {b L : Nat} {xs : Nat → Int32} (Inv : Nat → kw_H → Prop) (hO : ∀ j hp, Inv j hp → ∃ fs, hp[0]? = some (.inr (10, fs))) (hag : lx_ag_hasJobs Inv) (hC : lx_C G p s m #[Value.ref b] c) (hX : va_X b L xs s s.heap) (hbl : b < s.heap.size) {i j : Nat} (hi : i + 6 ≤ L) (hL : L ≤ 384) {hp : kw_H} {H : Heap} {locs : List Loc} {ls : Array Slot} (hI : Inv j hp) (hj : j < 64) (hR : kw_R G hp H) (hS : va_S (fun q => G.2.1 ≤ q) s.heap H locs) (hl : lv_has ls 4 [(0, .ref b), (1, .ref (G.2.1 + 0)), (2, .ref (G.2.1 + 38)), (3, .int (nI i))]) (k : ∀ (hp2 : kw_H) (H2 : Heap) (locs2 : List Loc), Inv (j + 1) hp2 → kw_R G hp2 H2 → va_S (fun q => G.2.1 ≤ q) s.heap H2 locs2 → W p G.1 e room_1 s m #[Value.ref b] below meth c H2 locs2 (Array.size H2 - s.heap.size) (1848 * (Array.size H2 - s.heap.size)) (lw_Z below #[Value.ref b] s) (F0 m 1392 ls [])) : W p G.1 e room_1 s m #[Value.ref b] below meth c H locs (Array.size H - s.heap.size) (1848 * (Array.size H - s.heap.size)) (lw_Z below #[Value.ref b] s) (F0 m 672 ls []) := by
  obtain ⟨hx, hb, hml, hown, hts, hZ, hN⟩ := id hC
  obtain ⟨r, hp2, e1, ⟨fs1, o1⟩, e2, hI2⟩ := hag j hp hI hj (xs (i + 1)) (xs (i + 2))
  obtain ⟨fs0, o0⟩ := hO j hp hI
  refine lv_aload_n hx hb dL_law_672 rfl (lv_at hl 1 rfl) ?_
  refine lx_arg hC hX hbl (t := 1) dL_law_673 dL_law_674 dL_law_675 (by decide) dL_law_676 dL_law_677 (by omega) (by omega) hS (lv_at hl 0 rfl) (lv_at hl 3 rfl) ?_
  refine lx_arg hC hX hbl (t := 2) dL_law_678 dL_law_679 dL_law_680 (by decide) dL_law_681 dL_law_682 (by omega) (by omega) hS (lv_at hl 0 rfl) (lv_at hl 3 rfl) ?_
  refine lx_callV (As := [xs (i + 1), xs (i + 2)]) (a := 0) (rest := []) kcX11 lbX11_hasJobs llL_82 imX11_hasJobs seX11_X11_hasJobs_X11_hasJobs rfl rfl (Nat.le_of_ble_eq_true rfl) dL_law_683 o0 (X11_hasJobs_c G hp 0 (xs (i + 1)) (xs (i + 2)) _ e1) hC hR hS hl.1 (fun rv hh H1 locs1 hq hR1 hS1 => ?_)
  obtain ⟨hq1, hq2⟩ := hq
  subst hq1
  subst hq2
  show W p G.1 e room_1 s m #[Value.ref b] below meth c H1 locs1 (Array.size H1 - s.heap.size) (1848 * (Array.size H1 - s.heap.size)) (lw_Z below #[Value.ref b] s) (F0 m 686 ls [.int r])
  refine lv_aload_n hx hb dL_law_686 rfl (lv_at hl 2 rfl) ?_
  refine lx_arg hC hX hbl (t := 1) dL_law_687 dL_law_688 dL_law_689 (by decide) dL_law_690 dL_law_691 (by omega) (by omega) hS1 (lv_at hl 0 rfl) (lv_at hl 3 rfl) ?_
  refine lx_arg hC hX hbl (t := 2) dL_law_692 dL_law_693 dL_law_694 (by decide) dL_law_695 dL_law_696 (by omega) (by omega) hS1 (lv_at hl 0 rfl) (lv_at hl 3 rfl) ?_
  refine lx_callV (As := [xs (i + 1), xs (i + 2)]) (a := 38) (rest := [.int r]) kcX12 lbX12_hasJobs llL_85 imX12_hasJobs seX12_X12_hasJobs_X12_hasJobs rfl rfl (Nat.le_of_ble_eq_true rfl) dL_law_697 o1 (X12_hasJobs_c G _ 38 (xs (i + 1)) (xs (i + 2)) _ e2) hC hR1 hS1 hl.1 (fun rv hh H2 locs2 hq hR2 hS2 => ?_)
  obtain ⟨hq1, hq2⟩ := hq
  subst hq1
  subst hq2
  show W p G.1 e room_1 s m #[Value.ref b] below meth c H2 locs2 (Array.size H2 - s.heap.size) (1848 * (Array.size H2 - s.heap.size)) (lw_Z below #[Value.ref b] s) (F0 m 700 ls [.int r, .int r])
  refine lv_icmp_eq (tgt := 1392) hx hb dL_law_700 (by decide) (fun _ => k _ _ _ hI2 hR2 hS2) (fun hne => absurd rfl hne)
def lx_ag_whoDoes (Inv : Nat → kw_H → Prop) : Prop := ∀ (j : Nat) (hp : kw_H), Inv j hp → j < 64 → ∀ (a1 a2 : Int32), ∃ (r : Int32) (hp2 : kw_H), X11_whoDoes_F hp 0 a1 a2 = some r ∧ (∃ fs, hp[38]? = some (.inr (11, fs))) ∧ X12_whoDoes_F hp 38 a1 a2 = some (r, hp2) ∧ Inv (j + 1) hp2
set_option maxRecDepth 100000 in
set_option maxHeartbeats 4000000 in
theorem lx_arm_17 {G : kw_G} {p : Program} {e : Env} {s : State} {m : MethodId} {below : List Frame} {meth : Method} {c : Code} {b L : Nat} {xs : Nat → Int32} (Inv : Nat → kw_H → Prop) (hO : ∀ j hp, Inv j hp → ∃ fs, hp[0]? = some (.inr (10, fs))) (hag : lx_ag_whoDoes Inv) (hC : lx_C G p s m #[Value.ref b] c) (hX : va_X b L xs s s.heap) (hbl : b < s.heap.size) {i j : Nat} (hi : i + 6 ≤ L) (hL : L ≤ 384) {hp : kw_H} {H : Heap} {locs : List Loc} {ls : Array Slot} (hI : Inv j hp) (hj : j < 64) (hR : kw_R G hp H) (hS : va_S (fun q => G.2.1 ≤ q) s.heap H locs) (hl : lv_has ls 4 [(0, .ref b), (1, .ref (G.2.1 + 0)), (2, .ref (G.2.1 + 38)), (3, .int (nI i))]) (k : ∀ (hp2 : kw_H) (H2 : Heap) (locs2 : List Loc), Inv (j + 1) hp2 → kw_R G hp2 H2 → va_S (fun q => G.2.1 ≤ q) s.heap H2 locs2 → W p G.1 e room_1 s m #[Value.ref b] below meth c H2 locs2 (Array.size H2 - s.heap.size) (1848 * (Array.size H2 - s.heap.size)) (lw_Z below #[Value.ref b] s) (F0 m 1392 ls [])) : W p G.1 e room_1 s m #[Value.ref b] below meth c H locs (Array.size H - s.heap.size) (1848 * (Array.size H - s.heap.size)) (lw_Z below #[Value.ref b] s) (F0 m 705 ls []) := by
  obtain ⟨hx, hb, hml, hown, hts, hZ, hN⟩ := id hC
  obtain ⟨r, hp2, e1, ⟨fs1, o1⟩, e2, hI2⟩ := hag j hp hI hj (xs (i + 1)) (xs (i + 2))
  obtain ⟨fs0, o0⟩ := hO j hp hI
  refine lv_aload_n hx hb dL_law_705 rfl (lv_at hl 1 rfl) ?_
  refine lx_arg hC hX hbl (t := 1) dL_law_706 dL_law_707 dL_law_708 (by decide) dL_law_709 dL_law_710 (by omega) (by omega) hS (lv_at hl 0 rfl) (lv_at hl 3 rfl) ?_
  refine lx_arg hC hX hbl (t := 2) dL_law_711 dL_law_712 dL_law_713 (by decide) dL_law_714 dL_law_715 (by omega) (by omega) hS (lv_at hl 0 rfl) (lv_at hl 3 rfl) ?_
  refine lx_callV (As := [xs (i + 1), xs (i + 2)]) (a := 0) (rest := []) kcX11 lbX11_whoDoes llL_86 imX11_whoDoes seX11_X11_whoDoes_X11_whoDoes rfl rfl (Nat.le_of_ble_eq_true rfl) dL_law_716 o0 (X11_whoDoes_c G hp 0 (xs (i + 1)) (xs (i + 2)) _ e1) hC hR hS hl.1 (fun rv hh H1 locs1 hq hR1 hS1 => ?_)
  obtain ⟨hq1, hq2⟩ := hq
  subst hq1
  subst hq2
  show W p G.1 e room_1 s m #[Value.ref b] below meth c H1 locs1 (Array.size H1 - s.heap.size) (1848 * (Array.size H1 - s.heap.size)) (lw_Z below #[Value.ref b] s) (F0 m 719 ls [.int r])
  refine lv_aload_n hx hb dL_law_719 rfl (lv_at hl 2 rfl) ?_
  refine lx_arg hC hX hbl (t := 1) dL_law_720 dL_law_721 dL_law_722 (by decide) dL_law_723 dL_law_724 (by omega) (by omega) hS1 (lv_at hl 0 rfl) (lv_at hl 3 rfl) ?_
  refine lx_arg hC hX hbl (t := 2) dL_law_725 dL_law_726 dL_law_727 (by decide) dL_law_728 dL_law_729 (by omega) (by omega) hS1 (lv_at hl 0 rfl) (lv_at hl 3 rfl) ?_
  refine lx_callV (As := [xs (i + 1), xs (i + 2)]) (a := 38) (rest := [.int r]) kcX12 lbX12_whoDoes llL_89 imX12_whoDoes seX12_X12_whoDoes_X12_whoDoes rfl rfl (Nat.le_of_ble_eq_true rfl) dL_law_730 o1 (X12_whoDoes_c G _ 38 (xs (i + 1)) (xs (i + 2)) _ e2) hC hR1 hS1 hl.1 (fun rv hh H2 locs2 hq hR2 hS2 => ?_)
  obtain ⟨hq1, hq2⟩ := hq
  subst hq1
  subst hq2
  show W p G.1 e room_1 s m #[Value.ref b] below meth c H2 locs2 (Array.size H2 - s.heap.size) (1848 * (Array.size H2 - s.heap.size)) (lw_Z below #[Value.ref b] s) (F0 m 733 ls [.int r, .int r])
  refine lv_icmp_eq (tgt := 1392) hx hb dL_law_733 (by decide) (fun _ => k _ _ _ hI2 hR2 hS2) (fun hne => absurd rfl hne)
def lx_ag_often (Inv : Nat → kw_H → Prop) : Prop := ∀ (j : Nat) (hp : kw_H), Inv j hp → j < 64 → ∀ (a1 a2 a3 : Int32), ∃ (r : Int32) (hp2 : kw_H), X11_often_F hp 0 a1 a2 a3 = some r ∧ (∃ fs, hp[38]? = some (.inr (11, fs))) ∧ X12_often_F hp 38 a1 a2 a3 = some (r, hp2) ∧ Inv (j + 1) hp2
set_option maxRecDepth 100000 in
set_option maxHeartbeats 4000000 in
theorem lx_arm_18 {G : kw_G} {p : Program} {e : Env} {s : State} {m : MethodId} {below : List Frame} {meth : Method} {c : Code} {b L : Nat} {xs : Nat → Int32} (Inv : Nat → kw_H → Prop) (hO : ∀ j hp, Inv j hp → ∃ fs, hp[0]? = some (.inr (10, fs))) (hag : lx_ag_often Inv) (hC : lx_C G p s m #[Value.ref b] c) (hX : va_X b L xs s s.heap) (hbl : b < s.heap.size) {i j : Nat} (hi : i + 6 ≤ L) (hL : L ≤ 384) {hp : kw_H} {H : Heap} {locs : List Loc} {ls : Array Slot} (hI : Inv j hp) (hj : j < 64) (hR : kw_R G hp H) (hS : va_S (fun q => G.2.1 ≤ q) s.heap H locs) (hl : lv_has ls 4 [(0, .ref b), (1, .ref (G.2.1 + 0)), (2, .ref (G.2.1 + 38)), (3, .int (nI i))]) (k : ∀ (hp2 : kw_H) (H2 : Heap) (locs2 : List Loc), Inv (j + 1) hp2 → kw_R G hp2 H2 → va_S (fun q => G.2.1 ≤ q) s.heap H2 locs2 → W p G.1 e room_1 s m #[Value.ref b] below meth c H2 locs2 (Array.size H2 - s.heap.size) (1848 * (Array.size H2 - s.heap.size)) (lw_Z below #[Value.ref b] s) (F0 m 1392 ls [])) : W p G.1 e room_1 s m #[Value.ref b] below meth c H locs (Array.size H - s.heap.size) (1848 * (Array.size H - s.heap.size)) (lw_Z below #[Value.ref b] s) (F0 m 738 ls []) := by
  obtain ⟨hx, hb, hml, hown, hts, hZ, hN⟩ := id hC
  obtain ⟨r, hp2, e1, ⟨fs1, o1⟩, e2, hI2⟩ := hag j hp hI hj (xs (i + 1)) (xs (i + 2)) (xs (i + 3))
  obtain ⟨fs0, o0⟩ := hO j hp hI
  refine lv_aload_n hx hb dL_law_738 rfl (lv_at hl 1 rfl) ?_
  refine lx_arg hC hX hbl (t := 1) dL_law_739 dL_law_740 dL_law_741 (by decide) dL_law_742 dL_law_743 (by omega) (by omega) hS (lv_at hl 0 rfl) (lv_at hl 3 rfl) ?_
  refine lx_arg hC hX hbl (t := 2) dL_law_744 dL_law_745 dL_law_746 (by decide) dL_law_747 dL_law_748 (by omega) (by omega) hS (lv_at hl 0 rfl) (lv_at hl 3 rfl) ?_
  refine lx_arg hC hX hbl (t := 3) dL_law_749 dL_law_750 dL_law_751 (by decide) dL_law_752 dL_law_753 (by omega) (by omega) hS (lv_at hl 0 rfl) (lv_at hl 3 rfl) ?_
  refine lx_callV (As := [xs (i + 1), xs (i + 2), xs (i + 3)]) (a := 0) (rest := []) kcX11 lbX11_often llL_90 imX11_often seX11_X11_often_X11_often rfl rfl (Nat.le_of_ble_eq_true rfl) dL_law_754 o0 (X11_often_c G hp 0 (xs (i + 1)) (xs (i + 2)) (xs (i + 3)) _ e1) hC hR hS hl.1 (fun rv hh H1 locs1 hq hR1 hS1 => ?_)
  obtain ⟨hq1, hq2⟩ := hq
  subst hq1
  subst hq2
  show W p G.1 e room_1 s m #[Value.ref b] below meth c H1 locs1 (Array.size H1 - s.heap.size) (1848 * (Array.size H1 - s.heap.size)) (lw_Z below #[Value.ref b] s) (F0 m 757 ls [.int r])
  refine lv_aload_n hx hb dL_law_757 rfl (lv_at hl 2 rfl) ?_
  refine lx_arg hC hX hbl (t := 1) dL_law_758 dL_law_759 dL_law_760 (by decide) dL_law_761 dL_law_762 (by omega) (by omega) hS1 (lv_at hl 0 rfl) (lv_at hl 3 rfl) ?_
  refine lx_arg hC hX hbl (t := 2) dL_law_763 dL_law_764 dL_law_765 (by decide) dL_law_766 dL_law_767 (by omega) (by omega) hS1 (lv_at hl 0 rfl) (lv_at hl 3 rfl) ?_
  refine lx_arg hC hX hbl (t := 3) dL_law_768 dL_law_769 dL_law_770 (by decide) dL_law_771 dL_law_772 (by omega) (by omega) hS1 (lv_at hl 0 rfl) (lv_at hl 3 rfl) ?_
  refine lx_callV (As := [xs (i + 1), xs (i + 2), xs (i + 3)]) (a := 38) (rest := [.int r]) kcX12 lbX12_often llL_93 imX12_often seX12_X12_often_X12_often rfl rfl (Nat.le_of_ble_eq_true rfl) dL_law_773 o1 (X12_often_c G _ 38 (xs (i + 1)) (xs (i + 2)) (xs (i + 3)) _ e2) hC hR1 hS1 hl.1 (fun rv hh H2 locs2 hq hR2 hS2 => ?_)
  obtain ⟨hq1, hq2⟩ := hq
  subst hq1
  subst hq2
  show W p G.1 e room_1 s m #[Value.ref b] below meth c H2 locs2 (Array.size H2 - s.heap.size) (1848 * (Array.size H2 - s.heap.size)) (lw_Z below #[Value.ref b] s) (F0 m 776 ls [.int r, .int r])
  refine lv_icmp_eq (tgt := 1392) hx hb dL_law_776 (by decide) (fun _ => k _ _ _ hI2 hR2 hS2) (fun hne => absurd rfl hne)
def lx_ag_meets (Inv : Nat → kw_H → Prop) : Prop := ∀ (j : Nat) (hp : kw_H), Inv j hp → j < 64 → ∀ (a1 a2 : Int32), ∃ (r : Int32) (hp2 : kw_H), X11_meets_F hp 0 a1 a2 = some r ∧ (∃ fs, hp[38]? = some (.inr (11, fs))) ∧ X12_meets_F hp 38 a1 a2 = some (r, hp2) ∧ Inv (j + 1) hp2
set_option maxRecDepth 100000 in
set_option maxHeartbeats 4000000 in
theorem lx_arm_19 {G : kw_G} {p : Program} {e : Env} {s : State} {m : MethodId} {below : List Frame} {meth : Method} {c : Code} {b L : Nat} {xs : Nat → Int32} (Inv : Nat → kw_H → Prop) (hO : ∀ j hp, Inv j hp → ∃ fs, hp[0]? = some (.inr (10, fs))) (hag : lx_ag_meets Inv) (hC : lx_C G p s m #[Value.ref b] c) (hX : va_X b L xs s s.heap) (hbl : b < s.heap.size) {i j : Nat} (hi : i + 6 ≤ L) (hL : L ≤ 384) {hp : kw_H} {H : Heap} {locs : List Loc} {ls : Array Slot} (hI : Inv j hp) (hj : j < 64) (hR : kw_R G hp H) (hS : va_S (fun q => G.2.1 ≤ q) s.heap H locs) (hl : lv_has ls 4 [(0, .ref b), (1, .ref (G.2.1 + 0)), (2, .ref (G.2.1 + 38)), (3, .int (nI i))]) (k : ∀ (hp2 : kw_H) (H2 : Heap) (locs2 : List Loc), Inv (j + 1) hp2 → kw_R G hp2 H2 → va_S (fun q => G.2.1 ≤ q) s.heap H2 locs2 → W p G.1 e room_1 s m #[Value.ref b] below meth c H2 locs2 (Array.size H2 - s.heap.size) (1848 * (Array.size H2 - s.heap.size)) (lw_Z below #[Value.ref b] s) (F0 m 1392 ls [])) : W p G.1 e room_1 s m #[Value.ref b] below meth c H locs (Array.size H - s.heap.size) (1848 * (Array.size H - s.heap.size)) (lw_Z below #[Value.ref b] s) (F0 m 781 ls []) := by
  obtain ⟨hx, hb, hml, hown, hts, hZ, hN⟩ := id hC
  obtain ⟨r, hp2, e1, ⟨fs1, o1⟩, e2, hI2⟩ := hag j hp hI hj (xs (i + 1)) (xs (i + 2))
  obtain ⟨fs0, o0⟩ := hO j hp hI
  refine lv_aload_n hx hb dL_law_781 rfl (lv_at hl 1 rfl) ?_
  refine lx_arg hC hX hbl (t := 1) dL_law_782 dL_law_783 dL_law_784 (by decide) dL_law_785 dL_law_786 (by omega) (by omega) hS (lv_at hl 0 rfl) (lv_at hl 3 rfl) ?_
  refine lx_arg hC hX hbl (t := 2) dL_law_787 dL_law_788 dL_law_789 (by decide) dL_law_790 dL_law_791 (by omega) (by omega) hS (lv_at hl 0 rfl) (lv_at hl 3 rfl) ?_
  refine lx_callV (As := [xs (i + 1), xs (i + 2)]) (a := 0) (rest := []) kcX11 lbX11_meets llL_94 imX11_meets seX11_X11_meets_X11_meets rfl rfl (Nat.le_of_ble_eq_true rfl) dL_law_792 o0 (X11_meets_c G hp 0 (xs (i + 1)) (xs (i + 2)) _ e1) hC hR hS hl.1 (fun rv hh H1 locs1 hq hR1 hS1 => ?_)
  obtain ⟨hq1, hq2⟩ := hq
  subst hq1
  subst hq2
  show W p G.1 e room_1 s m #[Value.ref b] below meth c H1 locs1 (Array.size H1 - s.heap.size) (1848 * (Array.size H1 - s.heap.size)) (lw_Z below #[Value.ref b] s) (F0 m 795 ls [.int r])
  refine lv_aload_n hx hb dL_law_795 rfl (lv_at hl 2 rfl) ?_
  refine lx_arg hC hX hbl (t := 1) dL_law_796 dL_law_797 dL_law_798 (by decide) dL_law_799 dL_law_800 (by omega) (by omega) hS1 (lv_at hl 0 rfl) (lv_at hl 3 rfl) ?_
  refine lx_arg hC hX hbl (t := 2) dL_law_801 dL_law_802 dL_law_803 (by decide) dL_law_804 dL_law_805 (by omega) (by omega) hS1 (lv_at hl 0 rfl) (lv_at hl 3 rfl) ?_
  refine lx_callV (As := [xs (i + 1), xs (i + 2)]) (a := 38) (rest := [.int r]) kcX12 lbX12_meets llL_97 imX12_meets seX12_X12_meets_X12_meets rfl rfl (Nat.le_of_ble_eq_true rfl) dL_law_806 o1 (X12_meets_c G _ 38 (xs (i + 1)) (xs (i + 2)) _ e2) hC hR1 hS1 hl.1 (fun rv hh H2 locs2 hq hR2 hS2 => ?_)
  obtain ⟨hq1, hq2⟩ := hq
  subst hq1
  subst hq2
  show W p G.1 e room_1 s m #[Value.ref b] below meth c H2 locs2 (Array.size H2 - s.heap.size) (1848 * (Array.size H2 - s.heap.size)) (lw_Z below #[Value.ref b] s) (F0 m 809 ls [.int r, .int r])
  refine lv_icmp_eq (tgt := 1392) hx hb dL_law_809 (by decide) (fun _ => k _ _ _ hI2 hR2 hS2) (fun hne => absurd rfl hne)
def lx_ag_allMet (Inv : Nat → kw_H → Prop) : Prop := ∀ (j : Nat) (hp : kw_H), Inv j hp → j < 64 → ∀ (_ : Unit), ∃ (r : Int32) (hp1 : kw_H) (hp2 : kw_H), X11_allMet_F hp 0 = some (r, hp1) ∧ (∃ fs, hp1[38]? = some (.inr (11, fs))) ∧ X12_allMet_F hp1 38 = some (r, hp2) ∧ Inv (j + 1) hp2
set_option maxRecDepth 100000 in
set_option maxHeartbeats 4000000 in
theorem lx_arm_20 {G : kw_G} {p : Program} {e : Env} {s : State} {m : MethodId} {below : List Frame} {meth : Method} {c : Code} {b L : Nat} {xs : Nat → Int32} (Inv : Nat → kw_H → Prop) (hO : ∀ j hp, Inv j hp → ∃ fs, hp[0]? = some (.inr (10, fs))) (hag : lx_ag_allMet Inv) (hC : lx_C G p s m #[Value.ref b] c) (hX : va_X b L xs s s.heap) (hbl : b < s.heap.size) {i j : Nat} (hi : i + 6 ≤ L) (hL : L ≤ 384) {hp : kw_H} {H : Heap} {locs : List Loc} {ls : Array Slot} (hI : Inv j hp) (hj : j < 64) (hR : kw_R G hp H) (hS : va_S (fun q => G.2.1 ≤ q) s.heap H locs) (hl : lv_has ls 4 [(0, .ref b), (1, .ref (G.2.1 + 0)), (2, .ref (G.2.1 + 38)), (3, .int (nI i))]) (k : ∀ (hp2 : kw_H) (H2 : Heap) (locs2 : List Loc), Inv (j + 1) hp2 → kw_R G hp2 H2 → va_S (fun q => G.2.1 ≤ q) s.heap H2 locs2 → W p G.1 e room_1 s m #[Value.ref b] below meth c H2 locs2 (Array.size H2 - s.heap.size) (1848 * (Array.size H2 - s.heap.size)) (lw_Z below #[Value.ref b] s) (F0 m 1392 ls [])) : W p G.1 e room_1 s m #[Value.ref b] below meth c H locs (Array.size H - s.heap.size) (1848 * (Array.size H - s.heap.size)) (lw_Z below #[Value.ref b] s) (F0 m 814 ls []) := by
  obtain ⟨hx, hb, hml, hown, hts, hZ, hN⟩ := id hC
  obtain ⟨r, hp1, hp2, e1, ⟨fs1, o1⟩, e2, hI2⟩ := hag j hp hI hj ()
  obtain ⟨fs0, o0⟩ := hO j hp hI
  refine lv_aload_n hx hb dL_law_814 rfl (lv_at hl 1 rfl) ?_
  refine lx_callV (As := []) (a := 0) (rest := []) kcX11 lbX11_allMet llL_98 imX11_allMet seX11_X11_allMet_X11_allMet rfl rfl (Nat.le_of_ble_eq_true rfl) dL_law_815 o0 (X11_allMet_c G hp 0 _ e1) hC hR hS hl.1 (fun rv hh H1 locs1 hq hR1 hS1 => ?_)
  obtain ⟨hq1, hq2⟩ := hq
  subst hq1
  subst hq2
  show W p G.1 e room_1 s m #[Value.ref b] below meth c H1 locs1 (Array.size H1 - s.heap.size) (1848 * (Array.size H1 - s.heap.size)) (lw_Z below #[Value.ref b] s) (F0 m 818 ls [.int r])
  refine lv_aload_n hx hb dL_law_818 rfl (lv_at hl 2 rfl) ?_
  refine lx_callV (As := []) (a := 38) (rest := [.int r]) kcX12 lbX12_allMet llL_101 imX12_allMet seX12_X12_allMet_X12_allMet rfl rfl (Nat.le_of_ble_eq_true rfl) dL_law_819 o1 (X12_allMet_c G _ 38 _ e2) hC hR1 hS1 hl.1 (fun rv hh H2 locs2 hq hR2 hS2 => ?_)
  obtain ⟨hq1, hq2⟩ := hq
  subst hq1
  subst hq2
  show W p G.1 e room_1 s m #[Value.ref b] below meth c H2 locs2 (Array.size H2 - s.heap.size) (1848 * (Array.size H2 - s.heap.size)) (lw_Z below #[Value.ref b] s) (F0 m 822 ls [.int r, .int r])
  refine lv_icmp_eq (tgt := 1392) hx hb dL_law_822 (by decide) (fun _ => k _ _ _ hI2 hR2 hS2) (fun hne => absurd rfl hne)
def lx_ag_round (Inv : Nat → kw_H → Prop) : Prop := ∀ (j : Nat) (hp : kw_H), Inv j hp → j < 64 → ∀ (_ : Unit), ∃ (r : Int32) (hp2 : kw_H), X11_round_F hp 0 = some r ∧ (∃ fs, hp[38]? = some (.inr (11, fs))) ∧ X12_round_F hp 38 = some (r, hp2) ∧ Inv (j + 1) hp2
set_option maxRecDepth 100000 in
set_option maxHeartbeats 4000000 in
theorem lx_arm_21 {G : kw_G} {p : Program} {e : Env} {s : State} {m : MethodId} {below : List Frame} {meth : Method} {c : Code} {b L : Nat} {xs : Nat → Int32} (Inv : Nat → kw_H → Prop) (hO : ∀ j hp, Inv j hp → ∃ fs, hp[0]? = some (.inr (10, fs))) (hag : lx_ag_round Inv) (hC : lx_C G p s m #[Value.ref b] c) (hX : va_X b L xs s s.heap) (hbl : b < s.heap.size) {i j : Nat} (hi : i + 6 ≤ L) (hL : L ≤ 384) {hp : kw_H} {H : Heap} {locs : List Loc} {ls : Array Slot} (hI : Inv j hp) (hj : j < 64) (hR : kw_R G hp H) (hS : va_S (fun q => G.2.1 ≤ q) s.heap H locs) (hl : lv_has ls 4 [(0, .ref b), (1, .ref (G.2.1 + 0)), (2, .ref (G.2.1 + 38)), (3, .int (nI i))]) (k : ∀ (hp2 : kw_H) (H2 : Heap) (locs2 : List Loc), Inv (j + 1) hp2 → kw_R G hp2 H2 → va_S (fun q => G.2.1 ≤ q) s.heap H2 locs2 → W p G.1 e room_1 s m #[Value.ref b] below meth c H2 locs2 (Array.size H2 - s.heap.size) (1848 * (Array.size H2 - s.heap.size)) (lw_Z below #[Value.ref b] s) (F0 m 1392 ls [])) : W p G.1 e room_1 s m #[Value.ref b] below meth c H locs (Array.size H - s.heap.size) (1848 * (Array.size H - s.heap.size)) (lw_Z below #[Value.ref b] s) (F0 m 827 ls []) := by
  obtain ⟨hx, hb, hml, hown, hts, hZ, hN⟩ := id hC
  obtain ⟨r, hp2, e1, ⟨fs1, o1⟩, e2, hI2⟩ := hag j hp hI hj ()
  obtain ⟨fs0, o0⟩ := hO j hp hI
  refine lv_aload_n hx hb dL_law_827 rfl (lv_at hl 1 rfl) ?_
  refine lx_callV (As := []) (a := 0) (rest := []) kcX11 lbX11_round llL_102 imX11_round seX11_X11_round_X11_round rfl rfl (Nat.le_of_ble_eq_true rfl) dL_law_828 o0 (X11_round_c G hp 0 _ e1) hC hR hS hl.1 (fun rv hh H1 locs1 hq hR1 hS1 => ?_)
  obtain ⟨hq1, hq2⟩ := hq
  subst hq1
  subst hq2
  show W p G.1 e room_1 s m #[Value.ref b] below meth c H1 locs1 (Array.size H1 - s.heap.size) (1848 * (Array.size H1 - s.heap.size)) (lw_Z below #[Value.ref b] s) (F0 m 831 ls [.int r])
  refine lv_aload_n hx hb dL_law_831 rfl (lv_at hl 2 rfl) ?_
  refine lx_callV (As := []) (a := 38) (rest := [.int r]) kcX12 lbX12_round llL_105 imX12_round seX12_X12_round_X12_round rfl rfl (Nat.le_of_ble_eq_true rfl) dL_law_832 o1 (X12_round_c G _ 38 _ e2) hC hR1 hS1 hl.1 (fun rv hh H2 locs2 hq hR2 hS2 => ?_)
  obtain ⟨hq1, hq2⟩ := hq
  subst hq1
  subst hq2
  show W p G.1 e room_1 s m #[Value.ref b] below meth c H2 locs2 (Array.size H2 - s.heap.size) (1848 * (Array.size H2 - s.heap.size)) (lw_Z below #[Value.ref b] s) (F0 m 835 ls [.int r, .int r])
  refine lv_icmp_eq (tgt := 1392) hx hb dL_law_835 (by decide) (fun _ => k _ _ _ hI2 hR2 hS2) (fun hne => absurd rfl hne)
def lx_ag_fairest (Inv : Nat → kw_H → Prop) : Prop := ∀ (j : Nat) (hp : kw_H), Inv j hp → j < 64 → ∀ (a1 a2 : Int32), ∃ (r : Int32) (hp1 : kw_H) (hp2 : kw_H), X11_fairest_F hp 0 a1 a2 = some (r, hp1) ∧ (∃ fs, hp1[38]? = some (.inr (11, fs))) ∧ X12_fairest_F hp1 38 a1 a2 = some (r, hp2) ∧ Inv (j + 1) hp2
set_option maxRecDepth 100000 in
set_option maxHeartbeats 4000000 in
theorem lx_arm_22 {G : kw_G} {p : Program} {e : Env} {s : State} {m : MethodId} {below : List Frame} {meth : Method} {c : Code} {b L : Nat} {xs : Nat → Int32} (Inv : Nat → kw_H → Prop) (hO : ∀ j hp, Inv j hp → ∃ fs, hp[0]? = some (.inr (10, fs))) (hag : lx_ag_fairest Inv) (hC : lx_C G p s m #[Value.ref b] c) (hX : va_X b L xs s s.heap) (hbl : b < s.heap.size) {i j : Nat} (hi : i + 6 ≤ L) (hL : L ≤ 384) {hp : kw_H} {H : Heap} {locs : List Loc} {ls : Array Slot} (hI : Inv j hp) (hj : j < 64) (hR : kw_R G hp H) (hS : va_S (fun q => G.2.1 ≤ q) s.heap H locs) (hl : lv_has ls 4 [(0, .ref b), (1, .ref (G.2.1 + 0)), (2, .ref (G.2.1 + 38)), (3, .int (nI i))]) (k : ∀ (hp2 : kw_H) (H2 : Heap) (locs2 : List Loc), Inv (j + 1) hp2 → kw_R G hp2 H2 → va_S (fun q => G.2.1 ≤ q) s.heap H2 locs2 → W p G.1 e room_1 s m #[Value.ref b] below meth c H2 locs2 (Array.size H2 - s.heap.size) (1848 * (Array.size H2 - s.heap.size)) (lw_Z below #[Value.ref b] s) (F0 m 1392 ls [])) : W p G.1 e room_1 s m #[Value.ref b] below meth c H locs (Array.size H - s.heap.size) (1848 * (Array.size H - s.heap.size)) (lw_Z below #[Value.ref b] s) (F0 m 840 ls []) := by
  obtain ⟨hx, hb, hml, hown, hts, hZ, hN⟩ := id hC
  obtain ⟨r, hp1, hp2, e1, ⟨fs1, o1⟩, e2, hI2⟩ := hag j hp hI hj (xs (i + 1)) (xs (i + 2))
  obtain ⟨fs0, o0⟩ := hO j hp hI
  refine lv_aload_n hx hb dL_law_840 rfl (lv_at hl 1 rfl) ?_
  refine lx_arg hC hX hbl (t := 1) dL_law_841 dL_law_842 dL_law_843 (by decide) dL_law_844 dL_law_845 (by omega) (by omega) hS (lv_at hl 0 rfl) (lv_at hl 3 rfl) ?_
  refine lx_arg hC hX hbl (t := 2) dL_law_846 dL_law_847 dL_law_848 (by decide) dL_law_849 dL_law_850 (by omega) (by omega) hS (lv_at hl 0 rfl) (lv_at hl 3 rfl) ?_
  refine lx_callV (As := [xs (i + 1), xs (i + 2)]) (a := 0) (rest := []) kcX11 lbX11_fairest llL_106 imX11_fairest seX11_X11_fairest_X11_fairest rfl rfl (Nat.le_of_ble_eq_true rfl) dL_law_851 o0 (X11_fairest_c G hp 0 (xs (i + 1)) (xs (i + 2)) _ e1) hC hR hS hl.1 (fun rv hh H1 locs1 hq hR1 hS1 => ?_)
  obtain ⟨hq1, hq2⟩ := hq
  subst hq1
  subst hq2
  show W p G.1 e room_1 s m #[Value.ref b] below meth c H1 locs1 (Array.size H1 - s.heap.size) (1848 * (Array.size H1 - s.heap.size)) (lw_Z below #[Value.ref b] s) (F0 m 854 ls [.int r])
  refine lv_aload_n hx hb dL_law_854 rfl (lv_at hl 2 rfl) ?_
  refine lx_arg hC hX hbl (t := 1) dL_law_855 dL_law_856 dL_law_857 (by decide) dL_law_858 dL_law_859 (by omega) (by omega) hS1 (lv_at hl 0 rfl) (lv_at hl 3 rfl) ?_
  refine lx_arg hC hX hbl (t := 2) dL_law_860 dL_law_861 dL_law_862 (by decide) dL_law_863 dL_law_864 (by omega) (by omega) hS1 (lv_at hl 0 rfl) (lv_at hl 3 rfl) ?_
  refine lx_callV (As := [xs (i + 1), xs (i + 2)]) (a := 38) (rest := [.int r]) kcX12 lbX12_fairest llL_109 imX12_fairest seX12_X12_fairest_X12_fairest rfl rfl (Nat.le_of_ble_eq_true rfl) dL_law_865 o1 (X12_fairest_c G _ 38 (xs (i + 1)) (xs (i + 2)) _ e2) hC hR1 hS1 hl.1 (fun rv hh H2 locs2 hq hR2 hS2 => ?_)
  obtain ⟨hq1, hq2⟩ := hq
  subst hq1
  subst hq2
  show W p G.1 e room_1 s m #[Value.ref b] below meth c H2 locs2 (Array.size H2 - s.heap.size) (1848 * (Array.size H2 - s.heap.size)) (lw_Z below #[Value.ref b] s) (F0 m 868 ls [.int r, .int r])
  refine lv_icmp_eq (tgt := 1392) hx hb dL_law_868 (by decide) (fun _ => k _ _ _ hI2 hR2 hS2) (fun hne => absurd rfl hne)
def lx_ag_owed (Inv : Nat → kw_H → Prop) : Prop := ∀ (j : Nat) (hp : kw_H), Inv j hp → j < 64 → ∀ (a1 : Int32), ∃ (r : Int32), X11_owed_F hp 0 a1 = some r ∧ (∃ fs, hp[38]? = some (.inr (11, fs))) ∧ X12_owed_F hp 38 a1 = some r ∧ Inv (j + 1) hp
set_option maxRecDepth 100000 in
set_option maxHeartbeats 4000000 in
theorem lx_arm_23 {G : kw_G} {p : Program} {e : Env} {s : State} {m : MethodId} {below : List Frame} {meth : Method} {c : Code} {b L : Nat} {xs : Nat → Int32} (Inv : Nat → kw_H → Prop) (hO : ∀ j hp, Inv j hp → ∃ fs, hp[0]? = some (.inr (10, fs))) (hag : lx_ag_owed Inv) (hC : lx_C G p s m #[Value.ref b] c) (hX : va_X b L xs s s.heap) (hbl : b < s.heap.size) {i j : Nat} (hi : i + 6 ≤ L) (hL : L ≤ 384) {hp : kw_H} {H : Heap} {locs : List Loc} {ls : Array Slot} (hI : Inv j hp) (hj : j < 64) (hR : kw_R G hp H) (hS : va_S (fun q => G.2.1 ≤ q) s.heap H locs) (hl : lv_has ls 4 [(0, .ref b), (1, .ref (G.2.1 + 0)), (2, .ref (G.2.1 + 38)), (3, .int (nI i))]) (k : ∀ (hp2 : kw_H) (H2 : Heap) (locs2 : List Loc), Inv (j + 1) hp2 → kw_R G hp2 H2 → va_S (fun q => G.2.1 ≤ q) s.heap H2 locs2 → W p G.1 e room_1 s m #[Value.ref b] below meth c H2 locs2 (Array.size H2 - s.heap.size) (1848 * (Array.size H2 - s.heap.size)) (lw_Z below #[Value.ref b] s) (F0 m 1392 ls [])) : W p G.1 e room_1 s m #[Value.ref b] below meth c H locs (Array.size H - s.heap.size) (1848 * (Array.size H - s.heap.size)) (lw_Z below #[Value.ref b] s) (F0 m 873 ls []) := by
  obtain ⟨hx, hb, hml, hown, hts, hZ, hN⟩ := id hC
  obtain ⟨r, e1, ⟨fs1, o1⟩, e2, hI2⟩ := hag j hp hI hj (xs (i + 1))
  obtain ⟨fs0, o0⟩ := hO j hp hI
  refine lv_aload_n hx hb dL_law_873 rfl (lv_at hl 1 rfl) ?_
  refine lx_arg hC hX hbl (t := 1) dL_law_874 dL_law_875 dL_law_876 (by decide) dL_law_877 dL_law_878 (by omega) (by omega) hS (lv_at hl 0 rfl) (lv_at hl 3 rfl) ?_
  refine lx_callV (As := [xs (i + 1)]) (a := 0) (rest := []) kcX11 lbX11_owed llL_110 imX11_owed seX11_X11_owed_X11_owed rfl rfl (Nat.le_of_ble_eq_true rfl) dL_law_879 o0 (X11_owed_c G hp 0 (xs (i + 1)) _ e1) hC hR hS hl.1 (fun rv hh H1 locs1 hq hR1 hS1 => ?_)
  obtain ⟨hq1, hq2⟩ := hq
  subst hq1
  subst hq2
  show W p G.1 e room_1 s m #[Value.ref b] below meth c H1 locs1 (Array.size H1 - s.heap.size) (1848 * (Array.size H1 - s.heap.size)) (lw_Z below #[Value.ref b] s) (F0 m 882 ls [.int r])
  refine lv_aload_n hx hb dL_law_882 rfl (lv_at hl 2 rfl) ?_
  refine lx_arg hC hX hbl (t := 1) dL_law_883 dL_law_884 dL_law_885 (by decide) dL_law_886 dL_law_887 (by omega) (by omega) hS1 (lv_at hl 0 rfl) (lv_at hl 3 rfl) ?_
  refine lx_callV (As := [xs (i + 1)]) (a := 38) (rest := [.int r]) kcX12 lbX12_owed llL_113 imX12_owed seX12_X12_owed_X12_owed rfl rfl (Nat.le_of_ble_eq_true rfl) dL_law_888 o1 (X12_owed_c G _ 38 (xs (i + 1)) _ e2) hC hR1 hS1 hl.1 (fun rv hh H2 locs2 hq hR2 hS2 => ?_)
  obtain ⟨hq1, hq2⟩ := hq
  subst hq1
  subst hq2
  show W p G.1 e room_1 s m #[Value.ref b] below meth c H2 locs2 (Array.size H2 - s.heap.size) (1848 * (Array.size H2 - s.heap.size)) (lw_Z below #[Value.ref b] s) (F0 m 891 ls [.int r, .int r])
  refine lv_icmp_eq (tgt := 1392) hx hb dL_law_891 (by decide) (fun _ => k _ _ _ hI2 hR2 hS2) (fun hne => absurd rfl hne)
def lx_ag_right (Inv : Nat → kw_H → Prop) : Prop := ∀ (j : Nat) (hp : kw_H), Inv j hp → j < 64 → ∀ (a1 a2 a3 a4 : Int32), ∃ (r : Int32) (hp1 : kw_H) (hp2 : kw_H), X11_right_F hp 0 a1 a2 a3 a4 = some (r, hp1) ∧ (∃ fs, hp1[38]? = some (.inr (11, fs))) ∧ X12_right_F hp1 38 a1 a2 a3 a4 = some (r, hp2) ∧ Inv (j + 1) hp2
set_option maxRecDepth 100000 in
set_option maxHeartbeats 4000000 in
theorem lx_arm_24 {G : kw_G} {p : Program} {e : Env} {s : State} {m : MethodId} {below : List Frame} {meth : Method} {c : Code} {b L : Nat} {xs : Nat → Int32} (Inv : Nat → kw_H → Prop) (hO : ∀ j hp, Inv j hp → ∃ fs, hp[0]? = some (.inr (10, fs))) (hag : lx_ag_right Inv) (hC : lx_C G p s m #[Value.ref b] c) (hX : va_X b L xs s s.heap) (hbl : b < s.heap.size) {i j : Nat} (hi : i + 6 ≤ L) (hL : L ≤ 384) {hp : kw_H} {H : Heap} {locs : List Loc} {ls : Array Slot} (hI : Inv j hp) (hj : j < 64) (hR : kw_R G hp H) (hS : va_S (fun q => G.2.1 ≤ q) s.heap H locs) (hl : lv_has ls 4 [(0, .ref b), (1, .ref (G.2.1 + 0)), (2, .ref (G.2.1 + 38)), (3, .int (nI i))]) (k : ∀ (hp2 : kw_H) (H2 : Heap) (locs2 : List Loc), Inv (j + 1) hp2 → kw_R G hp2 H2 → va_S (fun q => G.2.1 ≤ q) s.heap H2 locs2 → W p G.1 e room_1 s m #[Value.ref b] below meth c H2 locs2 (Array.size H2 - s.heap.size) (1848 * (Array.size H2 - s.heap.size)) (lw_Z below #[Value.ref b] s) (F0 m 1392 ls [])) : W p G.1 e room_1 s m #[Value.ref b] below meth c H locs (Array.size H - s.heap.size) (1848 * (Array.size H - s.heap.size)) (lw_Z below #[Value.ref b] s) (F0 m 896 ls []) := by
  obtain ⟨hx, hb, hml, hown, hts, hZ, hN⟩ := id hC
  obtain ⟨r, hp1, hp2, e1, ⟨fs1, o1⟩, e2, hI2⟩ := hag j hp hI hj (xs (i + 1)) (xs (i + 2)) (xs (i + 3)) (xs (i + 4))
  obtain ⟨fs0, o0⟩ := hO j hp hI
  refine lv_aload_n hx hb dL_law_896 rfl (lv_at hl 1 rfl) ?_
  refine lx_arg hC hX hbl (t := 1) dL_law_897 dL_law_898 dL_law_899 (by decide) dL_law_900 dL_law_901 (by omega) (by omega) hS (lv_at hl 0 rfl) (lv_at hl 3 rfl) ?_
  refine lx_arg hC hX hbl (t := 2) dL_law_902 dL_law_903 dL_law_904 (by decide) dL_law_905 dL_law_906 (by omega) (by omega) hS (lv_at hl 0 rfl) (lv_at hl 3 rfl) ?_
  refine lx_arg hC hX hbl (t := 3) dL_law_907 dL_law_908 dL_law_909 (by decide) dL_law_910 dL_law_911 (by omega) (by omega) hS (lv_at hl 0 rfl) (lv_at hl 3 rfl) ?_
  refine lx_arg hC hX hbl (t := 4) dL_law_912 dL_law_913 dL_law_914 (by decide) dL_law_915 dL_law_916 (by omega) (by omega) hS (lv_at hl 0 rfl) (lv_at hl 3 rfl) ?_
  refine lx_callV (As := [xs (i + 1), xs (i + 2), xs (i + 3), xs (i + 4)]) (a := 0) (rest := []) kcX11 lbX11_right llL_114 imX11_right seX11_X11_right_X11_right rfl rfl (Nat.le_of_ble_eq_true rfl) dL_law_917 o0 (X11_right_c G hp 0 (xs (i + 1)) (xs (i + 2)) (xs (i + 3)) (xs (i + 4)) _ e1) hC hR hS hl.1 (fun rv hh H1 locs1 hq hR1 hS1 => ?_)
  obtain ⟨hq1, hq2⟩ := hq
  subst hq1
  subst hq2
  show W p G.1 e room_1 s m #[Value.ref b] below meth c H1 locs1 (Array.size H1 - s.heap.size) (1848 * (Array.size H1 - s.heap.size)) (lw_Z below #[Value.ref b] s) (F0 m 920 ls [.int r])
  refine lv_aload_n hx hb dL_law_920 rfl (lv_at hl 2 rfl) ?_
  refine lx_arg hC hX hbl (t := 1) dL_law_921 dL_law_922 dL_law_923 (by decide) dL_law_924 dL_law_925 (by omega) (by omega) hS1 (lv_at hl 0 rfl) (lv_at hl 3 rfl) ?_
  refine lx_arg hC hX hbl (t := 2) dL_law_926 dL_law_927 dL_law_928 (by decide) dL_law_929 dL_law_930 (by omega) (by omega) hS1 (lv_at hl 0 rfl) (lv_at hl 3 rfl) ?_
  refine lx_arg hC hX hbl (t := 3) dL_law_931 dL_law_932 dL_law_933 (by decide) dL_law_934 dL_law_935 (by omega) (by omega) hS1 (lv_at hl 0 rfl) (lv_at hl 3 rfl) ?_
  refine lx_arg hC hX hbl (t := 4) dL_law_936 dL_law_937 dL_law_938 (by decide) dL_law_939 dL_law_940 (by omega) (by omega) hS1 (lv_at hl 0 rfl) (lv_at hl 3 rfl) ?_
  refine lx_callV (As := [xs (i + 1), xs (i + 2), xs (i + 3), xs (i + 4)]) (a := 38) (rest := [.int r]) kcX12 lbX12_right llL_118 imX12_right seX12_X12_right_X12_right rfl rfl (Nat.le_of_ble_eq_true rfl) dL_law_941 o1 (X12_right_c G _ 38 (xs (i + 1)) (xs (i + 2)) (xs (i + 3)) (xs (i + 4)) _ e2) hC hR1 hS1 hl.1 (fun rv hh H2 locs2 hq hR2 hS2 => ?_)
  obtain ⟨hq1, hq2⟩ := hq
  subst hq1
  subst hq2
  show W p G.1 e room_1 s m #[Value.ref b] below meth c H2 locs2 (Array.size H2 - s.heap.size) (1848 * (Array.size H2 - s.heap.size)) (lw_Z below #[Value.ref b] s) (F0 m 944 ls [.int r, .int r])
  refine lv_icmp_eq (tgt := 1392) hx hb dL_law_944 (by decide) (fun _ => k _ _ _ hI2 hR2 hS2) (fun hne => absurd rfl hne)
def lx_ag_twice (Inv : Nat → kw_H → Prop) : Prop := ∀ (j : Nat) (hp : kw_H), Inv j hp → j < 64 → ∀ (_ : Unit), ∃ (r : Int32) (hp1 : kw_H) (hp2 : kw_H), X11_twice_F hp 0 = some (r, hp1) ∧ (∃ fs, hp1[38]? = some (.inr (11, fs))) ∧ X12_twice_F hp1 38 = some (r, hp2) ∧ Inv (j + 1) hp2
set_option maxRecDepth 100000 in
set_option maxHeartbeats 4000000 in
theorem lx_arm_25 {G : kw_G} {p : Program} {e : Env} {s : State} {m : MethodId} {below : List Frame} {meth : Method} {c : Code} {b L : Nat} {xs : Nat → Int32} (Inv : Nat → kw_H → Prop) (hO : ∀ j hp, Inv j hp → ∃ fs, hp[0]? = some (.inr (10, fs))) (hag : lx_ag_twice Inv) (hC : lx_C G p s m #[Value.ref b] c) (hX : va_X b L xs s s.heap) (hbl : b < s.heap.size) {i j : Nat} (hi : i + 6 ≤ L) (hL : L ≤ 384) {hp : kw_H} {H : Heap} {locs : List Loc} {ls : Array Slot} (hI : Inv j hp) (hj : j < 64) (hR : kw_R G hp H) (hS : va_S (fun q => G.2.1 ≤ q) s.heap H locs) (hl : lv_has ls 4 [(0, .ref b), (1, .ref (G.2.1 + 0)), (2, .ref (G.2.1 + 38)), (3, .int (nI i))]) (k : ∀ (hp2 : kw_H) (H2 : Heap) (locs2 : List Loc), Inv (j + 1) hp2 → kw_R G hp2 H2 → va_S (fun q => G.2.1 ≤ q) s.heap H2 locs2 → W p G.1 e room_1 s m #[Value.ref b] below meth c H2 locs2 (Array.size H2 - s.heap.size) (1848 * (Array.size H2 - s.heap.size)) (lw_Z below #[Value.ref b] s) (F0 m 1392 ls [])) : W p G.1 e room_1 s m #[Value.ref b] below meth c H locs (Array.size H - s.heap.size) (1848 * (Array.size H - s.heap.size)) (lw_Z below #[Value.ref b] s) (F0 m 949 ls []) := by
  obtain ⟨hx, hb, hml, hown, hts, hZ, hN⟩ := id hC
  obtain ⟨r, hp1, hp2, e1, ⟨fs1, o1⟩, e2, hI2⟩ := hag j hp hI hj ()
  obtain ⟨fs0, o0⟩ := hO j hp hI
  refine lv_aload_n hx hb dL_law_949 rfl (lv_at hl 1 rfl) ?_
  refine lx_callV (As := []) (a := 0) (rest := []) kcX11 lbX11_twice llL_119 imX11_twice seX11_X11_twice_X11_twice rfl rfl (Nat.le_of_ble_eq_true rfl) dL_law_950 o0 (X11_twice_c G hp 0 _ e1) hC hR hS hl.1 (fun rv hh H1 locs1 hq hR1 hS1 => ?_)
  obtain ⟨hq1, hq2⟩ := hq
  subst hq1
  subst hq2
  show W p G.1 e room_1 s m #[Value.ref b] below meth c H1 locs1 (Array.size H1 - s.heap.size) (1848 * (Array.size H1 - s.heap.size)) (lw_Z below #[Value.ref b] s) (F0 m 953 ls [.int r])
  refine lv_aload_n hx hb dL_law_953 rfl (lv_at hl 2 rfl) ?_
  refine lx_callV (As := []) (a := 38) (rest := [.int r]) kcX12 lbX12_twice llL_122 imX12_twice seX12_X12_twice_X12_twice rfl rfl (Nat.le_of_ble_eq_true rfl) dL_law_954 o1 (X12_twice_c G _ 38 _ e2) hC hR1 hS1 hl.1 (fun rv hh H2 locs2 hq hR2 hS2 => ?_)
  obtain ⟨hq1, hq2⟩ := hq
  subst hq1
  subst hq2
  show W p G.1 e room_1 s m #[Value.ref b] below meth c H2 locs2 (Array.size H2 - s.heap.size) (1848 * (Array.size H2 - s.heap.size)) (lw_Z below #[Value.ref b] s) (F0 m 957 ls [.int r, .int r])
  refine lv_icmp_eq (tgt := 1392) hx hb dL_law_957 (by decide) (fun _ => k _ _ _ hI2 hR2 hS2) (fun hne => absurd rfl hne)
def lx_ag_seen (Inv : Nat → kw_H → Prop) : Prop := ∀ (j : Nat) (hp : kw_H), Inv j hp → j < 64 → ∀ (a1 a2 a3 a4 : Int32), ∃ (r : Int32) (hp1 : kw_H) (hp2 : kw_H), X11_seen_F hp 0 a1 a2 a3 a4 = some (r, hp1) ∧ (∃ fs, hp1[38]? = some (.inr (11, fs))) ∧ X12_seen_F hp1 38 a1 a2 a3 a4 = some (r, hp2) ∧ Inv (j + 1) hp2
set_option maxRecDepth 100000 in
set_option maxHeartbeats 4000000 in
theorem lx_arm_26 {G : kw_G} {p : Program} {e : Env} {s : State} {m : MethodId} {below : List Frame} {meth : Method} {c : Code} {b L : Nat} {xs : Nat → Int32} (Inv : Nat → kw_H → Prop) (hO : ∀ j hp, Inv j hp → ∃ fs, hp[0]? = some (.inr (10, fs))) (hag : lx_ag_seen Inv) (hC : lx_C G p s m #[Value.ref b] c) (hX : va_X b L xs s s.heap) (hbl : b < s.heap.size) {i j : Nat} (hi : i + 6 ≤ L) (hL : L ≤ 384) {hp : kw_H} {H : Heap} {locs : List Loc} {ls : Array Slot} (hI : Inv j hp) (hj : j < 64) (hR : kw_R G hp H) (hS : va_S (fun q => G.2.1 ≤ q) s.heap H locs) (hl : lv_has ls 4 [(0, .ref b), (1, .ref (G.2.1 + 0)), (2, .ref (G.2.1 + 38)), (3, .int (nI i))]) (k : ∀ (hp2 : kw_H) (H2 : Heap) (locs2 : List Loc), Inv (j + 1) hp2 → kw_R G hp2 H2 → va_S (fun q => G.2.1 ≤ q) s.heap H2 locs2 → W p G.1 e room_1 s m #[Value.ref b] below meth c H2 locs2 (Array.size H2 - s.heap.size) (1848 * (Array.size H2 - s.heap.size)) (lw_Z below #[Value.ref b] s) (F0 m 1392 ls [])) : W p G.1 e room_1 s m #[Value.ref b] below meth c H locs (Array.size H - s.heap.size) (1848 * (Array.size H - s.heap.size)) (lw_Z below #[Value.ref b] s) (F0 m 962 ls []) := by
  obtain ⟨hx, hb, hml, hown, hts, hZ, hN⟩ := id hC
  obtain ⟨r, hp1, hp2, e1, ⟨fs1, o1⟩, e2, hI2⟩ := hag j hp hI hj (xs (i + 1)) (xs (i + 2)) (xs (i + 3)) (xs (i + 4))
  obtain ⟨fs0, o0⟩ := hO j hp hI
  refine lv_aload_n hx hb dL_law_962 rfl (lv_at hl 1 rfl) ?_
  refine lx_arg hC hX hbl (t := 1) dL_law_963 dL_law_964 dL_law_965 (by decide) dL_law_966 dL_law_967 (by omega) (by omega) hS (lv_at hl 0 rfl) (lv_at hl 3 rfl) ?_
  refine lx_arg hC hX hbl (t := 2) dL_law_968 dL_law_969 dL_law_970 (by decide) dL_law_971 dL_law_972 (by omega) (by omega) hS (lv_at hl 0 rfl) (lv_at hl 3 rfl) ?_
  refine lx_arg hC hX hbl (t := 3) dL_law_973 dL_law_974 dL_law_975 (by decide) dL_law_976 dL_law_977 (by omega) (by omega) hS (lv_at hl 0 rfl) (lv_at hl 3 rfl) ?_
  refine lx_arg hC hX hbl (t := 4) dL_law_978 dL_law_979 dL_law_980 (by decide) dL_law_981 dL_law_982 (by omega) (by omega) hS (lv_at hl 0 rfl) (lv_at hl 3 rfl) ?_
  refine lx_callV (As := [xs (i + 1), xs (i + 2), xs (i + 3), xs (i + 4)]) (a := 0) (rest := []) kcX11 lbX11_seen llL_123 imX11_seen seX11_X11_seen_X11_seen rfl rfl (Nat.le_of_ble_eq_true rfl) dL_law_983 o0 (X11_seen_c G hp 0 (xs (i + 1)) (xs (i + 2)) (xs (i + 3)) (xs (i + 4)) _ e1) hC hR hS hl.1 (fun rv hh H1 locs1 hq hR1 hS1 => ?_)
  obtain ⟨hq1, hq2⟩ := hq
  subst hq1
  subst hq2
  show W p G.1 e room_1 s m #[Value.ref b] below meth c H1 locs1 (Array.size H1 - s.heap.size) (1848 * (Array.size H1 - s.heap.size)) (lw_Z below #[Value.ref b] s) (F0 m 986 ls [.int r])
  refine lv_aload_n hx hb dL_law_986 rfl (lv_at hl 2 rfl) ?_
  refine lx_arg hC hX hbl (t := 1) dL_law_987 dL_law_988 dL_law_989 (by decide) dL_law_990 dL_law_991 (by omega) (by omega) hS1 (lv_at hl 0 rfl) (lv_at hl 3 rfl) ?_
  refine lx_arg hC hX hbl (t := 2) dL_law_992 dL_law_993 dL_law_994 (by decide) dL_law_995 dL_law_996 (by omega) (by omega) hS1 (lv_at hl 0 rfl) (lv_at hl 3 rfl) ?_
  refine lx_arg hC hX hbl (t := 3) dL_law_997 dL_law_998 dL_law_999 (by decide) dL_law_1000 dL_law_1001 (by omega) (by omega) hS1 (lv_at hl 0 rfl) (lv_at hl 3 rfl) ?_
  refine lx_arg hC hX hbl (t := 4) dL_law_1002 dL_law_1003 dL_law_1004 (by decide) dL_law_1005 dL_law_1006 (by omega) (by omega) hS1 (lv_at hl 0 rfl) (lv_at hl 3 rfl) ?_
  refine lx_callV (As := [xs (i + 1), xs (i + 2), xs (i + 3), xs (i + 4)]) (a := 38) (rest := [.int r]) kcX12 lbX12_seen llL_126 imX12_seen seX12_X12_seen_X12_seen rfl rfl (Nat.le_of_ble_eq_true rfl) dL_law_1007 o1 (X12_seen_c G _ 38 (xs (i + 1)) (xs (i + 2)) (xs (i + 3)) (xs (i + 4)) _ e2) hC hR1 hS1 hl.1 (fun rv hh H2 locs2 hq hR2 hS2 => ?_)
  obtain ⟨hq1, hq2⟩ := hq
  subst hq1
  subst hq2
  show W p G.1 e room_1 s m #[Value.ref b] below meth c H2 locs2 (Array.size H2 - s.heap.size) (1848 * (Array.size H2 - s.heap.size)) (lw_Z below #[Value.ref b] s) (F0 m 1010 ls [.int r, .int r])
  refine lv_icmp_eq (tgt := 1392) hx hb dL_law_1010 (by decide) (fun _ => k _ _ _ hI2 hR2 hS2) (fun hne => absurd rfl hne)
def lx_ag_who (Inv : Nat → kw_H → Prop) : Prop := ∀ (j : Nat) (hp : kw_H), Inv j hp → j < 64 → ∀ (a1 a2 a3 a4 : Int32), ∃ (r : Int32) (hp1 : kw_H) (hp2 : kw_H), X11_who_F hp 0 a1 a2 a3 a4 = some (r, hp1) ∧ (∃ fs, hp1[38]? = some (.inr (11, fs))) ∧ X12_who_F hp1 38 a1 a2 a3 a4 = some (r, hp2) ∧ Inv (j + 1) hp2
set_option maxRecDepth 100000 in
set_option maxHeartbeats 4000000 in
theorem lx_arm_27 {G : kw_G} {p : Program} {e : Env} {s : State} {m : MethodId} {below : List Frame} {meth : Method} {c : Code} {b L : Nat} {xs : Nat → Int32} (Inv : Nat → kw_H → Prop) (hO : ∀ j hp, Inv j hp → ∃ fs, hp[0]? = some (.inr (10, fs))) (hag : lx_ag_who Inv) (hC : lx_C G p s m #[Value.ref b] c) (hX : va_X b L xs s s.heap) (hbl : b < s.heap.size) {i j : Nat} (hi : i + 6 ≤ L) (hL : L ≤ 384) {hp : kw_H} {H : Heap} {locs : List Loc} {ls : Array Slot} (hI : Inv j hp) (hj : j < 64) (hR : kw_R G hp H) (hS : va_S (fun q => G.2.1 ≤ q) s.heap H locs) (hl : lv_has ls 4 [(0, .ref b), (1, .ref (G.2.1 + 0)), (2, .ref (G.2.1 + 38)), (3, .int (nI i))]) (k : ∀ (hp2 : kw_H) (H2 : Heap) (locs2 : List Loc), Inv (j + 1) hp2 → kw_R G hp2 H2 → va_S (fun q => G.2.1 ≤ q) s.heap H2 locs2 → W p G.1 e room_1 s m #[Value.ref b] below meth c H2 locs2 (Array.size H2 - s.heap.size) (1848 * (Array.size H2 - s.heap.size)) (lw_Z below #[Value.ref b] s) (F0 m 1392 ls [])) : W p G.1 e room_1 s m #[Value.ref b] below meth c H locs (Array.size H - s.heap.size) (1848 * (Array.size H - s.heap.size)) (lw_Z below #[Value.ref b] s) (F0 m 1015 ls []) := by
  obtain ⟨hx, hb, hml, hown, hts, hZ, hN⟩ := id hC
  obtain ⟨r, hp1, hp2, e1, ⟨fs1, o1⟩, e2, hI2⟩ := hag j hp hI hj (xs (i + 1)) (xs (i + 2)) (xs (i + 3)) (xs (i + 4))
  obtain ⟨fs0, o0⟩ := hO j hp hI
  refine lv_aload_n hx hb dL_law_1015 rfl (lv_at hl 1 rfl) ?_
  refine lx_arg hC hX hbl (t := 1) dL_law_1016 dL_law_1017 dL_law_1018 (by decide) dL_law_1019 dL_law_1020 (by omega) (by omega) hS (lv_at hl 0 rfl) (lv_at hl 3 rfl) ?_
  refine lx_arg hC hX hbl (t := 2) dL_law_1021 dL_law_1022 dL_law_1023 (by decide) dL_law_1024 dL_law_1025 (by omega) (by omega) hS (lv_at hl 0 rfl) (lv_at hl 3 rfl) ?_
  refine lx_arg hC hX hbl (t := 3) dL_law_1026 dL_law_1027 dL_law_1028 (by decide) dL_law_1029 dL_law_1030 (by omega) (by omega) hS (lv_at hl 0 rfl) (lv_at hl 3 rfl) ?_
  refine lx_arg hC hX hbl (t := 4) dL_law_1031 dL_law_1032 dL_law_1033 (by decide) dL_law_1034 dL_law_1035 (by omega) (by omega) hS (lv_at hl 0 rfl) (lv_at hl 3 rfl) ?_
  refine lx_callV (As := [xs (i + 1), xs (i + 2), xs (i + 3), xs (i + 4)]) (a := 0) (rest := []) kcX11 lbX11_who llL_127 imX11_who seX11_X11_who_X11_who rfl rfl (Nat.le_of_ble_eq_true rfl) dL_law_1036 o0 (X11_who_c G hp 0 (xs (i + 1)) (xs (i + 2)) (xs (i + 3)) (xs (i + 4)) _ e1) hC hR hS hl.1 (fun rv hh H1 locs1 hq hR1 hS1 => ?_)
  obtain ⟨hq1, hq2⟩ := hq
  subst hq1
  subst hq2
  show W p G.1 e room_1 s m #[Value.ref b] below meth c H1 locs1 (Array.size H1 - s.heap.size) (1848 * (Array.size H1 - s.heap.size)) (lw_Z below #[Value.ref b] s) (F0 m 1039 ls [.int r])
  refine lv_aload_n hx hb dL_law_1039 rfl (lv_at hl 2 rfl) ?_
  refine lx_arg hC hX hbl (t := 1) dL_law_1040 dL_law_1041 dL_law_1042 (by decide) dL_law_1043 dL_law_1044 (by omega) (by omega) hS1 (lv_at hl 0 rfl) (lv_at hl 3 rfl) ?_
  refine lx_arg hC hX hbl (t := 2) dL_law_1045 dL_law_1046 dL_law_1047 (by decide) dL_law_1048 dL_law_1049 (by omega) (by omega) hS1 (lv_at hl 0 rfl) (lv_at hl 3 rfl) ?_
  refine lx_arg hC hX hbl (t := 3) dL_law_1050 dL_law_1051 dL_law_1052 (by decide) dL_law_1053 dL_law_1054 (by omega) (by omega) hS1 (lv_at hl 0 rfl) (lv_at hl 3 rfl) ?_
  refine lx_arg hC hX hbl (t := 4) dL_law_1055 dL_law_1056 dL_law_1057 (by decide) dL_law_1058 dL_law_1059 (by omega) (by omega) hS1 (lv_at hl 0 rfl) (lv_at hl 3 rfl) ?_
  refine lx_callV (As := [xs (i + 1), xs (i + 2), xs (i + 3), xs (i + 4)]) (a := 38) (rest := [.int r]) kcX12 lbX12_who llL_130 imX12_who seX12_X12_who_X12_who rfl rfl (Nat.le_of_ble_eq_true rfl) dL_law_1060 o1 (X12_who_c G _ 38 (xs (i + 1)) (xs (i + 2)) (xs (i + 3)) (xs (i + 4)) _ e2) hC hR1 hS1 hl.1 (fun rv hh H2 locs2 hq hR2 hS2 => ?_)
  obtain ⟨hq1, hq2⟩ := hq
  subst hq1
  subst hq2
  show W p G.1 e room_1 s m #[Value.ref b] below meth c H2 locs2 (Array.size H2 - s.heap.size) (1848 * (Array.size H2 - s.heap.size)) (lw_Z below #[Value.ref b] s) (F0 m 1063 ls [.int r, .int r])
  refine lv_icmp_eq (tgt := 1392) hx hb dL_law_1063 (by decide) (fun _ => k _ _ _ hI2 hR2 hS2) (fun hne => absurd rfl hne)
def lx_ag_pairs (Inv : Nat → kw_H → Prop) : Prop := ∀ (j : Nat) (hp : kw_H), Inv j hp → j < 64 → ∀ (a1 : Int32), ∃ (r : Int32) (hp1 : kw_H) (hp2 : kw_H), X11_pairs_F hp 0 a1 = some (r, hp1) ∧ (∃ fs, hp1[38]? = some (.inr (11, fs))) ∧ X12_pairs_F hp1 38 a1 = some (r, hp2) ∧ Inv (j + 1) hp2
set_option maxRecDepth 100000 in
set_option maxHeartbeats 4000000 in
theorem lx_arm_28 {G : kw_G} {p : Program} {e : Env} {s : State} {m : MethodId} {below : List Frame} {meth : Method} {c : Code} {b L : Nat} {xs : Nat → Int32} (Inv : Nat → kw_H → Prop) (hO : ∀ j hp, Inv j hp → ∃ fs, hp[0]? = some (.inr (10, fs))) (hag : lx_ag_pairs Inv) (hC : lx_C G p s m #[Value.ref b] c) (hX : va_X b L xs s s.heap) (hbl : b < s.heap.size) {i j : Nat} (hi : i + 6 ≤ L) (hL : L ≤ 384) {hp : kw_H} {H : Heap} {locs : List Loc} {ls : Array Slot} (hI : Inv j hp) (hj : j < 64) (hR : kw_R G hp H) (hS : va_S (fun q => G.2.1 ≤ q) s.heap H locs) (hl : lv_has ls 4 [(0, .ref b), (1, .ref (G.2.1 + 0)), (2, .ref (G.2.1 + 38)), (3, .int (nI i))]) (k : ∀ (hp2 : kw_H) (H2 : Heap) (locs2 : List Loc), Inv (j + 1) hp2 → kw_R G hp2 H2 → va_S (fun q => G.2.1 ≤ q) s.heap H2 locs2 → W p G.1 e room_1 s m #[Value.ref b] below meth c H2 locs2 (Array.size H2 - s.heap.size) (1848 * (Array.size H2 - s.heap.size)) (lw_Z below #[Value.ref b] s) (F0 m 1392 ls [])) : W p G.1 e room_1 s m #[Value.ref b] below meth c H locs (Array.size H - s.heap.size) (1848 * (Array.size H - s.heap.size)) (lw_Z below #[Value.ref b] s) (F0 m 1068 ls []) := by
  obtain ⟨hx, hb, hml, hown, hts, hZ, hN⟩ := id hC
  obtain ⟨r, hp1, hp2, e1, ⟨fs1, o1⟩, e2, hI2⟩ := hag j hp hI hj (xs (i + 1))
  obtain ⟨fs0, o0⟩ := hO j hp hI
  refine lv_aload_n hx hb dL_law_1068 rfl (lv_at hl 1 rfl) ?_
  refine lx_arg hC hX hbl (t := 1) dL_law_1069 dL_law_1070 dL_law_1071 (by decide) dL_law_1072 dL_law_1073 (by omega) (by omega) hS (lv_at hl 0 rfl) (lv_at hl 3 rfl) ?_
  refine lx_callV (As := [xs (i + 1)]) (a := 0) (rest := []) kcX11 lbX11_pairs llL_131 imX11_pairs seX11_X11_pairs_X11_pairs rfl rfl (Nat.le_of_ble_eq_true rfl) dL_law_1074 o0 (X11_pairs_c G hp 0 (xs (i + 1)) _ e1) hC hR hS hl.1 (fun rv hh H1 locs1 hq hR1 hS1 => ?_)
  obtain ⟨hq1, hq2⟩ := hq
  subst hq1
  subst hq2
  show W p G.1 e room_1 s m #[Value.ref b] below meth c H1 locs1 (Array.size H1 - s.heap.size) (1848 * (Array.size H1 - s.heap.size)) (lw_Z below #[Value.ref b] s) (F0 m 1077 ls [.int r])
  refine lv_aload_n hx hb dL_law_1077 rfl (lv_at hl 2 rfl) ?_
  refine lx_arg hC hX hbl (t := 1) dL_law_1078 dL_law_1079 dL_law_1080 (by decide) dL_law_1081 dL_law_1082 (by omega) (by omega) hS1 (lv_at hl 0 rfl) (lv_at hl 3 rfl) ?_
  refine lx_callV (As := [xs (i + 1)]) (a := 38) (rest := [.int r]) kcX12 lbX12_pairs llL_134 imX12_pairs seX12_X12_pairs_X12_pairs rfl rfl (Nat.le_of_ble_eq_true rfl) dL_law_1083 o1 (X12_pairs_c G _ 38 (xs (i + 1)) _ e2) hC hR1 hS1 hl.1 (fun rv hh H2 locs2 hq hR2 hS2 => ?_)
  obtain ⟨hq1, hq2⟩ := hq
  subst hq1
  subst hq2
  show W p G.1 e room_1 s m #[Value.ref b] below meth c H2 locs2 (Array.size H2 - s.heap.size) (1848 * (Array.size H2 - s.heap.size)) (lw_Z below #[Value.ref b] s) (F0 m 1086 ls [.int r, .int r])
  refine lv_icmp_eq (tgt := 1392) hx hb dL_law_1086 (by decide) (fun _ => k _ _ _ hI2 hR2 hS2) (fun hne => absurd rfl hne)
def lx_ag_forgets (Inv : Nat → kw_H → Prop) : Prop := ∀ (j : Nat) (hp : kw_H), Inv j hp → j < 64 → ∀ (a1 a2 a3 a4 a5 : Int32), ∃ (r : Int64) (hp1 : kw_H) (hp2 : kw_H), X11_forgets_F hp 0 a1 a2 a3 a4 a5 = some (r, hp1) ∧ (∃ fs, hp1[38]? = some (.inr (11, fs))) ∧ X12_forgets_F hp1 38 a1 a2 a3 a4 a5 = some (r, hp2) ∧ Inv (j + 1) hp2
set_option maxRecDepth 100000 in
set_option maxHeartbeats 4000000 in
theorem lx_arm_29 {G : kw_G} {p : Program} {e : Env} {s : State} {m : MethodId} {below : List Frame} {meth : Method} {c : Code} {b L : Nat} {xs : Nat → Int32} (Inv : Nat → kw_H → Prop) (hO : ∀ j hp, Inv j hp → ∃ fs, hp[0]? = some (.inr (10, fs))) (hag : lx_ag_forgets Inv) (hC : lx_C G p s m #[Value.ref b] c) (hX : va_X b L xs s s.heap) (hbl : b < s.heap.size) {i j : Nat} (hi : i + 6 ≤ L) (hL : L ≤ 384) {hp : kw_H} {H : Heap} {locs : List Loc} {ls : Array Slot} (hI : Inv j hp) (hj : j < 64) (hR : kw_R G hp H) (hS : va_S (fun q => G.2.1 ≤ q) s.heap H locs) (hl : lv_has ls 4 [(0, .ref b), (1, .ref (G.2.1 + 0)), (2, .ref (G.2.1 + 38)), (3, .int (nI i))]) (k : ∀ (hp2 : kw_H) (H2 : Heap) (locs2 : List Loc), Inv (j + 1) hp2 → kw_R G hp2 H2 → va_S (fun q => G.2.1 ≤ q) s.heap H2 locs2 → W p G.1 e room_1 s m #[Value.ref b] below meth c H2 locs2 (Array.size H2 - s.heap.size) (1848 * (Array.size H2 - s.heap.size)) (lw_Z below #[Value.ref b] s) (F0 m 1392 ls [])) : W p G.1 e room_1 s m #[Value.ref b] below meth c H locs (Array.size H - s.heap.size) (1848 * (Array.size H - s.heap.size)) (lw_Z below #[Value.ref b] s) (F0 m 1091 ls []) := by
  obtain ⟨hx, hb, hml, hown, hts, hZ, hN⟩ := id hC
  obtain ⟨r, hp1, hp2, e1, ⟨fs1, o1⟩, e2, hI2⟩ := hag j hp hI hj (xs (i + 1)) (xs (i + 2)) (xs (i + 3)) (xs (i + 4)) (xs (i + 5))
  obtain ⟨fs0, o0⟩ := hO j hp hI
  refine lv_aload_n hx hb dL_law_1091 rfl (lv_at hl 1 rfl) ?_
  refine lx_arg hC hX hbl (t := 1) dL_law_1092 dL_law_1093 dL_law_1094 (by decide) dL_law_1095 dL_law_1096 (by omega) (by omega) hS (lv_at hl 0 rfl) (lv_at hl 3 rfl) ?_
  refine lx_arg hC hX hbl (t := 2) dL_law_1097 dL_law_1098 dL_law_1099 (by decide) dL_law_1100 dL_law_1101 (by omega) (by omega) hS (lv_at hl 0 rfl) (lv_at hl 3 rfl) ?_
  refine lx_arg hC hX hbl (t := 3) dL_law_1102 dL_law_1103 dL_law_1104 (by decide) dL_law_1105 dL_law_1106 (by omega) (by omega) hS (lv_at hl 0 rfl) (lv_at hl 3 rfl) ?_
  refine lx_arg hC hX hbl (t := 4) dL_law_1107 dL_law_1108 dL_law_1109 (by decide) dL_law_1110 dL_law_1111 (by omega) (by omega) hS (lv_at hl 0 rfl) (lv_at hl 3 rfl) ?_
  refine lx_arg hC hX hbl (t := 5) dL_law_1112 dL_law_1113 dL_law_1114 (by decide) dL_law_1115 dL_law_1116 (by omega) (by omega) hS (lv_at hl 0 rfl) (lv_at hl 3 rfl) ?_
  refine lx_callV (As := [xs (i + 1), xs (i + 2), xs (i + 3), xs (i + 4), xs (i + 5)]) (a := 0) (rest := []) kcX11 lbX11_forgets llL_135 imX11_forgets seX11_X11_forgets_X11_forgets rfl rfl (Nat.le_of_ble_eq_true rfl) dL_law_1117 o0 (X11_forgets_c G hp 0 (xs (i + 1)) (xs (i + 2)) (xs (i + 3)) (xs (i + 4)) (xs (i + 5)) _ e1) hC hR hS hl.1 (fun rv hh H1 locs1 hq hR1 hS1 => ?_)
  obtain ⟨hq1, hq2⟩ := hq
  subst hq1
  subst hq2
  show W p G.1 e room_1 s m #[Value.ref b] below meth c H1 locs1 (Array.size H1 - s.heap.size) (1848 * (Array.size H1 - s.heap.size)) (lw_Z below #[Value.ref b] s) (F0 m 1120 ls [.long r])
  refine lv_aload_n hx hb dL_law_1120 rfl (lv_at hl 2 rfl) ?_
  refine lx_arg hC hX hbl (t := 1) dL_law_1121 dL_law_1122 dL_law_1123 (by decide) dL_law_1124 dL_law_1125 (by omega) (by omega) hS1 (lv_at hl 0 rfl) (lv_at hl 3 rfl) ?_
  refine lx_arg hC hX hbl (t := 2) dL_law_1126 dL_law_1127 dL_law_1128 (by decide) dL_law_1129 dL_law_1130 (by omega) (by omega) hS1 (lv_at hl 0 rfl) (lv_at hl 3 rfl) ?_
  refine lx_arg hC hX hbl (t := 3) dL_law_1131 dL_law_1132 dL_law_1133 (by decide) dL_law_1134 dL_law_1135 (by omega) (by omega) hS1 (lv_at hl 0 rfl) (lv_at hl 3 rfl) ?_
  refine lx_arg hC hX hbl (t := 4) dL_law_1136 dL_law_1137 dL_law_1138 (by decide) dL_law_1139 dL_law_1140 (by omega) (by omega) hS1 (lv_at hl 0 rfl) (lv_at hl 3 rfl) ?_
  refine lx_arg hC hX hbl (t := 5) dL_law_1141 dL_law_1142 dL_law_1143 (by decide) dL_law_1144 dL_law_1145 (by omega) (by omega) hS1 (lv_at hl 0 rfl) (lv_at hl 3 rfl) ?_
  refine lx_callV (As := [xs (i + 1), xs (i + 2), xs (i + 3), xs (i + 4), xs (i + 5)]) (a := 38) (rest := [.long r]) kcX12 lbX12_forgets llL_139 imX12_forgets seX12_X12_forgets_X12_forgets rfl rfl (Nat.le_of_ble_eq_true rfl) dL_law_1146 o1 (X12_forgets_c G _ 38 (xs (i + 1)) (xs (i + 2)) (xs (i + 3)) (xs (i + 4)) (xs (i + 5)) _ e2) hC hR1 hS1 hl.1 (fun rv hh H2 locs2 hq hR2 hS2 => ?_)
  obtain ⟨hq1, hq2⟩ := hq
  subst hq1
  subst hq2
  show W p G.1 e room_1 s m #[Value.ref b] below meth c H2 locs2 (Array.size H2 - s.heap.size) (1848 * (Array.size H2 - s.heap.size)) (lw_Z below #[Value.ref b] s) (F0 m 1149 ls [.long r, .long r])
  refine W.lcmp hx hb dL_law_1149 ?_
  refine lv_if_eq (tgt := 1392) hx hb dL_law_1150 (by decide) (fun _ => k _ _ _ hI2 hR2 hS2) (fun hne => absurd (lx_cmp r) hne)
def lx_ag_drawn (Inv : Nat → kw_H → Prop) : Prop := ∀ (j : Nat) (hp : kw_H), Inv j hp → j < 64 → ∀ (a1 a2 a3 : Int32), ∃ (r : Int32) (hp1 : kw_H) (hp2 : kw_H), X11_drawn_F hp 0 a1 a2 a3 = some (r, hp1) ∧ (∃ fs, hp1[38]? = some (.inr (11, fs))) ∧ X12_drawn_F hp1 38 a1 a2 a3 = some (r, hp2) ∧ Inv (j + 1) hp2
set_option maxRecDepth 100000 in
set_option maxHeartbeats 4000000 in
theorem lx_arm_30 {G : kw_G} {p : Program} {e : Env} {s : State} {m : MethodId} {below : List Frame} {meth : Method} {c : Code} {b L : Nat} {xs : Nat → Int32} (Inv : Nat → kw_H → Prop) (hO : ∀ j hp, Inv j hp → ∃ fs, hp[0]? = some (.inr (10, fs))) (hag : lx_ag_drawn Inv) (hC : lx_C G p s m #[Value.ref b] c) (hX : va_X b L xs s s.heap) (hbl : b < s.heap.size) {i j : Nat} (hi : i + 6 ≤ L) (hL : L ≤ 384) {hp : kw_H} {H : Heap} {locs : List Loc} {ls : Array Slot} (hI : Inv j hp) (hj : j < 64) (hR : kw_R G hp H) (hS : va_S (fun q => G.2.1 ≤ q) s.heap H locs) (hl : lv_has ls 4 [(0, .ref b), (1, .ref (G.2.1 + 0)), (2, .ref (G.2.1 + 38)), (3, .int (nI i))]) (k : ∀ (hp2 : kw_H) (H2 : Heap) (locs2 : List Loc), Inv (j + 1) hp2 → kw_R G hp2 H2 → va_S (fun q => G.2.1 ≤ q) s.heap H2 locs2 → W p G.1 e room_1 s m #[Value.ref b] below meth c H2 locs2 (Array.size H2 - s.heap.size) (1848 * (Array.size H2 - s.heap.size)) (lw_Z below #[Value.ref b] s) (F0 m 1392 ls [])) : W p G.1 e room_1 s m #[Value.ref b] below meth c H locs (Array.size H - s.heap.size) (1848 * (Array.size H - s.heap.size)) (lw_Z below #[Value.ref b] s) (F0 m 1155 ls []) := by
  obtain ⟨hx, hb, hml, hown, hts, hZ, hN⟩ := id hC
  obtain ⟨r, hp1, hp2, e1, ⟨fs1, o1⟩, e2, hI2⟩ := hag j hp hI hj (xs (i + 1)) (xs (i + 2)) (xs (i + 3))
  obtain ⟨fs0, o0⟩ := hO j hp hI
  refine lv_aload_n hx hb dL_law_1155 rfl (lv_at hl 1 rfl) ?_
  refine lx_arg hC hX hbl (t := 1) dL_law_1156 dL_law_1157 dL_law_1158 (by decide) dL_law_1159 dL_law_1160 (by omega) (by omega) hS (lv_at hl 0 rfl) (lv_at hl 3 rfl) ?_
  refine lx_arg hC hX hbl (t := 2) dL_law_1161 dL_law_1162 dL_law_1163 (by decide) dL_law_1164 dL_law_1165 (by omega) (by omega) hS (lv_at hl 0 rfl) (lv_at hl 3 rfl) ?_
  refine lx_arg hC hX hbl (t := 3) dL_law_1166 dL_law_1167 dL_law_1168 (by decide) dL_law_1169 dL_law_1170 (by omega) (by omega) hS (lv_at hl 0 rfl) (lv_at hl 3 rfl) ?_
  refine lx_callV (As := [xs (i + 1), xs (i + 2), xs (i + 3)]) (a := 0) (rest := []) kcX11 lbX11_drawn llL_140 imX11_drawn seX11_X11_drawn_X11_drawn rfl rfl (Nat.le_of_ble_eq_true rfl) dL_law_1171 o0 (X11_drawn_c G hp 0 (xs (i + 1)) (xs (i + 2)) (xs (i + 3)) _ e1) hC hR hS hl.1 (fun rv hh H1 locs1 hq hR1 hS1 => ?_)
  obtain ⟨hq1, hq2⟩ := hq
  subst hq1
  subst hq2
  show W p G.1 e room_1 s m #[Value.ref b] below meth c H1 locs1 (Array.size H1 - s.heap.size) (1848 * (Array.size H1 - s.heap.size)) (lw_Z below #[Value.ref b] s) (F0 m 1174 ls [.int r])
  refine lv_aload_n hx hb dL_law_1174 rfl (lv_at hl 2 rfl) ?_
  refine lx_arg hC hX hbl (t := 1) dL_law_1175 dL_law_1176 dL_law_1177 (by decide) dL_law_1178 dL_law_1179 (by omega) (by omega) hS1 (lv_at hl 0 rfl) (lv_at hl 3 rfl) ?_
  refine lx_arg hC hX hbl (t := 2) dL_law_1180 dL_law_1181 dL_law_1182 (by decide) dL_law_1183 dL_law_1184 (by omega) (by omega) hS1 (lv_at hl 0 rfl) (lv_at hl 3 rfl) ?_
  refine lx_arg hC hX hbl (t := 3) dL_law_1185 dL_law_1186 dL_law_1187 (by decide) dL_law_1188 dL_law_1189 (by omega) (by omega) hS1 (lv_at hl 0 rfl) (lv_at hl 3 rfl) ?_
  refine lx_callV (As := [xs (i + 1), xs (i + 2), xs (i + 3)]) (a := 38) (rest := [.int r]) kcX12 lbX12_drawn llL_143 imX12_drawn seX12_X12_drawn_X12_drawn rfl rfl (Nat.le_of_ble_eq_true rfl) dL_law_1190 o1 (X12_drawn_c G _ 38 (xs (i + 1)) (xs (i + 2)) (xs (i + 3)) _ e2) hC hR1 hS1 hl.1 (fun rv hh H2 locs2 hq hR2 hS2 => ?_)
  obtain ⟨hq1, hq2⟩ := hq
  subst hq1
  subst hq2
  show W p G.1 e room_1 s m #[Value.ref b] below meth c H2 locs2 (Array.size H2 - s.heap.size) (1848 * (Array.size H2 - s.heap.size)) (lw_Z below #[Value.ref b] s) (F0 m 1193 ls [.int r, .int r])
  refine lv_icmp_eq (tgt := 1392) hx hb dL_law_1193 (by decide) (fun _ => k _ _ _ hI2 hR2 hS2) (fun hne => absurd rfl hne)
def lx_ag_image (Inv : Nat → kw_H → Prop) : Prop := ∀ (j : Nat) (hp : kw_H), Inv j hp → j < 64 → ∀ (a1 : Int32), ∃ (r : Int32) (hp1 : kw_H) (hp2 : kw_H), X11_image_F hp 0 a1 = some (r, hp1) ∧ (∃ fs, hp1[38]? = some (.inr (11, fs))) ∧ X12_image_F hp1 38 a1 = some (r, hp2) ∧ Inv (j + 1) hp2
set_option maxRecDepth 100000 in
set_option maxHeartbeats 4000000 in
theorem lx_arm_31 {G : kw_G} {p : Program} {e : Env} {s : State} {m : MethodId} {below : List Frame} {meth : Method} {c : Code} {b L : Nat} {xs : Nat → Int32} (Inv : Nat → kw_H → Prop) (hO : ∀ j hp, Inv j hp → ∃ fs, hp[0]? = some (.inr (10, fs))) (hag : lx_ag_image Inv) (hC : lx_C G p s m #[Value.ref b] c) (hX : va_X b L xs s s.heap) (hbl : b < s.heap.size) {i j : Nat} (hi : i + 6 ≤ L) (hL : L ≤ 384) {hp : kw_H} {H : Heap} {locs : List Loc} {ls : Array Slot} (hI : Inv j hp) (hj : j < 64) (hR : kw_R G hp H) (hS : va_S (fun q => G.2.1 ≤ q) s.heap H locs) (hl : lv_has ls 4 [(0, .ref b), (1, .ref (G.2.1 + 0)), (2, .ref (G.2.1 + 38)), (3, .int (nI i))]) (k : ∀ (hp2 : kw_H) (H2 : Heap) (locs2 : List Loc), Inv (j + 1) hp2 → kw_R G hp2 H2 → va_S (fun q => G.2.1 ≤ q) s.heap H2 locs2 → W p G.1 e room_1 s m #[Value.ref b] below meth c H2 locs2 (Array.size H2 - s.heap.size) (1848 * (Array.size H2 - s.heap.size)) (lw_Z below #[Value.ref b] s) (F0 m 1392 ls [])) : W p G.1 e room_1 s m #[Value.ref b] below meth c H locs (Array.size H - s.heap.size) (1848 * (Array.size H - s.heap.size)) (lw_Z below #[Value.ref b] s) (F0 m 1198 ls []) := by
  obtain ⟨hx, hb, hml, hown, hts, hZ, hN⟩ := id hC
  obtain ⟨r, hp1, hp2, e1, ⟨fs1, o1⟩, e2, hI2⟩ := hag j hp hI hj (xs (i + 1))
  obtain ⟨fs0, o0⟩ := hO j hp hI
  refine lv_aload_n hx hb dL_law_1198 rfl (lv_at hl 1 rfl) ?_
  refine lx_arg hC hX hbl (t := 1) dL_law_1199 dL_law_1200 dL_law_1201 (by decide) dL_law_1202 dL_law_1203 (by omega) (by omega) hS (lv_at hl 0 rfl) (lv_at hl 3 rfl) ?_
  refine lx_callV (As := [xs (i + 1)]) (a := 0) (rest := []) kcX11 lbX11_image llL_144 imX11_image seX11_X11_image_X11_image rfl rfl (Nat.le_of_ble_eq_true rfl) dL_law_1204 o0 (X11_image_c G hp 0 (xs (i + 1)) _ e1) hC hR hS hl.1 (fun rv hh H1 locs1 hq hR1 hS1 => ?_)
  obtain ⟨hq1, hq2⟩ := hq
  subst hq1
  subst hq2
  show W p G.1 e room_1 s m #[Value.ref b] below meth c H1 locs1 (Array.size H1 - s.heap.size) (1848 * (Array.size H1 - s.heap.size)) (lw_Z below #[Value.ref b] s) (F0 m 1207 ls [.int r])
  refine lv_aload_n hx hb dL_law_1207 rfl (lv_at hl 2 rfl) ?_
  refine lx_arg hC hX hbl (t := 1) dL_law_1208 dL_law_1209 dL_law_1210 (by decide) dL_law_1211 dL_law_1212 (by omega) (by omega) hS1 (lv_at hl 0 rfl) (lv_at hl 3 rfl) ?_
  refine lx_callV (As := [xs (i + 1)]) (a := 38) (rest := [.int r]) kcX12 lbX12_image llL_147 imX12_image seX12_X12_image_X12_image rfl rfl (Nat.le_of_ble_eq_true rfl) dL_law_1213 o1 (X12_image_c G _ 38 (xs (i + 1)) _ e2) hC hR1 hS1 hl.1 (fun rv hh H2 locs2 hq hR2 hS2 => ?_)
  obtain ⟨hq1, hq2⟩ := hq
  subst hq1
  subst hq2
  show W p G.1 e room_1 s m #[Value.ref b] below meth c H2 locs2 (Array.size H2 - s.heap.size) (1848 * (Array.size H2 - s.heap.size)) (lw_Z below #[Value.ref b] s) (F0 m 1216 ls [.int r, .int r])
  refine lv_icmp_eq (tgt := 1392) hx hb dL_law_1216 (by decide) (fun _ => k _ _ _ hI2 hR2 hS2) (fun hne => absurd rfl hne)
def lx_ag_restore (Inv : Nat → kw_H → Prop) : Prop := ∀ (j : Nat) (hp : kw_H), Inv j hp → j < 64 → ∀ (a1 : Int32), ∃ (r : Int32) (hp1 : kw_H) (hp2 : kw_H), X11_restore_F hp 0 a1 = some (r, hp1) ∧ (∃ fs, hp1[38]? = some (.inr (11, fs))) ∧ X12_restore_F hp1 38 a1 = some (r, hp2) ∧ Inv (j + 1) hp2
set_option maxRecDepth 100000 in
set_option maxHeartbeats 4000000 in
theorem lx_arm_32 {G : kw_G} {p : Program} {e : Env} {s : State} {m : MethodId} {below : List Frame} {meth : Method} {c : Code} {b L : Nat} {xs : Nat → Int32} (Inv : Nat → kw_H → Prop) (hO : ∀ j hp, Inv j hp → ∃ fs, hp[0]? = some (.inr (10, fs))) (hag : lx_ag_restore Inv) (hC : lx_C G p s m #[Value.ref b] c) (hX : va_X b L xs s s.heap) (hbl : b < s.heap.size) {i j : Nat} (hi : i + 6 ≤ L) (hL : L ≤ 384) {hp : kw_H} {H : Heap} {locs : List Loc} {ls : Array Slot} (hI : Inv j hp) (hj : j < 64) (hR : kw_R G hp H) (hS : va_S (fun q => G.2.1 ≤ q) s.heap H locs) (hl : lv_has ls 4 [(0, .ref b), (1, .ref (G.2.1 + 0)), (2, .ref (G.2.1 + 38)), (3, .int (nI i))]) (k : ∀ (hp2 : kw_H) (H2 : Heap) (locs2 : List Loc), Inv (j + 1) hp2 → kw_R G hp2 H2 → va_S (fun q => G.2.1 ≤ q) s.heap H2 locs2 → W p G.1 e room_1 s m #[Value.ref b] below meth c H2 locs2 (Array.size H2 - s.heap.size) (1848 * (Array.size H2 - s.heap.size)) (lw_Z below #[Value.ref b] s) (F0 m 1392 ls [])) : W p G.1 e room_1 s m #[Value.ref b] below meth c H locs (Array.size H - s.heap.size) (1848 * (Array.size H - s.heap.size)) (lw_Z below #[Value.ref b] s) (F0 m 1221 ls []) := by
  obtain ⟨hx, hb, hml, hown, hts, hZ, hN⟩ := id hC
  obtain ⟨r, hp1, hp2, e1, ⟨fs1, o1⟩, e2, hI2⟩ := hag j hp hI hj (xs (i + 1))
  obtain ⟨fs0, o0⟩ := hO j hp hI
  refine lv_aload_n hx hb dL_law_1221 rfl (lv_at hl 1 rfl) ?_
  refine lx_arg hC hX hbl (t := 1) dL_law_1222 dL_law_1223 dL_law_1224 (by decide) dL_law_1225 dL_law_1226 (by omega) (by omega) hS (lv_at hl 0 rfl) (lv_at hl 3 rfl) ?_
  refine lx_callV (As := [xs (i + 1)]) (a := 0) (rest := []) kcX11 lbX11_restore llL_148 imX11_restore seX11_X11_restore_X11_restore rfl rfl (Nat.le_of_ble_eq_true rfl) dL_law_1227 o0 (X11_restore_c G hp 0 (xs (i + 1)) _ e1) hC hR hS hl.1 (fun rv hh H1 locs1 hq hR1 hS1 => ?_)
  obtain ⟨hq1, hq2⟩ := hq
  subst hq1
  subst hq2
  show W p G.1 e room_1 s m #[Value.ref b] below meth c H1 locs1 (Array.size H1 - s.heap.size) (1848 * (Array.size H1 - s.heap.size)) (lw_Z below #[Value.ref b] s) (F0 m 1230 ls [.int r])
  refine lv_aload_n hx hb dL_law_1230 rfl (lv_at hl 2 rfl) ?_
  refine lx_arg hC hX hbl (t := 1) dL_law_1231 dL_law_1232 dL_law_1233 (by decide) dL_law_1234 dL_law_1235 (by omega) (by omega) hS1 (lv_at hl 0 rfl) (lv_at hl 3 rfl) ?_
  refine lx_callV (As := [xs (i + 1)]) (a := 38) (rest := [.int r]) kcX12 lbX12_restore llL_151 imX12_restore seX12_X12_restore_X12_restore rfl rfl (Nat.le_of_ble_eq_true rfl) dL_law_1236 o1 (X12_restore_c G _ 38 (xs (i + 1)) _ e2) hC hR1 hS1 hl.1 (fun rv hh H2 locs2 hq hR2 hS2 => ?_)
  obtain ⟨hq1, hq2⟩ := hq
  subst hq1
  subst hq2
  show W p G.1 e room_1 s m #[Value.ref b] below meth c H2 locs2 (Array.size H2 - s.heap.size) (1848 * (Array.size H2 - s.heap.size)) (lw_Z below #[Value.ref b] s) (F0 m 1239 ls [.int r, .int r])
  refine lv_icmp_eq (tgt := 1392) hx hb dL_law_1239 (by decide) (fun _ => k _ _ _ hI2 hR2 hS2) (fun hne => absurd rfl hne)
def lx_ag_kind (Inv : Nat → kw_H → Prop) : Prop := ∀ (j : Nat) (hp : kw_H), Inv j hp → j < 64 → ∀ (a1 : Int32), ∃ (r : Int32), X11_kind_F hp 0 a1 = some r ∧ (∃ fs, hp[38]? = some (.inr (11, fs))) ∧ X12_kind_F hp 38 a1 = some r ∧ Inv (j + 1) hp
set_option maxRecDepth 100000 in
set_option maxHeartbeats 4000000 in
theorem lx_arm_33 {G : kw_G} {p : Program} {e : Env} {s : State} {m : MethodId} {below : List Frame} {meth : Method} {c : Code} {b L : Nat} {xs : Nat → Int32} (Inv : Nat → kw_H → Prop) (hO : ∀ j hp, Inv j hp → ∃ fs, hp[0]? = some (.inr (10, fs))) (hag : lx_ag_kind Inv) (hC : lx_C G p s m #[Value.ref b] c) (hX : va_X b L xs s s.heap) (hbl : b < s.heap.size) {i j : Nat} (hi : i + 6 ≤ L) (hL : L ≤ 384) {hp : kw_H} {H : Heap} {locs : List Loc} {ls : Array Slot} (hI : Inv j hp) (hj : j < 64) (hR : kw_R G hp H) (hS : va_S (fun q => G.2.1 ≤ q) s.heap H locs) (hl : lv_has ls 4 [(0, .ref b), (1, .ref (G.2.1 + 0)), (2, .ref (G.2.1 + 38)), (3, .int (nI i))]) (k : ∀ (hp2 : kw_H) (H2 : Heap) (locs2 : List Loc), Inv (j + 1) hp2 → kw_R G hp2 H2 → va_S (fun q => G.2.1 ≤ q) s.heap H2 locs2 → W p G.1 e room_1 s m #[Value.ref b] below meth c H2 locs2 (Array.size H2 - s.heap.size) (1848 * (Array.size H2 - s.heap.size)) (lw_Z below #[Value.ref b] s) (F0 m 1392 ls [])) : W p G.1 e room_1 s m #[Value.ref b] below meth c H locs (Array.size H - s.heap.size) (1848 * (Array.size H - s.heap.size)) (lw_Z below #[Value.ref b] s) (F0 m 1244 ls []) := by
  obtain ⟨hx, hb, hml, hown, hts, hZ, hN⟩ := id hC
  obtain ⟨r, e1, ⟨fs1, o1⟩, e2, hI2⟩ := hag j hp hI hj (xs (i + 1))
  obtain ⟨fs0, o0⟩ := hO j hp hI
  refine lv_aload_n hx hb dL_law_1244 rfl (lv_at hl 1 rfl) ?_
  refine lx_arg hC hX hbl (t := 1) dL_law_1245 dL_law_1246 dL_law_1247 (by decide) dL_law_1248 dL_law_1249 (by omega) (by omega) hS (lv_at hl 0 rfl) (lv_at hl 3 rfl) ?_
  refine lx_callV (As := [xs (i + 1)]) (a := 0) (rest := []) kcX11 lbX11_kind llL_152 imX11_kind seX11_X11_kind_X11_kind rfl rfl (Nat.le_of_ble_eq_true rfl) dL_law_1250 o0 (X11_kind_c G hp 0 (xs (i + 1)) _ e1) hC hR hS hl.1 (fun rv hh H1 locs1 hq hR1 hS1 => ?_)
  obtain ⟨hq1, hq2⟩ := hq
  subst hq1
  subst hq2
  show W p G.1 e room_1 s m #[Value.ref b] below meth c H1 locs1 (Array.size H1 - s.heap.size) (1848 * (Array.size H1 - s.heap.size)) (lw_Z below #[Value.ref b] s) (F0 m 1253 ls [.int r])
  refine lv_aload_n hx hb dL_law_1253 rfl (lv_at hl 2 rfl) ?_
  refine lx_arg hC hX hbl (t := 1) dL_law_1254 dL_law_1255 dL_law_1256 (by decide) dL_law_1257 dL_law_1258 (by omega) (by omega) hS1 (lv_at hl 0 rfl) (lv_at hl 3 rfl) ?_
  refine lx_callV (As := [xs (i + 1)]) (a := 38) (rest := [.int r]) kcX12 lbX12_kind llL_155 imX12_kind seX12_X12_kind_X12_kind rfl rfl (Nat.le_of_ble_eq_true rfl) dL_law_1259 o1 (X12_kind_c G _ 38 (xs (i + 1)) _ e2) hC hR1 hS1 hl.1 (fun rv hh H2 locs2 hq hR2 hS2 => ?_)
  obtain ⟨hq1, hq2⟩ := hq
  subst hq1
  subst hq2
  show W p G.1 e room_1 s m #[Value.ref b] below meth c H2 locs2 (Array.size H2 - s.heap.size) (1848 * (Array.size H2 - s.heap.size)) (lw_Z below #[Value.ref b] s) (F0 m 1262 ls [.int r, .int r])
  refine lv_icmp_eq (tgt := 1392) hx hb dL_law_1262 (by decide) (fun _ => k _ _ _ hI2 hR2 hS2) (fun hne => absurd rfl hne)
def lx_ag_as (Inv : Nat → kw_H → Prop) : Prop := ∀ (j : Nat) (hp : kw_H), Inv j hp → j < 64 → ∀ (a1 a2 : Int32), ∃ (r : Int32) (hp1 : kw_H) (hp2 : kw_H), X11_as_F hp 0 a1 a2 = some (r, hp1) ∧ (∃ fs, hp1[38]? = some (.inr (11, fs))) ∧ X12_as_F hp1 38 a1 a2 = some (r, hp2) ∧ Inv (j + 1) hp2
set_option maxRecDepth 100000 in
set_option maxHeartbeats 4000000 in
theorem lx_arm_34 {G : kw_G} {p : Program} {e : Env} {s : State} {m : MethodId} {below : List Frame} {meth : Method} {c : Code} {b L : Nat} {xs : Nat → Int32} (Inv : Nat → kw_H → Prop) (hO : ∀ j hp, Inv j hp → ∃ fs, hp[0]? = some (.inr (10, fs))) (hag : lx_ag_as Inv) (hC : lx_C G p s m #[Value.ref b] c) (hX : va_X b L xs s s.heap) (hbl : b < s.heap.size) {i j : Nat} (hi : i + 6 ≤ L) (hL : L ≤ 384) {hp : kw_H} {H : Heap} {locs : List Loc} {ls : Array Slot} (hI : Inv j hp) (hj : j < 64) (hR : kw_R G hp H) (hS : va_S (fun q => G.2.1 ≤ q) s.heap H locs) (hl : lv_has ls 4 [(0, .ref b), (1, .ref (G.2.1 + 0)), (2, .ref (G.2.1 + 38)), (3, .int (nI i))]) (k : ∀ (hp2 : kw_H) (H2 : Heap) (locs2 : List Loc), Inv (j + 1) hp2 → kw_R G hp2 H2 → va_S (fun q => G.2.1 ≤ q) s.heap H2 locs2 → W p G.1 e room_1 s m #[Value.ref b] below meth c H2 locs2 (Array.size H2 - s.heap.size) (1848 * (Array.size H2 - s.heap.size)) (lw_Z below #[Value.ref b] s) (F0 m 1392 ls [])) : W p G.1 e room_1 s m #[Value.ref b] below meth c H locs (Array.size H - s.heap.size) (1848 * (Array.size H - s.heap.size)) (lw_Z below #[Value.ref b] s) (F0 m 1267 ls []) := by
  obtain ⟨hx, hb, hml, hown, hts, hZ, hN⟩ := id hC
  obtain ⟨r, hp1, hp2, e1, ⟨fs1, o1⟩, e2, hI2⟩ := hag j hp hI hj (xs (i + 1)) (xs (i + 2))
  obtain ⟨fs0, o0⟩ := hO j hp hI
  refine lv_aload_n hx hb dL_law_1267 rfl (lv_at hl 1 rfl) ?_
  refine lx_arg hC hX hbl (t := 1) dL_law_1268 dL_law_1269 dL_law_1270 (by decide) dL_law_1271 dL_law_1272 (by omega) (by omega) hS (lv_at hl 0 rfl) (lv_at hl 3 rfl) ?_
  refine lx_arg hC hX hbl (t := 2) dL_law_1273 dL_law_1274 dL_law_1275 (by decide) dL_law_1276 dL_law_1277 (by omega) (by omega) hS (lv_at hl 0 rfl) (lv_at hl 3 rfl) ?_
  refine lx_callV (As := [xs (i + 1), xs (i + 2)]) (a := 0) (rest := []) kcX11 lbX11_as llL_156 imX11_as seX11_X11_as_X11_as rfl rfl (Nat.le_of_ble_eq_true rfl) dL_law_1278 o0 (X11_as_c G hp 0 (xs (i + 1)) (xs (i + 2)) _ e1) hC hR hS hl.1 (fun rv hh H1 locs1 hq hR1 hS1 => ?_)
  obtain ⟨hq1, hq2⟩ := hq
  subst hq1
  subst hq2
  show W p G.1 e room_1 s m #[Value.ref b] below meth c H1 locs1 (Array.size H1 - s.heap.size) (1848 * (Array.size H1 - s.heap.size)) (lw_Z below #[Value.ref b] s) (F0 m 1281 ls [.int r])
  refine lv_aload_n hx hb dL_law_1281 rfl (lv_at hl 2 rfl) ?_
  refine lx_arg hC hX hbl (t := 1) dL_law_1282 dL_law_1283 dL_law_1284 (by decide) dL_law_1285 dL_law_1286 (by omega) (by omega) hS1 (lv_at hl 0 rfl) (lv_at hl 3 rfl) ?_
  refine lx_arg hC hX hbl (t := 2) dL_law_1287 dL_law_1288 dL_law_1289 (by decide) dL_law_1290 dL_law_1291 (by omega) (by omega) hS1 (lv_at hl 0 rfl) (lv_at hl 3 rfl) ?_
  refine lx_callV (As := [xs (i + 1), xs (i + 2)]) (a := 38) (rest := [.int r]) kcX12 lbX12_as llL_159 imX12_as seX12_X12_as_X12_as rfl rfl (Nat.le_of_ble_eq_true rfl) dL_law_1292 o1 (X12_as_c G _ 38 (xs (i + 1)) (xs (i + 2)) _ e2) hC hR1 hS1 hl.1 (fun rv hh H2 locs2 hq hR2 hS2 => ?_)
  obtain ⟨hq1, hq2⟩ := hq
  subst hq1
  subst hq2
  show W p G.1 e room_1 s m #[Value.ref b] below meth c H2 locs2 (Array.size H2 - s.heap.size) (1848 * (Array.size H2 - s.heap.size)) (lw_Z below #[Value.ref b] s) (F0 m 1295 ls [.int r, .int r])
  refine lv_icmp_eq (tgt := 1392) hx hb dL_law_1295 (by decide) (fun _ => k _ _ _ hI2 hR2 hS2) (fun hne => absurd rfl hne)
def lx_ag_ask (Inv : Nat → kw_H → Prop) : Prop := ∀ (j : Nat) (hp : kw_H), Inv j hp → j < 64 → ∀ (a1 a2 : Int32), ∃ (r : Int32) (hp1 : kw_H) (hp2 : kw_H), X11_ask_F hp 0 a1 a2 = some (r, hp1) ∧ (∃ fs, hp1[38]? = some (.inr (11, fs))) ∧ X12_ask_F hp1 38 a1 a2 = some (r, hp2) ∧ Inv (j + 1) hp2
set_option maxRecDepth 100000 in
set_option maxHeartbeats 4000000 in
theorem lx_arm_35 {G : kw_G} {p : Program} {e : Env} {s : State} {m : MethodId} {below : List Frame} {meth : Method} {c : Code} {b L : Nat} {xs : Nat → Int32} (Inv : Nat → kw_H → Prop) (hO : ∀ j hp, Inv j hp → ∃ fs, hp[0]? = some (.inr (10, fs))) (hag : lx_ag_ask Inv) (hC : lx_C G p s m #[Value.ref b] c) (hX : va_X b L xs s s.heap) (hbl : b < s.heap.size) {i j : Nat} (hi : i + 6 ≤ L) (hL : L ≤ 384) {hp : kw_H} {H : Heap} {locs : List Loc} {ls : Array Slot} (hI : Inv j hp) (hj : j < 64) (hR : kw_R G hp H) (hS : va_S (fun q => G.2.1 ≤ q) s.heap H locs) (hl : lv_has ls 4 [(0, .ref b), (1, .ref (G.2.1 + 0)), (2, .ref (G.2.1 + 38)), (3, .int (nI i))]) (k : ∀ (hp2 : kw_H) (H2 : Heap) (locs2 : List Loc), Inv (j + 1) hp2 → kw_R G hp2 H2 → va_S (fun q => G.2.1 ≤ q) s.heap H2 locs2 → W p G.1 e room_1 s m #[Value.ref b] below meth c H2 locs2 (Array.size H2 - s.heap.size) (1848 * (Array.size H2 - s.heap.size)) (lw_Z below #[Value.ref b] s) (F0 m 1392 ls [])) : W p G.1 e room_1 s m #[Value.ref b] below meth c H locs (Array.size H - s.heap.size) (1848 * (Array.size H - s.heap.size)) (lw_Z below #[Value.ref b] s) (F0 m 1300 ls []) := by
  obtain ⟨hx, hb, hml, hown, hts, hZ, hN⟩ := id hC
  obtain ⟨r, hp1, hp2, e1, ⟨fs1, o1⟩, e2, hI2⟩ := hag j hp hI hj (xs (i + 1)) (xs (i + 2))
  obtain ⟨fs0, o0⟩ := hO j hp hI
  refine lv_aload_n hx hb dL_law_1300 rfl (lv_at hl 1 rfl) ?_
  refine lx_arg hC hX hbl (t := 1) dL_law_1301 dL_law_1302 dL_law_1303 (by decide) dL_law_1304 dL_law_1305 (by omega) (by omega) hS (lv_at hl 0 rfl) (lv_at hl 3 rfl) ?_
  refine lx_arg hC hX hbl (t := 2) dL_law_1306 dL_law_1307 dL_law_1308 (by decide) dL_law_1309 dL_law_1310 (by omega) (by omega) hS (lv_at hl 0 rfl) (lv_at hl 3 rfl) ?_
  refine lx_callV (As := [xs (i + 1), xs (i + 2)]) (a := 0) (rest := []) kcX11 lbX11_ask llL_160 imX11_ask seX11_X11_ask_X11_ask rfl rfl (Nat.le_of_ble_eq_true rfl) dL_law_1311 o0 (X11_ask_c G hp 0 (xs (i + 1)) (xs (i + 2)) _ e1) hC hR hS hl.1 (fun rv hh H1 locs1 hq hR1 hS1 => ?_)
  obtain ⟨hq1, hq2⟩ := hq
  subst hq1
  subst hq2
  show W p G.1 e room_1 s m #[Value.ref b] below meth c H1 locs1 (Array.size H1 - s.heap.size) (1848 * (Array.size H1 - s.heap.size)) (lw_Z below #[Value.ref b] s) (F0 m 1314 ls [.int r])
  refine lv_aload_n hx hb dL_law_1314 rfl (lv_at hl 2 rfl) ?_
  refine lx_arg hC hX hbl (t := 1) dL_law_1315 dL_law_1316 dL_law_1317 (by decide) dL_law_1318 dL_law_1319 (by omega) (by omega) hS1 (lv_at hl 0 rfl) (lv_at hl 3 rfl) ?_
  refine lx_arg hC hX hbl (t := 2) dL_law_1320 dL_law_1321 dL_law_1322 (by decide) dL_law_1323 dL_law_1324 (by omega) (by omega) hS1 (lv_at hl 0 rfl) (lv_at hl 3 rfl) ?_
  refine lx_callV (As := [xs (i + 1), xs (i + 2)]) (a := 38) (rest := [.int r]) kcX12 lbX12_ask llL_163 imX12_ask seX12_X12_ask_X12_ask rfl rfl (Nat.le_of_ble_eq_true rfl) dL_law_1325 o1 (X12_ask_c G _ 38 (xs (i + 1)) (xs (i + 2)) _ e2) hC hR1 hS1 hl.1 (fun rv hh H2 locs2 hq hR2 hS2 => ?_)
  obtain ⟨hq1, hq2⟩ := hq
  subst hq1
  subst hq2
  show W p G.1 e room_1 s m #[Value.ref b] below meth c H2 locs2 (Array.size H2 - s.heap.size) (1848 * (Array.size H2 - s.heap.size)) (lw_Z below #[Value.ref b] s) (F0 m 1328 ls [.int r, .int r])
  refine lv_icmp_eq (tgt := 1392) hx hb dL_law_1328 (by decide) (fun _ => k _ _ _ hI2 hR2 hS2) (fun hne => absurd rfl hne)
def lx_ag_trace (Inv : Nat → kw_H → Prop) : Prop := ∀ (j : Nat) (hp : kw_H), Inv j hp → j < 64 → ∀ (a1 : Int32), ∃ (r : Int32), X11_trace_F hp 0 a1 = some r ∧ (∃ fs, hp[38]? = some (.inr (11, fs))) ∧ X12_trace_F hp 38 a1 = some r ∧ Inv (j + 1) hp
set_option maxRecDepth 100000 in
set_option maxHeartbeats 4000000 in
theorem lx_arm_36 {G : kw_G} {p : Program} {e : Env} {s : State} {m : MethodId} {below : List Frame} {meth : Method} {c : Code} {b L : Nat} {xs : Nat → Int32} (Inv : Nat → kw_H → Prop) (hO : ∀ j hp, Inv j hp → ∃ fs, hp[0]? = some (.inr (10, fs))) (hag : lx_ag_trace Inv) (hC : lx_C G p s m #[Value.ref b] c) (hX : va_X b L xs s s.heap) (hbl : b < s.heap.size) {i j : Nat} (hi : i + 6 ≤ L) (hL : L ≤ 384) {hp : kw_H} {H : Heap} {locs : List Loc} {ls : Array Slot} (hI : Inv j hp) (hj : j < 64) (hR : kw_R G hp H) (hS : va_S (fun q => G.2.1 ≤ q) s.heap H locs) (hl : lv_has ls 4 [(0, .ref b), (1, .ref (G.2.1 + 0)), (2, .ref (G.2.1 + 38)), (3, .int (nI i))]) (k : ∀ (hp2 : kw_H) (H2 : Heap) (locs2 : List Loc), Inv (j + 1) hp2 → kw_R G hp2 H2 → va_S (fun q => G.2.1 ≤ q) s.heap H2 locs2 → W p G.1 e room_1 s m #[Value.ref b] below meth c H2 locs2 (Array.size H2 - s.heap.size) (1848 * (Array.size H2 - s.heap.size)) (lw_Z below #[Value.ref b] s) (F0 m 1392 ls [])) : W p G.1 e room_1 s m #[Value.ref b] below meth c H locs (Array.size H - s.heap.size) (1848 * (Array.size H - s.heap.size)) (lw_Z below #[Value.ref b] s) (F0 m 1333 ls []) := by
  obtain ⟨hx, hb, hml, hown, hts, hZ, hN⟩ := id hC
  obtain ⟨r, e1, ⟨fs1, o1⟩, e2, hI2⟩ := hag j hp hI hj (xs (i + 1))
  obtain ⟨fs0, o0⟩ := hO j hp hI
  refine lv_aload_n hx hb dL_law_1333 rfl (lv_at hl 1 rfl) ?_
  refine lx_arg hC hX hbl (t := 1) dL_law_1334 dL_law_1335 dL_law_1336 (by decide) dL_law_1337 dL_law_1338 (by omega) (by omega) hS (lv_at hl 0 rfl) (lv_at hl 3 rfl) ?_
  refine lx_callV (As := [xs (i + 1)]) (a := 0) (rest := []) kcX11 lbX11_trace llL_164 imX11_trace seX11_X11_trace_X11_trace rfl rfl (Nat.le_of_ble_eq_true rfl) dL_law_1339 o0 (X11_trace_c G hp 0 (xs (i + 1)) _ e1) hC hR hS hl.1 (fun rv hh H1 locs1 hq hR1 hS1 => ?_)
  obtain ⟨hq1, hq2⟩ := hq
  subst hq1
  subst hq2
  show W p G.1 e room_1 s m #[Value.ref b] below meth c H1 locs1 (Array.size H1 - s.heap.size) (1848 * (Array.size H1 - s.heap.size)) (lw_Z below #[Value.ref b] s) (F0 m 1342 ls [.int r])
  refine lv_aload_n hx hb dL_law_1342 rfl (lv_at hl 2 rfl) ?_
  refine lx_arg hC hX hbl (t := 1) dL_law_1343 dL_law_1344 dL_law_1345 (by decide) dL_law_1346 dL_law_1347 (by omega) (by omega) hS1 (lv_at hl 0 rfl) (lv_at hl 3 rfl) ?_
  refine lx_callV (As := [xs (i + 1)]) (a := 38) (rest := [.int r]) kcX12 lbX12_trace llL_167 imX12_trace seX12_X12_trace_X12_trace rfl rfl (Nat.le_of_ble_eq_true rfl) dL_law_1348 o1 (X12_trace_c G _ 38 (xs (i + 1)) _ e2) hC hR1 hS1 hl.1 (fun rv hh H2 locs2 hq hR2 hS2 => ?_)
  obtain ⟨hq1, hq2⟩ := hq
  subst hq1
  subst hq2
  show W p G.1 e room_1 s m #[Value.ref b] below meth c H2 locs2 (Array.size H2 - s.heap.size) (1848 * (Array.size H2 - s.heap.size)) (lw_Z below #[Value.ref b] s) (F0 m 1351 ls [.int r, .int r])
  refine lv_icmp_eq (tgt := 1392) hx hb dL_law_1351 (by decide) (fun _ => k _ _ _ hI2 hR2 hS2) (fun hne => absurd rfl hne)
def lx_ag_count (Inv : Nat → kw_H → Prop) : Prop := ∀ (j : Nat) (hp : kw_H), Inv j hp → j < 64 → ∀ (a1 : Int32), ∃ (r : Int32), X11_count_F hp 0 a1 = some r ∧ (∃ fs, hp[38]? = some (.inr (11, fs))) ∧ X12_count_F hp 38 a1 = some r ∧ Inv (j + 1) hp
set_option maxRecDepth 100000 in
set_option maxHeartbeats 4000000 in
theorem lx_arm_37 {G : kw_G} {p : Program} {e : Env} {s : State} {m : MethodId} {below : List Frame} {meth : Method} {c : Code} {b L : Nat} {xs : Nat → Int32} (Inv : Nat → kw_H → Prop) (hO : ∀ j hp, Inv j hp → ∃ fs, hp[0]? = some (.inr (10, fs))) (hag : lx_ag_count Inv) (hC : lx_C G p s m #[Value.ref b] c) (hX : va_X b L xs s s.heap) (hbl : b < s.heap.size) {i j : Nat} (hi : i + 6 ≤ L) (hL : L ≤ 384) {hp : kw_H} {H : Heap} {locs : List Loc} {ls : Array Slot} (hI : Inv j hp) (hj : j < 64) (hR : kw_R G hp H) (hS : va_S (fun q => G.2.1 ≤ q) s.heap H locs) (hl : lv_has ls 4 [(0, .ref b), (1, .ref (G.2.1 + 0)), (2, .ref (G.2.1 + 38)), (3, .int (nI i))]) (k : ∀ (hp2 : kw_H) (H2 : Heap) (locs2 : List Loc), Inv (j + 1) hp2 → kw_R G hp2 H2 → va_S (fun q => G.2.1 ≤ q) s.heap H2 locs2 → W p G.1 e room_1 s m #[Value.ref b] below meth c H2 locs2 (Array.size H2 - s.heap.size) (1848 * (Array.size H2 - s.heap.size)) (lw_Z below #[Value.ref b] s) (F0 m 1392 ls [])) : W p G.1 e room_1 s m #[Value.ref b] below meth c H locs (Array.size H - s.heap.size) (1848 * (Array.size H - s.heap.size)) (lw_Z below #[Value.ref b] s) (F0 m 1356 ls []) := by
  obtain ⟨hx, hb, hml, hown, hts, hZ, hN⟩ := id hC
  obtain ⟨r, e1, ⟨fs1, o1⟩, e2, hI2⟩ := hag j hp hI hj (xs (i + 1))
  obtain ⟨fs0, o0⟩ := hO j hp hI
  refine lv_aload_n hx hb dL_law_1356 rfl (lv_at hl 1 rfl) ?_
  refine lx_arg hC hX hbl (t := 1) dL_law_1357 dL_law_1358 dL_law_1359 (by decide) dL_law_1360 dL_law_1361 (by omega) (by omega) hS (lv_at hl 0 rfl) (lv_at hl 3 rfl) ?_
  refine lx_callV (As := [xs (i + 1)]) (a := 0) (rest := []) kcX11 lbX11_count llL_168 imX11_count seX11_X11_count_X11_count rfl rfl (Nat.le_of_ble_eq_true rfl) dL_law_1362 o0 (X11_count_c G hp 0 (xs (i + 1)) _ e1) hC hR hS hl.1 (fun rv hh H1 locs1 hq hR1 hS1 => ?_)
  obtain ⟨hq1, hq2⟩ := hq
  subst hq1
  subst hq2
  show W p G.1 e room_1 s m #[Value.ref b] below meth c H1 locs1 (Array.size H1 - s.heap.size) (1848 * (Array.size H1 - s.heap.size)) (lw_Z below #[Value.ref b] s) (F0 m 1365 ls [.int r])
  refine lv_aload_n hx hb dL_law_1365 rfl (lv_at hl 2 rfl) ?_
  refine lx_arg hC hX hbl (t := 1) dL_law_1366 dL_law_1367 dL_law_1368 (by decide) dL_law_1369 dL_law_1370 (by omega) (by omega) hS1 (lv_at hl 0 rfl) (lv_at hl 3 rfl) ?_
  refine lx_callV (As := [xs (i + 1)]) (a := 38) (rest := [.int r]) kcX12 lbX12_count llL_171 imX12_count seX12_X12_count_X12_count rfl rfl (Nat.le_of_ble_eq_true rfl) dL_law_1371 o1 (X12_count_c G _ 38 (xs (i + 1)) _ e2) hC hR1 hS1 hl.1 (fun rv hh H2 locs2 hq hR2 hS2 => ?_)
  obtain ⟨hq1, hq2⟩ := hq
  subst hq1
  subst hq2
  show W p G.1 e room_1 s m #[Value.ref b] below meth c H2 locs2 (Array.size H2 - s.heap.size) (1848 * (Array.size H2 - s.heap.size)) (lw_Z below #[Value.ref b] s) (F0 m 1374 ls [.int r, .int r])
  refine lv_icmp_eq (tgt := 1392) hx hb dL_law_1374 (by decide) (fun _ => k _ _ _ hI2 hR2 hS2) (fun hne => absurd rfl hne)
def lx_ag_status (Inv : Nat → kw_H → Prop) : Prop := ∀ (j : Nat) (hp : kw_H), Inv j hp → j < 64 → ∀ (_ : Unit), ∃ (r : Int32), X11_status_F hp 0 = some r ∧ (∃ fs, hp[38]? = some (.inr (11, fs))) ∧ X12_status_F hp 38 = some r ∧ Inv (j + 1) hp
set_option maxRecDepth 100000 in
set_option maxHeartbeats 4000000 in
theorem lx_arm_38 {G : kw_G} {p : Program} {e : Env} {s : State} {m : MethodId} {below : List Frame} {meth : Method} {c : Code} {b L : Nat} {xs : Nat → Int32} (Inv : Nat → kw_H → Prop) (hO : ∀ j hp, Inv j hp → ∃ fs, hp[0]? = some (.inr (10, fs))) (hag : lx_ag_status Inv) (hC : lx_C G p s m #[Value.ref b] c) (hX : va_X b L xs s s.heap) (hbl : b < s.heap.size) {i j : Nat} (hi : i + 6 ≤ L) (hL : L ≤ 384) {hp : kw_H} {H : Heap} {locs : List Loc} {ls : Array Slot} (hI : Inv j hp) (hj : j < 64) (hR : kw_R G hp H) (hS : va_S (fun q => G.2.1 ≤ q) s.heap H locs) (hl : lv_has ls 4 [(0, .ref b), (1, .ref (G.2.1 + 0)), (2, .ref (G.2.1 + 38)), (3, .int (nI i))]) (k : ∀ (hp2 : kw_H) (H2 : Heap) (locs2 : List Loc), Inv (j + 1) hp2 → kw_R G hp2 H2 → va_S (fun q => G.2.1 ≤ q) s.heap H2 locs2 → W p G.1 e room_1 s m #[Value.ref b] below meth c H2 locs2 (Array.size H2 - s.heap.size) (1848 * (Array.size H2 - s.heap.size)) (lw_Z below #[Value.ref b] s) (F0 m 1392 ls [])) : W p G.1 e room_1 s m #[Value.ref b] below meth c H locs (Array.size H - s.heap.size) (1848 * (Array.size H - s.heap.size)) (lw_Z below #[Value.ref b] s) (F0 m 1379 ls []) := by
  obtain ⟨hx, hb, hml, hown, hts, hZ, hN⟩ := id hC
  obtain ⟨r, e1, ⟨fs1, o1⟩, e2, hI2⟩ := hag j hp hI hj ()
  obtain ⟨fs0, o0⟩ := hO j hp hI
  refine lv_aload_n hx hb dL_law_1379 rfl (lv_at hl 1 rfl) ?_
  refine lx_callV (As := []) (a := 0) (rest := []) kcX11 lbX11_status llL_172 imX11_status seX11_X11_status_X11_status rfl rfl (Nat.le_of_ble_eq_true rfl) dL_law_1380 o0 (X11_status_c G hp 0 _ e1) hC hR hS hl.1 (fun rv hh H1 locs1 hq hR1 hS1 => ?_)
  obtain ⟨hq1, hq2⟩ := hq
  subst hq1
  subst hq2
  show W p G.1 e room_1 s m #[Value.ref b] below meth c H1 locs1 (Array.size H1 - s.heap.size) (1848 * (Array.size H1 - s.heap.size)) (lw_Z below #[Value.ref b] s) (F0 m 1383 ls [.int r])
  refine lv_aload_n hx hb dL_law_1383 rfl (lv_at hl 2 rfl) ?_
  refine lx_callV (As := []) (a := 38) (rest := [.int r]) kcX12 lbX12_status llL_175 imX12_status seX12_X12_status_X12_status rfl rfl (Nat.le_of_ble_eq_true rfl) dL_law_1384 o1 (X12_status_c G _ 38 _ e2) hC hR1 hS1 hl.1 (fun rv hh H2 locs2 hq hR2 hS2 => ?_)
  obtain ⟨hq1, hq2⟩ := hq
  subst hq1
  subst hq2
  show W p G.1 e room_1 s m #[Value.ref b] below meth c H2 locs2 (Array.size H2 - s.heap.size) (1848 * (Array.size H2 - s.heap.size)) (lw_Z below #[Value.ref b] s) (F0 m 1387 ls [.int r, .int r])
  refine lv_icmp_eq (tgt := 1392) hx hb dL_law_1387 (by decide) (fun _ => k _ _ _ hI2 hR2 hS2) (fun hne => absurd rfl hne)
def lx_AG (Inv : Nat → kw_H → Prop) : Prop := lx_ag_row Inv ∧ lx_ag_set Inv ∧ lx_ag_copy Inv ∧ lx_ag_drop Inv ∧ lx_ag_feed Inv ∧ lx_ag_kitchen Inv ∧ lx_ag_fault Inv ∧ lx_ag_undo Inv ∧ lx_ag_weeks Inv ∧ lx_ag_leave Inv ∧ lx_ag_name Inv ∧ lx_ag_job Inv ∧ lx_ag_turn Inv ∧ lx_ag_done Inv ∧ lx_ag_slot Inv ∧ lx_ag_turner Inv ∧ lx_ag_hasJobs Inv ∧ lx_ag_whoDoes Inv ∧ lx_ag_often Inv ∧ lx_ag_meets Inv ∧ lx_ag_allMet Inv ∧ lx_ag_round Inv ∧ lx_ag_fairest Inv ∧ lx_ag_owed Inv ∧ lx_ag_right Inv ∧ lx_ag_twice Inv ∧ lx_ag_seen Inv ∧ lx_ag_who Inv ∧ lx_ag_pairs Inv ∧ lx_ag_forgets Inv ∧ lx_ag_drawn Inv ∧ lx_ag_image Inv ∧ lx_ag_restore Inv ∧ lx_ag_kind Inv ∧ lx_ag_as Inv ∧ lx_ag_ask Inv ∧ lx_ag_trace Inv ∧ lx_ag_count Inv ∧ lx_ag_status Inv
set_option maxRecDepth 100000 in
set_option maxHeartbeats 4000000 in
theorem lx_switch {G : kw_G} {p : Program} {e : Env} {s : State} {m : MethodId} {below : List Frame} {meth : Method} {c : Code} {b L : Nat} {xs : Nat → Int32} (Inv : Nat → kw_H → Prop) (hO : ∀ j hp, Inv j hp → ∃ fs, hp[0]? = some (.inr (10, fs))) (hsk : ∀ j hp, Inv j hp → Inv (j + 1) hp) (hA : lx_AG Inv) (hC : lx_C G p s m #[Value.ref b] c) (hX : va_X b L xs s s.heap) (hbl : b < s.heap.size) {i j : Nat} (hi : i + 6 ≤ L) (hL : L ≤ 384) {hp : kw_H} {H : Heap} {locs : List Loc} {ls : Array Slot} {y : Int32} (hI : Inv j hp) (hj : j < 64) (hR : kw_R G hp H) (hS : va_S (fun q => G.2.1 ≤ q) s.heap H locs) (hl : lv_has ls 4 [(0, .ref b), (1, .ref (G.2.1 + 0)), (2, .ref (G.2.1 + 38)), (3, .int (nI i))]) (k : ∀ (hp2 : kw_H) (H2 : Heap) (locs2 : List Loc), Inv (j + 1) hp2 → kw_R G hp2 H2 → va_S (fun q => G.2.1 ≤ q) s.heap H2 locs2 → W p G.1 e room_1 s m #[Value.ref b] below meth c H2 locs2 (Array.size H2 - s.heap.size) (1848 * (Array.size H2 - s.heap.size)) (lw_Z below #[Value.ref b] s) (F0 m 1392 ls [])) : W p G.1 e room_1 s m #[Value.ref b] below meth c H locs (Array.size H - s.heap.size) (1848 * (Array.size H - s.heap.size)) (lw_Z below #[Value.ref b] s) (F0 m 33 ls [.int y]) := by
  obtain ⟨hx, hb, hml, hown, hts, hZ, hN⟩ := id hC
  by_cases c0 : y = nI 0
  · subst c0
    refine lv_tableIn (off := 171) (tgt := 204) hx hb dL_law_33 (by decide) (by decide) (by decide) (by decide) ?_
    exact lx_arm_0 Inv hO hA.1 hC hX hbl hi hL hI hj hR hS hl k
  · by_cases c1 : y = nI 1
    · subst c1
      refine lv_tableIn (off := 214) (tgt := 247) hx hb dL_law_33 (by decide) (by decide) (by decide) (by decide) ?_
      exact lx_arm_1 Inv hO hA.2.1 hC hX hbl hi hL hI hj hR hS hl k
    · by_cases c2 : y = nI 2
      · subst c2
        refine lv_tableIn (off := 257) (tgt := 290) hx hb dL_law_33 (by decide) (by decide) (by decide) (by decide) ?_
        exact lx_arm_2 Inv hO hA.2.2.1 hC hX hbl hi hL hI hj hR hS hl k
      · by_cases c3 : y = nI 3
        · subst c3
          refine lv_tableIn (off := 320) (tgt := 353) hx hb dL_law_33 (by decide) (by decide) (by decide) (by decide) ?_
          exact lx_arm_3 Inv hO hA.2.2.2.1 hC hX hbl hi hL hI hj hR hS hl k
        · by_cases c4 : y = nI 4
          · subst c4
            refine lv_tableIn (off := 343) (tgt := 376) hx hb dL_law_33 (by decide) (by decide) (by decide) (by decide) ?_
            exact lx_arm_4 Inv hO hA.2.2.2.2.1 hC hX hbl hi hL hI hj hR hS hl k
          · by_cases c5 : y = nI 5
            · subst c5
              refine lv_tableIn (off := 366) (tgt := 399) hx hb dL_law_33 (by decide) (by decide) (by decide) (by decide) ?_
              exact lx_arm_5 Inv hO hA.2.2.2.2.2.1 hC hX hbl hi hL hI hj hR hS hl k
            · by_cases c6 : y = nI 6
              · subst c6
                refine lv_tableIn (off := 379) (tgt := 412) hx hb dL_law_33 (by decide) (by decide) (by decide) (by decide) ?_
                exact lx_arm_6 Inv hO hA.2.2.2.2.2.2.1 hC hX hbl hi hL hI hj hR hS hl k
              · by_cases c7 : y = nI 7
                · subst c7
                  refine lv_tableIn (off := 392) (tgt := 425) hx hb dL_law_33 (by decide) (by decide) (by decide) (by decide) ?_
                  exact lx_arm_7 Inv hO hA.2.2.2.2.2.2.2.1 hC hX hbl hi hL hI hj hR hS hl k
                · by_cases c8 : y = nI 8
                  · subst c8
                    refine lv_tableIn (off := 405) (tgt := 438) hx hb dL_law_33 (by decide) (by decide) (by decide) (by decide) ?_
                    exact lx_arm_8 Inv hO hA.2.2.2.2.2.2.2.2.1 hC hX hbl hi hL hI hj hR hS hl k
                  · by_cases c9 : y = nI 9
                    · subst c9
                      refine lv_tableIn (off := 428) (tgt := 461) hx hb dL_law_33 (by decide) (by decide) (by decide) (by decide) ?_
                      exact lx_arm_9 Inv hO hA.2.2.2.2.2.2.2.2.2.1 hC hX hbl hi hL hI hj hR hS hl k
                    · by_cases c10 : y = nI 10
                      · subst c10
                        refine lv_tableIn (off := 451) (tgt := 484) hx hb dL_law_33 (by decide) (by decide) (by decide) (by decide) ?_
                        exact lx_arm_10 Inv hO hA.2.2.2.2.2.2.2.2.2.2.1 hC hX hbl hi hL hI hj hR hS hl k
                      · by_cases c11 : y = nI 11
                        · subst c11
                          refine lv_tableIn (off := 484) (tgt := 517) hx hb dL_law_33 (by decide) (by decide) (by decide) (by decide) ?_
                          exact lx_arm_11 Inv hO hA.2.2.2.2.2.2.2.2.2.2.2.1 hC hX hbl hi hL hI hj hR hS hl k
                        · by_cases c12 : y = nI 12
                          · subst c12
                            refine lv_tableIn (off := 517) (tgt := 550) hx hb dL_law_33 (by decide) (by decide) (by decide) (by decide) ?_
                            exact lx_arm_12 Inv hO hA.2.2.2.2.2.2.2.2.2.2.2.2.1 hC hX hbl hi hL hI hj hR hS hl k
                          · by_cases c13 : y = nI 13
                            · subst c13
                              refine lv_tableIn (off := 540) (tgt := 573) hx hb dL_law_33 (by decide) (by decide) (by decide) (by decide) ?_
                              exact lx_arm_13 Inv hO hA.2.2.2.2.2.2.2.2.2.2.2.2.2.1 hC hX hbl hi hL hI hj hR hS hl k
                            · by_cases c14 : y = nI 14
                              · subst c14
                                refine lv_tableIn (off := 573) (tgt := 606) hx hb dL_law_33 (by decide) (by decide) (by decide) (by decide) ?_
                                exact lx_arm_14 Inv hO hA.2.2.2.2.2.2.2.2.2.2.2.2.2.2.1 hC hX hbl hi hL hI hj hR hS hl k
                              · by_cases c15 : y = nI 15
                                · subst c15
                                  refine lv_tableIn (off := 606) (tgt := 639) hx hb dL_law_33 (by decide) (by decide) (by decide) (by decide) ?_
                                  exact lx_arm_15 Inv hO hA.2.2.2.2.2.2.2.2.2.2.2.2.2.2.2.1 hC hX hbl hi hL hI hj hR hS hl k
                                · by_cases c16 : y = nI 16
                                  · subst c16
                                    refine lv_tableIn (off := 639) (tgt := 672) hx hb dL_law_33 (by decide) (by decide) (by decide) (by decide) ?_
                                    exact lx_arm_16 Inv hO hA.2.2.2.2.2.2.2.2.2.2.2.2.2.2.2.2.1 hC hX hbl hi hL hI hj hR hS hl k
                                  · by_cases c17 : y = nI 17
                                    · subst c17
                                      refine lv_tableIn (off := 672) (tgt := 705) hx hb dL_law_33 (by decide) (by decide) (by decide) (by decide) ?_
                                      exact lx_arm_17 Inv hO hA.2.2.2.2.2.2.2.2.2.2.2.2.2.2.2.2.2.1 hC hX hbl hi hL hI hj hR hS hl k
                                    · by_cases c18 : y = nI 18
                                      · subst c18
                                        refine lv_tableIn (off := 705) (tgt := 738) hx hb dL_law_33 (by decide) (by decide) (by decide) (by decide) ?_
                                        exact lx_arm_18 Inv hO hA.2.2.2.2.2.2.2.2.2.2.2.2.2.2.2.2.2.2.1 hC hX hbl hi hL hI hj hR hS hl k
                                      · by_cases c19 : y = nI 19
                                        · subst c19
                                          refine lv_tableIn (off := 748) (tgt := 781) hx hb dL_law_33 (by decide) (by decide) (by decide) (by decide) ?_
                                          exact lx_arm_19 Inv hO hA.2.2.2.2.2.2.2.2.2.2.2.2.2.2.2.2.2.2.2.1 hC hX hbl hi hL hI hj hR hS hl k
                                        · by_cases c20 : y = nI 20
                                          · subst c20
                                            refine lv_tableIn (off := 781) (tgt := 814) hx hb dL_law_33 (by decide) (by decide) (by decide) (by decide) ?_
                                            exact lx_arm_20 Inv hO hA.2.2.2.2.2.2.2.2.2.2.2.2.2.2.2.2.2.2.2.2.1 hC hX hbl hi hL hI hj hR hS hl k
                                          · by_cases c21 : y = nI 21
                                            · subst c21
                                              refine lv_tableIn (off := 794) (tgt := 827) hx hb dL_law_33 (by decide) (by decide) (by decide) (by decide) ?_
                                              exact lx_arm_21 Inv hO hA.2.2.2.2.2.2.2.2.2.2.2.2.2.2.2.2.2.2.2.2.2.1 hC hX hbl hi hL hI hj hR hS hl k
                                            · by_cases c22 : y = nI 22
                                              · subst c22
                                                refine lv_tableIn (off := 807) (tgt := 840) hx hb dL_law_33 (by decide) (by decide) (by decide) (by decide) ?_
                                                exact lx_arm_22 Inv hO hA.2.2.2.2.2.2.2.2.2.2.2.2.2.2.2.2.2.2.2.2.2.2.1 hC hX hbl hi hL hI hj hR hS hl k
                                              · by_cases c23 : y = nI 23
                                                · subst c23
                                                  refine lv_tableIn (off := 840) (tgt := 873) hx hb dL_law_33 (by decide) (by decide) (by decide) (by decide) ?_
                                                  exact lx_arm_23 Inv hO hA.2.2.2.2.2.2.2.2.2.2.2.2.2.2.2.2.2.2.2.2.2.2.2.1 hC hX hbl hi hL hI hj hR hS hl k
                                                · by_cases c24 : y = nI 24
                                                  · subst c24
                                                    refine lv_tableIn (off := 863) (tgt := 896) hx hb dL_law_33 (by decide) (by decide) (by decide) (by decide) ?_
                                                    exact lx_arm_24 Inv hO hA.2.2.2.2.2.2.2.2.2.2.2.2.2.2.2.2.2.2.2.2.2.2.2.2.1 hC hX hbl hi hL hI hj hR hS hl k
                                                  · by_cases c25 : y = nI 25
                                                    · subst c25
                                                      refine lv_tableIn (off := 916) (tgt := 949) hx hb dL_law_33 (by decide) (by decide) (by decide) (by decide) ?_
                                                      exact lx_arm_25 Inv hO hA.2.2.2.2.2.2.2.2.2.2.2.2.2.2.2.2.2.2.2.2.2.2.2.2.2.1 hC hX hbl hi hL hI hj hR hS hl k
                                                    · by_cases c26 : y = nI 26
                                                      · subst c26
                                                        refine lv_tableIn (off := 929) (tgt := 962) hx hb dL_law_33 (by decide) (by decide) (by decide) (by decide) ?_
                                                        exact lx_arm_26 Inv hO hA.2.2.2.2.2.2.2.2.2.2.2.2.2.2.2.2.2.2.2.2.2.2.2.2.2.2.1 hC hX hbl hi hL hI hj hR hS hl k
                                                      · by_cases c27 : y = nI 27
                                                        · subst c27
                                                          refine lv_tableIn (off := 982) (tgt := 1015) hx hb dL_law_33 (by decide) (by decide) (by decide) (by decide) ?_
                                                          exact lx_arm_27 Inv hO hA.2.2.2.2.2.2.2.2.2.2.2.2.2.2.2.2.2.2.2.2.2.2.2.2.2.2.2.1 hC hX hbl hi hL hI hj hR hS hl k
                                                        · by_cases c28 : y = nI 28
                                                          · subst c28
                                                            refine lv_tableIn (off := 1035) (tgt := 1068) hx hb dL_law_33 (by decide) (by decide) (by decide) (by decide) ?_
                                                            exact lx_arm_28 Inv hO hA.2.2.2.2.2.2.2.2.2.2.2.2.2.2.2.2.2.2.2.2.2.2.2.2.2.2.2.2.1 hC hX hbl hi hL hI hj hR hS hl k
                                                          · by_cases c29 : y = nI 29
                                                            · subst c29
                                                              refine lv_tableIn (off := 1058) (tgt := 1091) hx hb dL_law_33 (by decide) (by decide) (by decide) (by decide) ?_
                                                              exact lx_arm_29 Inv hO hA.2.2.2.2.2.2.2.2.2.2.2.2.2.2.2.2.2.2.2.2.2.2.2.2.2.2.2.2.2.1 hC hX hbl hi hL hI hj hR hS hl k
                                                            · by_cases c30 : y = nI 30
                                                              · subst c30
                                                                refine lv_tableIn (off := 1122) (tgt := 1155) hx hb dL_law_33 (by decide) (by decide) (by decide) (by decide) ?_
                                                                exact lx_arm_30 Inv hO hA.2.2.2.2.2.2.2.2.2.2.2.2.2.2.2.2.2.2.2.2.2.2.2.2.2.2.2.2.2.2.1 hC hX hbl hi hL hI hj hR hS hl k
                                                              · by_cases c31 : y = nI 31
                                                                · subst c31
                                                                  refine lv_tableIn (off := 1165) (tgt := 1198) hx hb dL_law_33 (by decide) (by decide) (by decide) (by decide) ?_
                                                                  exact lx_arm_31 Inv hO hA.2.2.2.2.2.2.2.2.2.2.2.2.2.2.2.2.2.2.2.2.2.2.2.2.2.2.2.2.2.2.2.1 hC hX hbl hi hL hI hj hR hS hl k
                                                                · by_cases c32 : y = nI 32
                                                                  · subst c32
                                                                    refine lv_tableIn (off := 1188) (tgt := 1221) hx hb dL_law_33 (by decide) (by decide) (by decide) (by decide) ?_
                                                                    exact lx_arm_32 Inv hO hA.2.2.2.2.2.2.2.2.2.2.2.2.2.2.2.2.2.2.2.2.2.2.2.2.2.2.2.2.2.2.2.2.1 hC hX hbl hi hL hI hj hR hS hl k
                                                                  · by_cases c33 : y = nI 33
                                                                    · subst c33
                                                                      refine lv_tableIn (off := 1211) (tgt := 1244) hx hb dL_law_33 (by decide) (by decide) (by decide) (by decide) ?_
                                                                      exact lx_arm_33 Inv hO hA.2.2.2.2.2.2.2.2.2.2.2.2.2.2.2.2.2.2.2.2.2.2.2.2.2.2.2.2.2.2.2.2.2.1 hC hX hbl hi hL hI hj hR hS hl k
                                                                    · by_cases c34 : y = nI 34
                                                                      · subst c34
                                                                        refine lv_tableIn (off := 1234) (tgt := 1267) hx hb dL_law_33 (by decide) (by decide) (by decide) (by decide) ?_
                                                                        exact lx_arm_34 Inv hO hA.2.2.2.2.2.2.2.2.2.2.2.2.2.2.2.2.2.2.2.2.2.2.2.2.2.2.2.2.2.2.2.2.2.2.1 hC hX hbl hi hL hI hj hR hS hl k
                                                                      · by_cases c35 : y = nI 35
                                                                        · subst c35
                                                                          refine lv_tableIn (off := 1267) (tgt := 1300) hx hb dL_law_33 (by decide) (by decide) (by decide) (by decide) ?_
                                                                          exact lx_arm_35 Inv hO hA.2.2.2.2.2.2.2.2.2.2.2.2.2.2.2.2.2.2.2.2.2.2.2.2.2.2.2.2.2.2.2.2.2.2.2.1 hC hX hbl hi hL hI hj hR hS hl k
                                                                        · by_cases c36 : y = nI 36
                                                                          · subst c36
                                                                            refine lv_tableIn (off := 1300) (tgt := 1333) hx hb dL_law_33 (by decide) (by decide) (by decide) (by decide) ?_
                                                                            exact lx_arm_36 Inv hO hA.2.2.2.2.2.2.2.2.2.2.2.2.2.2.2.2.2.2.2.2.2.2.2.2.2.2.2.2.2.2.2.2.2.2.2.2.1 hC hX hbl hi hL hI hj hR hS hl k
                                                                          · by_cases c37 : y = nI 37
                                                                            · subst c37
                                                                              refine lv_tableIn (off := 1323) (tgt := 1356) hx hb dL_law_33 (by decide) (by decide) (by decide) (by decide) ?_
                                                                              exact lx_arm_37 Inv hO hA.2.2.2.2.2.2.2.2.2.2.2.2.2.2.2.2.2.2.2.2.2.2.2.2.2.2.2.2.2.2.2.2.2.2.2.2.2.1 hC hX hbl hi hL hI hj hR hS hl k
                                                                            · by_cases c38 : y = nI 38
                                                                              · subst c38
                                                                                refine lv_tableIn (off := 1346) (tgt := 1379) hx hb dL_law_33 (by decide) (by decide) (by decide) (by decide) ?_
                                                                                exact lx_arm_38 Inv hO hA.2.2.2.2.2.2.2.2.2.2.2.2.2.2.2.2.2.2.2.2.2.2.2.2.2.2.2.2.2.2.2.2.2.2.2.2.2.2 hC hX hbl hi hL hI hj hR hS hl k
                                                                              · refine lv_tableOut (tgt := 1392) hx hb dL_law_33 (by have n0 := lv_neT (a := 0) c0 (by decide); have n1 := lv_neT (a := 1) c1 (by decide); have n2 := lv_neT (a := 2) c2 (by decide); have n3 := lv_neT (a := 3) c3 (by decide); have n4 := lv_neT (a := 4) c4 (by decide); have n5 := lv_neT (a := 5) c5 (by decide); have n6 := lv_neT (a := 6) c6 (by decide); have n7 := lv_neT (a := 7) c7 (by decide); have n8 := lv_neT (a := 8) c8 (by decide); have n9 := lv_neT (a := 9) c9 (by decide); have n10 := lv_neT (a := 10) c10 (by decide); have n11 := lv_neT (a := 11) c11 (by decide); have n12 := lv_neT (a := 12) c12 (by decide); have n13 := lv_neT (a := 13) c13 (by decide); have n14 := lv_neT (a := 14) c14 (by decide); have n15 := lv_neT (a := 15) c15 (by decide); have n16 := lv_neT (a := 16) c16 (by decide); have n17 := lv_neT (a := 17) c17 (by decide); have n18 := lv_neT (a := 18) c18 (by decide); have n19 := lv_neT (a := 19) c19 (by decide); have n20 := lv_neT (a := 20) c20 (by decide); have n21 := lv_neT (a := 21) c21 (by decide); have n22 := lv_neT (a := 22) c22 (by decide); have n23 := lv_neT (a := 23) c23 (by decide); have n24 := lv_neT (a := 24) c24 (by decide); have n25 := lv_neT (a := 25) c25 (by decide); have n26 := lv_neT (a := 26) c26 (by decide); have n27 := lv_neT (a := 27) c27 (by decide); have n28 := lv_neT (a := 28) c28 (by decide); have n29 := lv_neT (a := 29) c29 (by decide); have n30 := lv_neT (a := 30) c30 (by decide); have n31 := lv_neT (a := 31) c31 (by decide); have n32 := lv_neT (a := 32) c32 (by decide); have n33 := lv_neT (a := 33) c33 (by decide); have n34 := lv_neT (a := 34) c34 (by decide); have n35 := lv_neT (a := 35) c35 (by decide); have n36 := lv_neT (a := 36) c36 (by decide); have n37 := lv_neT (a := 37) c37 (by decide); have n38 := lv_neT (a := 38) c38 (by decide); omega) (by decide) ?_
                                                                                exact k hp H locs (hsk j hp hI) hR hS
