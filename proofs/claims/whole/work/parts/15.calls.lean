/-! ===== calls, and a method's contract out of its walk ===== -/
section KwCalls
variable {G : kw_G} {md : kw_M} {pc : Nat} {L : List (Option Value)} {S : List Value} {hp : kw_H} {Q : Option Value → kw_H → Prop}
theorem kw_blind (As : List Value) : FrameBlind (va_Pc As (fun U => kw_Z G U ∧ kw_R G hp U.heap)) := by
  intro a U g mk h
  exact ⟨h.1, kw_Z_same (s := U) (U := U.calling g mk a) rfl h.2.1, h.2.2⟩
theorem kw_goodIn {md' : kw_M} (h : Cond.code md'.1 md'.2.1 md'.2.2.1 md'.2.2.2.1 ∈ kw_T) : GoodIn kw_T (kw_ws md') := by
  intro w hw
  have hw' : w ∈ kw_T := by
    rcases List.mem_cons.mp hw with rfl | h1
    · exact h
    · exact h1
  exact ⟨hw', good_of_word (List.mem_filter.mp hw').2⟩
/-- what a call of md' in md asks of the tables and of the room; n: how many parameters -/
def kw_cb (md md' : kw_M) (n : Nat) : Prop := Cond.code md'.1 md'.2.1 md'.2.2.1 md'.2.2.2.1 ∈ kw_T ∧ Cond.initialized md'.1.cls ∈ kw_T ∧ (md'.1.cls ≠ "java/lang/invoke/MethodHandle" ∧ md'.1.cls ≠ "java/lang/invoke/VarHandle" ∧ (parseMethodDescriptor md'.1.desc).map (fun d => d.parameters.length) = some n) ∧ md'.2.2.2.2.1 + 1 ≤ md.2.2.2.2.1 ∧ 8 + (md'.2.2.1 + 11) + md'.2.2.2.2.2 ≤ md.2.2.2.2.2
section KwRun
variable {n0 : Nat} {p : Program} {e : Env} {s : State} {m : MethodId} {args : Array Value} {below : List Frame} {meth : Method} {c : Code} {H : Heap} {locs : List Loc} {ls : Array Slot}
theorem kw_fix (hC : kw_C G md n0 p s m args meth c) : CallFix p m c md.2.1 md.2.2.1 s args kw_T md.1.cls := ⟨hC.1, hC.2.1, hC.2.2.1, hC.2.2.2.2.2.2.1, hC.2.2.2.2.2.2.2.1⟩
theorem kw_back {md' : kw_M} {n i : Nat} (hC : kw_C G md n0 p s m args meth c) (hb : kw_cb md md' n) (hl : (Cond.methodLink md.1.cls i md'.1).before args s = true) : CallB (kw_rm md n0) s args md.1.cls i md'.1 md'.2.1 md'.2.2.1 md'.2.2.2.1 (kw_ws md') (kw_rm md' hp.length) (3900 - hp.length) (1848 * (3900 - hp.length)) n :=
  callB_of n hC.2.2.2.2.2.2.2.1 (kw_goodIn hb.1) rfl rfl rfl (hC.2.2.2.2.2.2.2.1 _ hb.2.1) hl hb.2.2.1 ⟨hb.2.2.2.1, hb.2.2.2.2⟩
theorem kw_fitR (hC : kw_C G md n0 p s m args meth c) (hn : n0 ≤ hp.length) (hR : kw_R G hp H) : (H.size - s.heap.size) + (3900 - hp.length) ≤ (kw_rm md n0).cells ∧ 1848 * (H.size - s.heap.size) + 1848 * (3900 - hp.length) ≤ (kw_rm md n0).slots := by
  have h1 := hC.2.2.2.2.2.2.2.2.2
  have h2 := hR.1
  have h3 := hR.2.1
  show _ ≤ 3900 - n0 ∧ _ ≤ 1848 * (3900 - n0)
  omega
theorem kw_pre (hC : kw_C G md n0 p s m args meth c) (hR : kw_R G hp H) (As : List Value) : PreS s H (va_Pc (As.map (kw_v G.2.1)) (fun U => kw_Z G U ∧ kw_R G hp U.heap)) (As.map (kw_v G.2.1)) :=
  ⟨kw_blind _, fun U hU hW => ⟨rfl, kw_Z_moved hW hC.2.2.2.2.2.2.2.2.1, by rw [hU]; exact hR⟩⟩
theorem kw_preV {a ci N : Nat} {C : String} {T : u_T} {fs : List Value} (hC : kw_C G md n0 p s m args meth c) (hR : kw_R G hp H) (hcl : kw_cls ci C T N) (ho : hp[a]? = some (.inr (ci, fs))) (As : List Value) : PreV s H C (G.2.1 + a) (va_Pc ((.ref a :: As).map (kw_v G.2.1)) (fun U => kw_Z G U ∧ kw_R G hp U.heap)) (As.map (kw_v G.2.1)) :=
  ⟨kw_blind _, kw_recv hC.2.2.2.2.2.2.2.2.1 hR hcl ho, fun U hU hW => ⟨rfl, kw_Z_moved hW hC.2.2.2.2.2.2.2.2.1, by rw [hU]; exact hR⟩⟩
/-- behind a call -/
theorem kw_after {Q' : Option Value → kw_H → Prop} {a : Array Value} {st0 : List Value} (hC : kw_C G md n0 p s m args meth c) (hn : n0 ≤ hp.length) (hR : kw_R G hp H) (hS : va_S (fun q => G.2.1 ≤ q) s.heap H locs) (hl : lv_has ls md.2.2.1 (kw_pr G.2.1 0 L))
    (hr : va_Run p G.1 e (kw_rm md n0) s m args below meth c H locs (H.size - s.heap.size) (1848 * (H.size - s.heap.size)) (3900 - hp.length) (1848 * (3900 - hp.length)) (F0 m pc ls st0) (S.map (kw_v G.2.1)) (kw_Q G Q' a) (fun q => G.2.1 ≤ q))
    (k : ∀ r hp', Q' r hp' → kw_V G md (pc + 3) L (r.toList ++ S) hp' Q) :
    W p G.1 e (kw_rm md n0) s m args below meth c H locs (H.size - s.heap.size) (1848 * (H.size - s.heap.size)) (MQ below (kw_Q G Q) args s (3900 - n0) (1848 * (3900 - n0)) (fun q => G.2.1 ≤ q)) (F0 m pc ls st0) := by
  refine kw_know fun hsp hsz hsum => ?_
  intro T hT X
  obtain ⟨v, st₀, t, T', L1, h0, X', hL, e1, e2, hq, st⟩ := hr T hT X
  obtain ⟨r, hp', ho, hQ, hR', hF, hSP, hsum2⟩ := hq
  cases ho
  rw [h0] at hSP hsum2
  have g1 := hC.2.2.2.2.2.2.2.2.2
  have g2 := hR.1
  have g3 := hR'.1
  have g4 : H.size ≤ t.heap.size := by rw [← h0]; exact hF.1
  have hS' : va_S (fun q => G.2.1 ≤ q) s.heap t.heap (locs ++ L1) := ⟨Nat.le_trans hS.1 g4, fun q h1 h2 => by
    have h3 := hF.2 q (by rw [h0]; exact Nat.lt_of_lt_of_le h1 hS.1) h2
    rw [h3, h0]
    exact hS.2.1 q h1 h2, fun q hq => by
      rcases List.mem_append.mp hq with h | h
      · exact hS.2.2 q h
      · exact hL q h⟩
  have kk := k r hp' hQ n0 p e s m args below meth c t.heap (locs ++ L1) ls hC (by omega) hR' hS' hl
  have hsum3 : ((kw_sz t.heap).drop s.heap.size).sum ≤ 1848 * (t.heap.size - s.heap.size) := by
    have := kw_sum_join (H0 := s.heap) (H1 := H) (H2 := t.heap) hS.1 hSP hsum hsum2
    omega
  have kk2 := kw_tight (cells := H.size - s.heap.size + (3900 - hp.length)) (slots := 1848 * (H.size - s.heap.size) + 1848 * (3900 - hp.length)) (cells' := t.heap.size - s.heap.size) (slots' := 1848 * (t.heap.size - s.heap.size)) (by omega) hsum3 kk
  obtain ⟨t2, a1, b1⟩ := kk2 T' e1 X'
  refine ⟨t2, st t2 ?_, b1⟩
  have es : (r.map (kw_v G.2.1)).toList ++ S.map (kw_v G.2.1) = (r.toList ++ S).map (kw_v G.2.1) := by cases r <;> simp
  show Steps p.tables e below (T'.setTop { method := m, pc := pc + 3, locals := ls, stack := (r.map (kw_v G.2.1)).toList ++ S.map (kw_v G.2.1), locked := none }) t2
  rw [es]
  exact a1
theorem kw_stS (As : List Value) : (As.reverse ++ S).map (kw_v G.2.1) = (As.map (kw_v G.2.1)).reverse ++ S.map (kw_v G.2.1) := by simp
theorem kw_stV (a : Nat) (As : List Value) : (As.reverse ++ .ref a :: S).map (kw_v G.2.1) = (As.map (kw_v G.2.1)).reverse ++ .ref (G.2.1 + a) :: S.map (kw_v G.2.1) := by simp [kw_v]
theorem kw_roomS (h : (S.map fun v => v.category).sum ≤ 8) : ((S.map (kw_v G.2.1)).map fun v => v.category).sum ≤ 8 := by
  rw [List.map_map]
  have e1 : (fun v => Value.category v) ∘ kw_v G.2.1 = (fun v => Value.category v) := funext fun v => kw_v_cat _ v
  rw [e1]
  exact h
end KwRun
/-- the rows below want of the stack: its rest is S, the arguments above it, in X -/
theorem kw_callS {i n : Nat} {md' : kw_M} {As X : List Value} {Q' : Option Value → kw_H → Prop} (hb : kw_cb md md' n) (hl : Cond.methodLink md.1.cls i md'.1 ∈ kw_T) (hst : Cond.static md'.1 ∈ kw_T) (hn' : As.length = n) (hX : X = As.reverse ++ S) (hr : (S.map fun v => v.category).sum ≤ 8) (d : decode md.2.1 pc = .ok (.invokestatic i, 3)) (M : kw_Met G md' As hp Q') (k : ∀ r hp', Q' r hp' → kw_V G md (pc + 3) L (r.toList ++ S) hp' Q) : kw_V G md pc L X hp Q := by
  intro n0 p e s m args below meth c H locs ls hC hn hR hS hl'
  rw [hX, kw_stS]
  have hts := hC.2.2.2.2.2.2.2.1
  exact kw_after hC hn hR hS hl' (va_runS (kw_fix hC) M ⟨kw_back hC hb (hts _ hl), hts _ hst⟩ (kw_pre hC hR As) rfl (by rw [List.length_map]; exact hn') hl'.1 rfl (lv_room (kw_roomS hr)) d (kw_fitR hC hn hR)) k
theorem kw_callSN {i n i0 : Nat} {host : String} {md' : kw_M} {As X : List Value} {Q' : Option Value → kw_H → Prop} (hb : kw_cb md md' n) (hl : lw_tbl[i0]? = some (.methodLinkNest md.1.cls i md'.1 host)) (hst : Cond.static md'.1 ∈ kw_T) (hn' : As.length = n) (hX : X = As.reverse ++ S) (hr : (S.map fun v => v.category).sum ≤ 8) (d : decode md.2.1 pc = .ok (.invokestatic i, 3)) (M : kw_Met G md' As hp Q') (k : ∀ r hp', Q' r hp' → kw_V G md (pc + 3) L (r.toList ++ S) hp' Q) : kw_V G md pc L X hp Q := by
  intro n0 p e s m args below meth c H locs ls hC hn hR hS hl'
  rw [hX, kw_stS]
  have hts := hC.2.2.2.2.2.2.2.1
  exact kw_after hC hn hR hS hl' (va_runSN (host := host) (kw_fix hC) M ⟨va_cnB n hts (kw_goodIn hb.1) rfl rfl rfl (kw_inN i0 hl rfl hC.2.2.2.2.2.2.2.2.1) (hts _ hb.2.1) hb.2.2.1 ⟨hb.2.2.2.1, hb.2.2.2.2⟩, hts _ hst, trivial⟩ (kw_pre hC hR As) rfl (by rw [List.length_map]; exact hn') hl'.1 rfl (lv_room (kw_roomS hr)) d (kw_fitR hC hn hR)) k
theorem kw_callV {i n a ci N : Nat} {C : String} {T : u_T} {fs : List Value} {md' : kw_M} {As X : List Value} {Q' : Option Value → kw_H → Prop} (hcl : kw_cls ci C T N) (hb : kw_cb md md' n) (hl : Cond.methodLink md.1.cls i md'.1 ∈ kw_T) (hin : Cond.instanceMethod md'.1 ∈ kw_T) (hse : Cond.selects C md'.1 md'.1 ∈ kw_T) (hn' : As.length = n) (hX : X = As.reverse ++ .ref a :: S) (hr : (S.map fun v => v.category).sum ≤ 8) (d : decode md.2.1 pc = .ok (.invokevirtual i, 3)) (ho : hp[a]? = some (.inr (ci, fs))) (M : kw_Met G md' (.ref a :: As) hp Q') (k : ∀ r hp', Q' r hp' → kw_V G md (pc + 3) L (r.toList ++ S) hp' Q) : kw_V G md pc L X hp Q := by
  intro n0 p e s m args below meth c H locs ls hC hn hR hS hl'
  rw [hX, kw_stV]
  have hts := hC.2.2.2.2.2.2.2.1
  exact kw_after hC hn hR hS hl' (va_runV (C := C) (kw_fix hC) M ⟨kw_back hC hb (hts _ hl), hts _ hin, hts _ hse⟩ (kw_preV hC hR hcl ho As) rfl (by rw [List.length_map]; exact hn') hl'.1 rfl (lv_room (kw_roomS hr)) d (kw_fitR hC hn hR)) k
/-- a call whose named method x is another one's: declared there (declares, or code of its own) -/
theorem kw_callU {i n a ci N : Nat} {C owner : String} {x : MethodName} {T : u_T} {fs : List Value} {md' : kw_M} {As X : List Value} {Q' : Option Value → kw_H → Prop} (hcl : kw_cls ci C T N) (hb : kw_cb md md' n) (hl : Cond.methodLink md.1.cls i x ∈ kw_T) (hsm : Cond.sameMethod x.cls owner x.name x.desc ∈ kw_T) (hdc : (∃ i0 : Nat, lw_tbl[i0]? = some (Cond.declares ⟨owner, x.name, x.desc⟩)) ∨ (Cond.instanceMethod ⟨owner, x.name, x.desc⟩ ∈ kw_T ∧ ∃ b0 m0 r0, Cond.code ⟨owner, x.name, x.desc⟩ b0 m0 r0 ∈ kw_T)) (hd : owner ≠ "java/lang/invoke/MethodHandle" ∧ owner ≠ "java/lang/invoke/VarHandle" ∧ (parseMethodDescriptor x.desc).map (fun d => d.parameters.length) = some n) (hin : Cond.instanceMethod md'.1 ∈ kw_T) (hse : Cond.selects C x md'.1 ∈ kw_T) (hn' : As.length = n) (hX : X = As.reverse ++ .ref a :: S) (hr : (S.map fun v => v.category).sum ≤ 8) (d : decode md.2.1 pc = .ok (.invokevirtual i, 3)) (ho : hp[a]? = some (.inr (ci, fs))) (M : kw_Met G md' (.ref a :: As) hp Q') (k : ∀ r hp', Q' r hp' → kw_V G md (pc + 3) L (r.toList ++ S) hp' Q) : kw_V G md pc L X hp Q := by
  intro n0 p e s m args below meth c H locs ls hC hn hR hS hl'
  rw [hX, kw_stV]
  have hts := hC.2.2.2.2.2.2.2.1
  have hdecl : va_Decl s ⟨owner, x.name, x.desc⟩ := by
    rcases hdc with ⟨i0, h0⟩ | ⟨h1, b0, m0, r0, h2⟩
    · exact va_Decl.abs (kw_inN (G := G) i0 h0 rfl hC.2.2.2.2.2.2.2.2.1)
    · exact va_Decl.of (hts _ h1) (hts _ h2)
  have hlen : ∀ sig, parseMethodDescriptor x.desc = some sig → n = sig.parameters.length := fun sig h => by
    have h2 := hd.2.2
    rw [h] at h2
    exact (Option.some.inj h2).symm
  exact kw_after hC hn hR hS hl' (va_runU (C := C) (owner := owner) (kw_fix hC) M ⟨⟨rfl, rfl, hb.2.2.2.1, hb.2.2.2.2, pay_in hts (kw_goodIn hb.1), List.mem_cons_self⟩, hts _ hb.1, hts _ hb.2.1, ⟨hd.1, hd.2.1⟩, hlen, hts _ hl, hts _ hsm, hdecl, hts _ hse, hts _ hin⟩ (kw_preV hC hR hcl ho As) rfl (by rw [List.length_map]; exact hn') hl'.1 rfl (lv_room (kw_roomS hr)) d (kw_fitR hC hn hR)) k
theorem kw_callI {i n a : Nat} {md' : kw_M} {As X : List Value} {Q' : Option Value → kw_H → Prop} (hb : kw_cb md md' n) (hrt : md'.2.2.2.1 = none) (hi : md'.1.name = "<init>") (hl : Cond.methodLink md.1.cls i md'.1 ∈ kw_T) (hin : Cond.instanceMethod md'.1 ∈ kw_T) (hn' : As.length = n) (hX : X = As.reverse ++ .ref a :: S) (hr : (S.map fun v => v.category).sum ≤ 8) (d : decode md.2.1 pc = .ok (.invokespecial i, 3)) (M : kw_Met G md' (.ref a :: As) hp Q') (k : ∀ r hp', Q' r hp' → kw_V G md (pc + 3) L (r.toList ++ S) hp' Q) : kw_V G md pc L X hp Q := by
  intro n0 p e s m args below meth c H locs ls hC hn hR hS hl'
  rw [hX, kw_stV]
  have hts := hC.2.2.2.2.2.2.2.1
  have hB := kw_back (hp := hp) hC hb (hts _ hl)
  rw [hrt] at hB
  exact kw_after hC hn hR hS hl' (va_runI (kw_fix hC) M ⟨hB, hi, hts _ hin⟩ (kw_pre hC hR (.ref a :: As)) rfl (by rw [List.length_map]; exact hn') hl'.1 rfl (lv_room (kw_roomS hr)) d (kw_fitR hC hn hR)) k
theorem kw_callIN {i n a i0 : Nat} {host : String} {md' : kw_M} {As X : List Value} {Q' : Option Value → kw_H → Prop} (hb : kw_cb md md' n) (hrt : md'.2.2.2.1 = none) (hi : md'.1.name = "<init>") (hl : lw_tbl[i0]? = some (.methodLinkNest md.1.cls i md'.1 host)) (hin : Cond.instanceMethod md'.1 ∈ kw_T) (hn' : As.length = n) (hX : X = As.reverse ++ .ref a :: S) (hr : (S.map fun v => v.category).sum ≤ 8) (d : decode md.2.1 pc = .ok (.invokespecial i, 3)) (M : kw_Met G md' (.ref a :: As) hp Q') (k : ∀ r hp', Q' r hp' → kw_V G md (pc + 3) L (r.toList ++ S) hp' Q) : kw_V G md pc L X hp Q := by
  intro n0 p e s m args below meth c H locs ls hC hn hR hS hl'
  rw [hX, kw_stV]
  have hts := hC.2.2.2.2.2.2.2.1
  have hB := va_cnB (R := kw_rm md n0) (rm := kw_rm md' hp.length) (host := host) n hts (kw_goodIn hb.1) rfl rfl rfl (kw_inN i0 hl rfl hC.2.2.2.2.2.2.2.2.1) (hts _ hb.2.1) hb.2.2.1 ⟨hb.2.2.2.1, hb.2.2.2.2⟩
  rw [hrt] at hB
  exact kw_after hC hn hR hS hl' (va_runIN (host := host) (kw_fix hC) M ⟨hB, hi, hts _ hin⟩ (kw_pre hC hR (.ref a :: As)) rfl (by rw [List.length_map]; exact hn') hl'.1 rfl (lv_room (kw_roomS hr)) d (kw_fitR hC hn hR)) k
theorem kw_callSU {i n a ci N : Nat} {C : String} {T : u_T} {fs : List Value} {md' : kw_M} {As X : List Value} {Q' : Option Value → kw_H → Prop} (hcl : kw_cls ci C T N) (hb : kw_cb md md' n) (hl : Cond.methodLink md.1.cls i md'.1 ∈ kw_T) (hsm : Cond.sameMethod md'.1.cls md'.1.cls md'.1.name md'.1.desc ∈ kw_T) (hsu : Cond.superclass md.1.cls md'.1.cls ∈ kw_T) (hin : Cond.instanceMethod md'.1 ∈ kw_T) (hno : md'.1.name ≠ "<init>") (hn' : As.length = n) (hX : X = As.reverse ++ .ref a :: S) (hr : (S.map fun v => v.category).sum ≤ 8) (d : decode md.2.1 pc = .ok (.invokespecial i, 3)) (ho : hp[a]? = some (.inr (ci, fs))) (M : kw_Met G md' (.ref a :: As) hp Q') (k : ∀ r hp', Q' r hp' → kw_V G md (pc + 3) L (r.toList ++ S) hp' Q) : kw_V G md pc L X hp Q := by
  intro n0 p e s m args below meth c H locs ls hC hn hR hS hl'
  rw [hX, kw_stV]
  have hts := hC.2.2.2.2.2.2.2.1
  have hlen : ∀ sig, parseMethodDescriptor md'.1.desc = some sig → n = sig.parameters.length := fun sig h => by
    have h2 := hb.2.2.1.2.2
    rw [h] at h2
    exact (Option.some.inj h2).symm
  exact kw_after hC hn hR hS hl' (va_runSU (C := C) ((hC.2.2.2.2.2.2.2.2.1.1.1 ci _ hcl.1).2) (kw_fix hC) M ⟨⟨rfl, rfl, hb.2.2.2.1, hb.2.2.2.2, pay_in hts (kw_goodIn hb.1), List.mem_cons_self⟩, hts _ hl, hts _ hsm, hts _ hsu, hts _ hin, hts _ hb.2.1, hts _ hb.1, hno, hlen⟩ (kw_preV hC hR hcl ho As) rfl (by rw [List.length_map]; exact hn') hl'.1 rfl (lv_room (kw_roomS hr)) d (kw_fitR hC hn hR)) k
/-- Object's own constructor -/
theorem kw_obj {i a : Nat} (hl : Cond.methodLink md.1.cls i Lib.objectInit ∈ kw_T) (hin : Cond.instanceMethod Lib.objectInit ∈ kw_T) (hc : Cond.code Lib.objectInit ⟨#[0xb1]⟩ 1 none ∈ kw_T) (hf : 1 ≤ md.2.2.2.2.1) (hlo : 20 ≤ md.2.2.2.2.2) (hr : (S.map fun v => v.category).sum ≤ 8) (d : decode md.2.1 pc = .ok (.invokespecial i, 3)) (k : kw_V G md (pc + 3) L S hp Q) : kw_V G md pc L (.ref a :: S) hp Q := by
  intro n0 p e s m args below meth c H locs ls hC hn hR hS hl'
  have hts := hC.2.2.2.2.2.2.2.1
  refine W.objInit (rest := S.map (kw_v G.2.1)) hC.1 hC.2.1 hC.2.2.2.2.2.2.1 (hts _ hl) (hts _ hin) (hts _ hc) rfl (by rw [hC.2.2.1]; exact hl'.1) rfl d hf ?_ (k n0 p e s m args below meth c H locs ls hC hn hR hS hl')
  have h1 := lv_room (m := m) (pc := pc) (ls := ls) (rest := .ref (G.2.1 + a) :: S.map (kw_v G.2.1)) (kw_roomS (G := G) hr)
  show 2 * (F0 m pc ls (.ref (G.2.1 + a) :: S.map (kw_v G.2.1))).monitorRoom + ((S.map (kw_v G.2.1)).map fun v => v.category).sum + 12 ≤ md.2.2.2.2.2
  omega
/-- the locals at a method's entry -/
def kw_ar : List Value → List (Option Value)
  | [] => []
  | v :: l => if v.category = 2 then some v :: none :: kw_ar l else some v :: kw_ar l
theorem kw_ar_args (N : Nat) : ∀ (i : Nat) (As : List Value) (r : Nat), kw_pr N i (kw_ar As ++ List.replicate r none) = lv_args i (As.map (kw_v N))
  | i, [], r => by
    have h : ∀ (r i : Nat), kw_pr N i (List.replicate r none) = [] := by
      intro r
      induction r with
      | zero => intro i; rfl
      | succ r ih => intro i; exact ih (i + 1)
    exact h r i
  | i, v :: l, r => by
    unfold kw_ar
    by_cases h : v.category = 2
    · rw [if_pos h]
      show (i, kw_v N v) :: kw_pr N (i + 1 + 1) (kw_ar l ++ List.replicate r none) = _
      rw [kw_ar_args N (i + 1 + 1) l r]
      simp [lv_args, kw_v_cat, h]
    · rw [if_neg h]
      show (i, kw_v N v) :: kw_pr N (i + 1) (kw_ar l ++ List.replicate r none) = _
      rw [kw_ar_args N (i + 1) l r]
      have h1 : v.category = 1 := (lv_cat v).resolve_right h
      simp [lv_args, kw_v_cat, h1]
theorem kw_met {As : List Value} {r : Nat} (hpl : plainName md.1.cls = true) (hlen : (lg_sl (As.map (kw_v G.2.1))).length ≤ md.2.2.1) (hL : kw_ar As ++ List.replicate r none = L) (k : kw_V G md 0 L [] hp Q) : kw_Met G md As hp Q := by
  refine Met.ofW (cc := md.2.1) (maxL := md.2.2.1) (ret := md.2.2.2.1) hpl rfl ?_
  intro p e s m args below meth c s₁ B hml hv
  obtain ⟨rfl, hZ, hR⟩ := hv
  have hts := atoms_spec (ws := kw_ws md) B.pre
  have hown : s.vm.findClass md.1.cls = some m.cls := findClass_of_methodNamed B.named
  have hnm : meth.name = md.1.name := (name_of_methodNamed B.named B.method).1
  have hl := lv_entry (As.map (kw_v G.2.1)) (n := md.2.2.1) hlen
  rw [lg_entry_eq]
  generalize (lg_sl (As.map (kw_v G.2.1)) ++ List.replicate (md.2.2.1 - (lg_sl (As.map (kw_v G.2.1))).length) Slot.unset).toArray = ls at hl ⊢
  have hl' : lv_has ls md.2.2.1 (kw_pr G.2.1 0 L) := by
    rw [← hL, kw_ar_args]
    exact hl
  have hC : kw_C G md hp.length p s m ((As.map (kw_v G.2.1)).toArray) meth c := ⟨B.exec, B.bytes, hml, B.returns, B.notSynchronized, hnm, hown, fun w hw => hts w (List.mem_cons_of_mem _ hw), hZ, hR.1⟩
  have := k hp.length p e s m _ below meth c s.heap [] ls hC (Nat.le_refl _) hR va_S.rf hl'
  rw [Nat.sub_self] at this
  exact this
end KwCalls
