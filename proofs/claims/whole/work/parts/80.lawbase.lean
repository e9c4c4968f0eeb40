/-! ===== the law: its calls, and what stands at its entry ===== -/
def R_law : String := "KitchenWheelsLaw"
section LxCalls
variable {G : kw_G} {p : Program} {e : Env} {R : Room} {s : State} {m : MethodId} {args : Array Value} {below : List Frame} {meth : Method} {c : Code} {H : Heap} {locs : List Loc} {ls : Array Slot} {Z : State → Prop} {hp : kw_H} {pc : Nat} {rest : List Value}
theorem lx_after {Q' : Option Value → kw_H → Prop} {a : Array Value} {st0 : List Value} (hN : s.heap.size = G.2.1) (hR : kw_R G hp H) (hS : va_S (fun q => G.2.1 ≤ q) s.heap H locs)
    (hr : va_Run p G.1 e R s m args below meth c H locs (H.size - s.heap.size) (1848 * (H.size - s.heap.size)) (3900 - hp.length) (1848 * (3900 - hp.length)) (F0 m pc ls st0) rest (kw_Q G Q' a) (fun q => G.2.1 ≤ q))
    (k : ∀ (r : Option Value) (hp' : kw_H) (H1 : Heap) (locs1 : List Loc), Q' r hp' → kw_R G hp' H1 → va_S (fun q => G.2.1 ≤ q) s.heap H1 locs1 → W p G.1 e R s m args below meth c H1 locs1 (H1.size - s.heap.size) (1848 * (H1.size - s.heap.size)) Z (F0 m (pc + 3) ls ((r.map (kw_v G.2.1)).toList ++ rest))) :
    W p G.1 e R s m args below meth c H locs (H.size - s.heap.size) (1848 * (H.size - s.heap.size)) Z (F0 m pc ls st0) := by
  refine kw_know fun hsp hsz hsum => ?_
  intro T hT X
  obtain ⟨v, st₀, t, T', L1, h0, X', hL, e1, e2, hq, st⟩ := hr T hT X
  obtain ⟨r, hp', ho, hQ, hR', hF, hSP, hsum2⟩ := hq
  cases ho
  rw [h0] at hSP hsum2
  have g2 := hR.1
  have g3 := hR'.1
  have g4 : H.size ≤ t.heap.size := by rw [← h0]; exact hF.1
  have hS' : va_S (fun q => G.2.1 ≤ q) s.heap t.heap (locs ++ L1) := ⟨Nat.le_trans hS.1 g4, fun q h1 h2 => by
    have h3 := hF.2 q (by rw [h0]; exact Nat.lt_of_lt_of_le h1 hS.1) h2
    rw [h3, h0]
    exact hS.2.1 q h1 h2, fun q hq => by
      rcases List.mem_append.mp hq with h | h
      · exact hS.2.2 q h
      · exact hL q h⟩
  have kk := k r hp' t.heap (locs ++ L1) hQ hR' hS'
  have hsum3 : ((kw_sz t.heap).drop s.heap.size).sum ≤ 1848 * (t.heap.size - s.heap.size) := by
    have := kw_sum_join (H0 := s.heap) (H1 := H) (H2 := t.heap) hS.1 hSP hsum hsum2
    omega
  have kk2 := kw_tight (cells := H.size - s.heap.size + (3900 - hp.length)) (slots := 1848 * (H.size - s.heap.size) + 1848 * (3900 - hp.length)) (cells' := t.heap.size - s.heap.size) (slots' := 1848 * (t.heap.size - s.heap.size)) (by omega) hsum3 kk
  obtain ⟨t2, a1, b1⟩ := kk2 T' e1 X'
  exact ⟨t2, st t2 a1, b1⟩
/-- what stands all through the law -/
def lx_C (G : kw_G) (p : Program) (s : State) (m : MethodId) (args : Array Value) (c : Code) : Prop := p.tables.exec = Jvm.exec ∧ c.code = code ∧ c.maxLocals = 4 ∧ s.vm.findClass RL = some m.cls ∧ (∀ w ∈ kw_T, w.before args s = true) ∧ kw_Z G s ∧ s.heap.size = G.2.1
theorem lx_fix (hC : lx_C G p s m args c) : CallFix p m c code 4 s args kw_T RL := ⟨hC.1, hC.2.1, hC.2.2.1, hC.2.2.2.1, hC.2.2.2.2.1⟩
def lx_cb (md' : kw_M) (n : Nat) : Prop := Cond.code md'.1 md'.2.1 md'.2.2.1 md'.2.2.2.1 ∈ kw_T ∧ Cond.initialized md'.1.cls ∈ kw_T ∧ (md'.1.cls ≠ "java/lang/invoke/MethodHandle" ∧ md'.1.cls ≠ "java/lang/invoke/VarHandle" ∧ (parseMethodDescriptor md'.1.desc).map (fun d => d.parameters.length) = some n) ∧ md'.2.2.2.2.1 + 1 ≤ 10 ∧ 8 + (md'.2.2.1 + 11) + md'.2.2.2.2.2 ≤ 390
theorem lx_back {md' : kw_M} {n i : Nat} (hC : lx_C G p s m args c) (hb : lx_cb md' n) (hl : (Cond.methodLink RL i md'.1).before args s = true) : CallB room_1 s args RL i md'.1 md'.2.1 md'.2.2.1 md'.2.2.2.1 (kw_ws md') (kw_rm md' hp.length) (3900 - hp.length) (1848 * (3900 - hp.length)) n :=
  callB_of n hC.2.2.2.2.1 (kw_goodIn hb.1) rfl rfl rfl (hC.2.2.2.2.1 _ hb.2.1) hl hb.2.2.1 ⟨hb.2.2.2.1, hb.2.2.2.2⟩
theorem lx_fit (hC : lx_C G p s m args c) (hR : kw_R G hp H) : (H.size - s.heap.size) + (3900 - hp.length) ≤ room_1.cells ∧ 1848 * (H.size - s.heap.size) + 1848 * (3900 - hp.length) ≤ room_1.slots := by
  have h1 := hC.2.2.2.2.2.2
  have h2 := hR.1
  have h3 := hR.2.1
  show _ ≤ 600000 ∧ _ ≤ 7302250
  omega
theorem lx_map (As : List Int32) (N : Nat) : (As.map Value.int).map (kw_v N) = As.map Value.int := by
  rw [List.map_map]
  rfl
theorem lx_callV {i n a ci N : Nat} {C : String} {T : u_T} {fs : List Value} {md' : kw_M} {As : List Int32} {X : List Value} {Q' : Option Value → kw_H → Prop} (hcl : kw_cls ci C T N) (hb : lx_cb md' n) (hl : Cond.methodLink RL i md'.1 ∈ kw_T) (hin : Cond.instanceMethod md'.1 ∈ kw_T) (hse : Cond.selects C md'.1 md'.1 ∈ kw_T) (hn' : As.length = n) (hX : X = (As.map Value.int).reverse ++ .ref (G.2.1 + a) :: rest) (hrr : (rest.map fun v => v.category).sum ≤ 8) (d : decode code pc = .ok (.invokevirtual i, 3)) (ho : hp[a]? = some (.inr (ci, fs))) (M : kw_Met G md' (.ref a :: As.map Value.int) hp Q')
    (hC : lx_C G p s m args c) (hR : kw_R G hp H) (hS : va_S (fun q => G.2.1 ≤ q) s.heap H locs) (hls : ls.size = 4)
    (k : ∀ (r : Option Value) (hp' : kw_H) (H1 : Heap) (locs1 : List Loc), Q' r hp' → kw_R G hp' H1 → va_S (fun q => G.2.1 ≤ q) s.heap H1 locs1 → W p G.1 e room_1 s m args below meth c H1 locs1 (H1.size - s.heap.size) (1848 * (H1.size - s.heap.size)) Z (F0 m (pc + 3) ls ((r.map (kw_v G.2.1)).toList ++ rest))) :
    W p G.1 e room_1 s m args below meth c H locs (H.size - s.heap.size) (1848 * (H.size - s.heap.size)) Z (F0 m pc ls X) := by
  have hts := hC.2.2.2.2.1
  rw [hX]
  have hpre : PreV s H C (G.2.1 + a) (va_Pc ((.ref a :: As.map Value.int).map (kw_v G.2.1)) (fun U => kw_Z G U ∧ kw_R G hp U.heap)) (As.map Value.int) := by
    refine ⟨kw_blind _, va_recv hC.2.2.2.2.2.1.1 hR.2.2 hcl.1 (kw_w_get ho), fun U hU hW => ⟨?_, kw_Z_moved hW hC.2.2.2.2.2.1, by rw [hU]; exact hR⟩⟩
    show _ = (List.map (kw_v G.2.1) (.ref a :: As.map Value.int)).toArray
    rw [List.map_cons, lx_map]
    rfl
  exact lx_after hC.2.2.2.2.2.2 hR hS (va_runV (C := C) (As := As.map Value.int) (rest := rest) (lx_fix hC) M ⟨lx_back hC hb (hts _ hl), hts _ hin, hts _ hse⟩ hpre rfl (by rw [List.length_map]; exact hn') hls rfl (lv_room hrr) d (lx_fit hC hR)) k
theorem lx_callI {i a : Nat} {md' : kw_M} {X : List Value} {Q' : Option Value → kw_H → Prop} (hb : lx_cb md' 0) (hrt : md'.2.2.2.1 = none) (hi : md'.1.name = "<init>") (hl : Cond.methodLink RL i md'.1 ∈ kw_T) (hin : Cond.instanceMethod md'.1 ∈ kw_T) (hX : X = .ref (G.2.1 + a) :: rest) (hrr : (rest.map fun v => v.category).sum ≤ 8) (d : decode code pc = .ok (.invokespecial i, 3)) (M : kw_Met G md' [.ref a] hp Q')
    (hC : lx_C G p s m args c) (hR : kw_R G hp H) (hS : va_S (fun q => G.2.1 ≤ q) s.heap H locs) (hls : ls.size = 4)
    (k : ∀ (r : Option Value) (hp' : kw_H) (H1 : Heap) (locs1 : List Loc), Q' r hp' → kw_R G hp' H1 → va_S (fun q => G.2.1 ≤ q) s.heap H1 locs1 → W p G.1 e room_1 s m args below meth c H1 locs1 (H1.size - s.heap.size) (1848 * (H1.size - s.heap.size)) Z (F0 m (pc + 3) ls ((r.map (kw_v G.2.1)).toList ++ rest))) :
    W p G.1 e room_1 s m args below meth c H locs (H.size - s.heap.size) (1848 * (H.size - s.heap.size)) Z (F0 m pc ls X) := by
  have hts := hC.2.2.2.2.1
  rw [hX]
  have hpre : PreS s H (va_Pc (([.ref a] : List Value).map (kw_v G.2.1)) (fun U => kw_Z G U ∧ kw_R G hp U.heap)) [.ref (G.2.1 + a)] :=
    ⟨kw_blind _, fun U hU hW => ⟨rfl, kw_Z_moved hW hC.2.2.2.2.2.1, by rw [hU]; exact hR⟩⟩
  have hB := lx_back (hp := hp) hC hb (hts _ hl)
  rw [hrt] at hB
  exact lx_after hC.2.2.2.2.2.2 hR hS (va_runI (As := []) (rest := rest) (lx_fix hC) M ⟨hB, hi, hts _ hin⟩ hpre rfl rfl hls rfl (lv_room hrr) d (lx_fit hC hR)) k
/-- new C in the law -/
theorem lx_new {i ci N : Nat} {C : String} {T : u_T} {tyF : Nat → FieldType} {fs : List Value} (hcl : kw_cls ci C T N) (hty : ∀ k, k < N → parseFieldDescriptor (T k).2.2.1 = some (tyF k)) (hN : N ≤ 1848) (hfs : ∀ G : kw_G, ∀ j, j < N → defaultValue (tyF j) = vp_V (fs.map (kw_v G.2.1)) j) (hw1 : Cond.classLink RL i C ∈ kw_T) (hw2 : Cond.instantiable C N ∈ kw_T) (hw3 : Cond.initialized C ∈ kw_T) (d : decode code pc = .ok (.new i, 3)) (hlim : hp.length + 1 ≤ 3900)
    (hC : lx_C G p s m args c) (hR : kw_R G hp H) (hS : va_S (fun q => G.2.1 ≤ q) s.heap H locs)
    (k : ∀ (H1 : Heap), kw_R G (hp ++ [.inr (ci, fs)]) H1 → va_S (fun q => G.2.1 ≤ q) s.heap H1 locs → W p G.1 e room_1 s m args below meth c H1 locs (H1.size - s.heap.size) (1848 * (H1.size - s.heap.size)) Z (F0 m (pc + 3) ls (.ref (G.2.1 + hp.length) :: rest))) :
    W p G.1 e room_1 s m args below meth c H locs (H.size - s.heap.size) (1848 * (H.size - s.heap.size)) Z (F0 m pc ls rest) := by
  have hts := hC.2.2.2.2.1
  have hK := hC.2.2.2.2.2.1.1
  have hKn := hK.1 ci _ hcl.1
  have hk1 := hR.1
  have hk2 := hR.2.1
  have hs0 := hC.2.2.2.2.2.2
  refine W.newcK hC.1 hC.2.1 hC.2.2.2.1 (hts _ hw1) (hts _ hw2) (hts _ hw3) rfl d (by show _ ≤ 600000; omega) (by show _ ≤ 7302250; omega) hKn.2.1 rfl fun H1 kC hkC e1 z1 o1 => ?_
  have hP := hR.2.2
  have hold : ∀ (k : Nat) (x : Nat × va_E), (kw_w G.2.1 G.2.2.2 hp)[k]? = some x → H1[x.1]? = H[x.1]? := fun k x hx => o1 x.1 ((hP k x hx).lt)
  have hP1 : va_P G.2.2.1 vwCl (kw_w G.2.1 G.2.2.2 (hp ++ [.inr (ci, fs)])) H1 := by
    rw [kw_w_push]
    refine (hP.kept hold).app (fun k x hx => ?_)
    have hz : k < 1 := (List.getElem?_eq_some_iff.mp hx).1
    rw [show k = 0 by omega] at hx
    cases hx
    rw [hk1] at e1
    exact ⟨_, hcl.1, (u_born tyF hts hcl.2 hKn hkC e1 hty).to (hfs G)⟩
  have kk := k H1 ⟨by rw [z1, hk1]; simp; omega, by simp; omega, hP1⟩ ⟨by have := hS.1; omega, fun q g1 g2 => (o1 q (Nat.lt_of_lt_of_le g1 hS.1)).trans (hS.2.1 q g1 g2), hS.2.2⟩
  refine W.widen (k := H1.size - s.heap.size) (n := 1848 * (H1.size - s.heap.size)) (by omega) (by omega) ?_
  show W p G.1 e _ s m args below meth c H1 locs _ _ _ (F0 m (pc + 3) ls (.ref H.size :: _))
  rw [hk1]
  exact kk
end LxCalls
/-- the tables at the law's entry -/
theorem lx_arrP {s : State} {args : Array Value} {ty : FieldType} (h : (Cond.arrayClass ty).before args s = true) : ∃ cA : ClassId, ArrOfT s cA ty ∧ s.vm.findClass ("[" ++ ty.toString) = some cA := by
  obtain ⟨cA, kA, comp, h1, h2, h3⟩ := Cond.arrayClass_spec h
  exact ⟨cA, fun n z => ⟨fun k h => (by cases h), kA, h2, comp, h3⟩, h1⟩
theorem lx_arrO {s : State} {args : Array Value} {C : String} (h : (Cond.arrayOver (.object C)).before args s = true) : ∃ cA : ClassId, ArrOfT s cA (.object C) ∧ va_RA s cA (.object C) := by
  obtain ⟨comp, cA, kA, f1, -, f2, f3, f4⟩ := Cond.arrayOver_spec h
  exact ⟨cA, fun n z => ⟨fun k h => (by cases h), kA, f2, comp, f3⟩, kA, comp, f2, f3, f1, f4⟩
theorem lx_arrA {s : State} {args : Array Value} {t : FieldType} (h : (Cond.arrayOver (.array t)).before args s = true) : ∃ cA : ClassId, ArrOfT s cA (.array t) ∧ s.vm.findClass ("[" ++ (FieldType.array t).toString) = some cA := by
  obtain ⟨comp, cA, kA, f1, -, f2, f3, f4⟩ := Stand.arrayOver_specB h
  exact ⟨cA, fun n z => ⟨fun k h => (by cases h), kA, f2, comp, f3⟩, f4⟩
set_option maxRecDepth 100000 in
theorem lx_start {s : State} {b : Addr} (l : Launch) (hts : ∀ w ∈ lw_tbl, w.before #[Value.ref b] s = true) (hgv : (Jvm.Cond.and given_1 narrow_1).before #[Value.ref b] s = true) : ∃ (D : va_G) (C : Nat → ClassId), kw_Z (l, s.heap.size, D, C) s := by
  have hcl : ∀ (k : Nat) (q : vw_C), vwCl[k]? = some q → ∃ (cC : ClassId) (iS : Nat → Nat), u_Kn s q.1 q.2.1 q.2.2 cC iS := by
    intro k q hq
    match k, hq with
    | 0, hq => cases hq; exact u_known hts inX0 (n := 2) (hts _ (by decide +kernel))
    | 1, hq => cases hq; exact u_known hts inX1 (n := 4) (hts _ (by decide +kernel))
    | 2, hq => cases hq; exact u_known hts inX2 (n := 10) (hts _ (by decide +kernel))
    | 3, hq => cases hq; exact u_known hts inX3 (n := 2) (hts _ (by decide +kernel))
    | 4, hq => cases hq; exact u_known hts inX4 (n := 2) (hts _ (by decide +kernel))
    | 5, hq => cases hq; exact u_known hts inX5 (n := 2) (hts _ (by decide +kernel))
    | 6, hq => cases hq; exact u_known hts inX6 (n := 3) (hts _ (by decide +kernel))
    | 7, hq => cases hq; exact u_known hts inX7 (n := 2) (hts _ (by decide +kernel))
    | 8, hq => cases hq; exact u_known hts inX8 (n := 5) (hts _ (by decide +kernel))
    | 9, hq => cases hq; exact u_known hts inX9 (n := 2) (hts _ (by decide +kernel))
    | 10, hq => cases hq; exact u_known hts inX11 (n := 11) (hts _ (by decide +kernel))
    | 11, hq => cases hq; exact u_known hts inX12 (n := 17) (hts _ (by decide +kernel))
    | k + 12, hq => simp [vwCl] at hq
  have hcl2 : ∀ k : Nat, ∃ (cC : ClassId) (iS : Nat → Nat), ∀ q : vw_C, vwCl[k]? = some q → u_Kn s q.1 q.2.1 q.2.2 cC iS := by
    intro k
    cases hk : vwCl[k]? with
    | none => exact ⟨0, fun _ => 0, fun q hq => by cases hq⟩
    | some q =>
      obtain ⟨cC, iS, h⟩ := hcl k q hk
      exact ⟨cC, iS, fun q' hq' => by cases hq'; exact h⟩
  obtain ⟨c0, a0, b0⟩ := lx_arrP (ty := .int) (hts _ (by decide +kernel))
  obtain ⟨c1, a1, b1⟩ := lx_arrP (ty := .long) (hts _ (by decide +kernel))
  obtain ⟨c2, a2, b2⟩ := lx_arrP (ty := .boolean) (hts _ (by decide +kernel))
  obtain ⟨c3, a3, b3⟩ := lx_arrO (C := "KitchenWheels$Turner") (hts _ (by decide +kernel))
  obtain ⟨c4, a4, b4⟩ := lx_arrO (C := "KitchenWheels$Kitchen") (hts _ (by decide +kernel))
  obtain ⟨c5, a5, b5⟩ := lx_arrA (t := .int) (hts _ (by decide +kernel))
  have hs := flat_of_before _ hgv
  refine ⟨(fun k => Classical.choose (hcl2 k), fun k => Classical.choose (Classical.choose_spec (hcl2 k))), fun k => match k with
    | 0 => c0
    | 1 => c1
    | 2 => c2
    | 3 => c3
    | 4 => c4
    | _ => c5, ⟨fun k q hq => Classical.choose_spec (Classical.choose_spec (hcl2 k)) q hq, fun k q hq => ?_⟩, fun w hw hn => ?_, fun q hq => ?_⟩
  · match k, hq with
    | 0, hq => cases hq; exact ⟨a0, b0⟩
    | 1, hq => cases hq; exact ⟨a1, b1⟩
    | 2, hq => cases hq; exact ⟨a2, b2⟩
    | 3, hq => cases hq; exact ⟨a3, b3⟩
    | 4, hq => cases hq; exact ⟨a4, b4⟩
    | 5, hq => cases hq; exact ⟨a5, b5⟩
    | k + 6, hq => simp [kw_ty] at hq
  · have h1 := hts w hw
    match w, hn, h1 with
    | .methodLinkNest a i x y, _, h => exact va_Nw.of rfl h
    | .declares x, _, h => exact va_Nw.of rfl h
    | .castable a b, _, h => exact va_Nw.of rfl h
    | .arrayOver (.object C), _, h => exact h
    | .arrayOver (.array t), _, h => exact Stand.arrayOver_alikeB (Vm.Alike.refl s.vm) h
  · simp only [kw_Nc, List.mem_cons, List.not_mem_nil, or_false] at hq
    rcases hq with rfl | rfl | rfl | rfl | rfl | rfl | rfl | rfl | rfl | rfl | rfl | rfl | rfl | rfl | rfl | rfl | rfl
    all_goals exact va_Nc.of (hs _ (by decide +kernel))
