/-! ===== references into arrays, makings, instanceof, arraycopy ===== -/
section KwMore
variable {G : kw_G} {md : kw_M} {pc : Nat} {L : List (Option Value)} {S : List Value} {hp : kw_H} {Q : Option Value → kw_H → Prop}
theorem kw_up (N : Nat) (f : Nat → Option Nat) (k : Nat) (r : Option Nat) : (fun q => (va_up f k r q).map (fun i => N + i)) = va_up (fun q => (f q).map (fun i => N + i)) k (r.map (fun i => N + i)) := by
  funext q
  unfold va_up
  split <;> rfl
theorem kw_aastN {a n t : Nat} {f : Nat → Option Nat} {j : Int32} (ht : t = 3 ∨ t = 4) (d : decode md.2.1 pc = .ok (.aastore, 1)) (ha : hp[a]? = some (.inl (t, n, .inr (.inr (.inr (.inr f)))))) (hj : vp_in j n) (k : kw_V G md (pc + 1) L S (hp.set a (.inl (t, n, .inr (.inr (.inr (.inr (va_up f j.toNatClampNeg none))))))) Q) : kw_V G md pc L (.null :: .int j :: .ref a :: S) hp Q := by
  intro n0 p e s m args below meth c H locs ls hC hn hR hS hl
  obtain ⟨C, hty⟩ : ∃ C, (kw_ty G.2.2.2)[t]? = some (G.2.2.2 t, .object C) := by
    rcases ht with rfl | rfl <;> exact ⟨_, rfl⟩
  refine va_astqN hC.1 hC.2.1 hC.2.2.2.2.2.2.2.2.1.1 hR.2.2 (kw_w_D _ _ _) hS a t (kw_w_get ha) hty hj d (fun H1 locs1 hP1 hD1 hS1 => ?_)
  refine kw_step k hC hn hR (by simp) (kw_pos ha) ?_ hS1 hl
  rw [kw_w_set]
  show va_P _ _ (List.set _ _ (_, .inl (_, _, .inr (.inr (.inr (.inr (fun q => (va_up f j.toNatClampNeg none q).map (fun i => G.2.1 + i)))))))) _
  rw [kw_up]
  exact hP1
/-- a reference to an object of class ci into an array of E -/
theorem kw_aast {a b n t ci i0 N : Nat} {f : Nat → Option Nat} {j : Int32} {C E : String} {T : u_T} {fs : List Value} (ht : ∀ D : Nat → ClassId, (kw_ty D)[t]? = some (D t, .object E)) (hcl : kw_cls ci C T N) (hw : C = E ∨ lw_tbl[i0]? = some (.castable C E)) (d : decode md.2.1 pc = .ok (.aastore, 1)) (ha : hp[a]? = some (.inl (t, n, .inr (.inr (.inr (.inr f)))))) (hb : hp[b]? = some (.inr (ci, fs))) (hj : vp_in j n) (k : kw_V G md (pc + 1) L S (hp.set a (.inl (t, n, .inr (.inr (.inr (.inr (va_up f j.toNatClampNeg (some b)))))))) Q) : kw_V G md pc L (.ref b :: .int j :: .ref a :: S) hp Q := by
  intro n0 p e s m args below meth c H locs ls hC hn hR hS hl
  have hK := hC.2.2.2.2.2.2.2.2.1.1
  have hfin : ∀ (H1 : Heap) (locs1 : List Loc), va_P G.2.2.1 vwCl ((kw_w G.2.1 G.2.2.2 hp).set a (G.2.1 + a, .inl (G.2.2.2 t, n, .inr (.inr (.inr (.inr (va_up (fun q => (f q).map (fun i => G.2.1 + i)) j.toNatClampNeg (some (G.2.1 + b)))))))) ) H1 → va_S (fun q => G.2.1 ≤ q) s.heap H1 locs1 → W p G.1 e (kw_rm md n0) s m args below meth c H1 locs1 (H.size - s.heap.size) (1848 * (H.size - s.heap.size)) (MQ below (kw_Q G Q) args s (3900 - n0) (1848 * (3900 - n0)) (fun q => G.2.1 ≤ q)) (F0 m (pc + 1) ls (S.map (kw_v G.2.1))) := by
    intro H1 locs1 hP1 hS1
    refine kw_step k hC hn hR (by simp) (kw_pos ha) ?_ hS1 hl
    rw [kw_w_set]
    show va_P _ _ (List.set _ _ (_, .inl (_, _, .inr (.inr (.inr (.inr (fun q => (va_up f j.toNatClampNeg (some b) q).map (fun i => G.2.1 + i)))))))) _
    rw [kw_up]
    exact hP1
  rcases hw with rfl | hw
  · exact va_astq (r := (C, T, N)) hC.1 hC.2.1 hK hR.2.2 (kw_w_D _ _ _) hS a t b ci (kw_w_get ha) (ht _) (kw_w_get hb) hcl.1 hj d (fun H1 locs1 hP1 hD1 hS1 => hfin H1 locs1 hP1 hS1)
  · exact va_astqO (r := (C, T, N)) hC.1 hC.2.1 hK hR.2.2 (kw_w_D _ _ _) hS a t b ci (kw_w_get ha) (ht _) (kw_inN i0 hw rfl hC.2.2.2.2.2.2.2.2.1) (kw_w_get hb) hcl.1 hj d (fun H1 locs1 hP1 hD1 hS1 => hfin H1 locs1 hP1 hS1)
theorem kw_push {hp' : kw_H} {pc' : Nat} {S' : List Value} (k : kw_V G md pc' L S' hp' Q) {n0 : Nat} {p : Program} {e : Env} {s : State} {m : MethodId} {args : Array Value} {below : List Frame} {meth : Method} {c : Code} {H H1 : Heap} {locs : List Loc} {ls : Array Slot} {cells slots d : Nat} (hC : kw_C G md n0 p s m args meth c) (hn : n0 ≤ hp.length) (hR : kw_R G hp H) (hS : va_S (fun q => G.2.1 ≤ q) s.heap H locs) (hl : lv_has ls md.2.2.1 (kw_pr G.2.1 0 L)) (hlen : hp'.length = hp.length + d) (hlim : hp.length + d ≤ 3900) (hz : H1.size = H.size + d) (hold : ∀ q : Nat, q < H.size → H1[q]? = H[q]?) (hP1 : va_P G.2.2.1 vwCl (kw_w G.2.1 G.2.2.2 hp') H1) (hc : cells ≤ H.size - s.heap.size + d) (hs : slots ≤ 1848 * (H.size - s.heap.size + d)) :
    W p G.1 e (kw_rm md n0) s m args below meth c H1 locs cells slots (MQ below (kw_Q G Q) args s (3900 - n0) (1848 * (3900 - n0)) (fun q => G.2.1 ≤ q)) (F0 m pc' ls (S'.map (kw_v G.2.1))) := by
  have h1 := hC.2.2.2.2.2.2.2.2.2
  have h2 := hR.1
  have e1 : H1.size - s.heap.size = H.size - s.heap.size + d := by omega
  refine W.widen (k := H1.size - s.heap.size) (n := 1848 * (H1.size - s.heap.size)) (by rw [e1]; exact hc) (by rw [e1]; exact hs) ?_
  exact k n0 p e s m args below meth c H1 locs ls hC (by omega) ⟨by omega, by omega, hP1⟩ ⟨by have := hS.1; omega, fun q g1 g2 => (hold q (Nat.lt_of_lt_of_le g1 hS.1)).trans (hS.2.1 q g1 g2), hS.2.2⟩ hl
theorem kw_room1 {n0 : Nat} {p : Program} {s : State} {m : MethodId} {args : Array Value} {meth : Method} {c : Code} {H : Heap} {d x : Nat} (hC : kw_C G md n0 p s m args meth c) (hn : n0 ≤ hp.length) (hR : kw_R G hp H) (hlim : hp.length + d ≤ 3900) (hx : x ≤ 1848 * d) : (H.size - s.heap.size) + d ≤ 3900 - n0 ∧ 1848 * (H.size - s.heap.size) + x ≤ 1848 * (3900 - n0) := by
  have h1 := hC.2.2.2.2.2.2.2.2.2
  have h2 := hR.1
  omega
/-- new C: its fields at their defaults -/
theorem kw_new {i ci N : Nat} {C : String} {T : u_T} {tyF : Nat → FieldType} {fs : List Value} (hcl : kw_cls ci C T N) (hty : ∀ k, k < N → parseFieldDescriptor (T k).2.2.1 = some (tyF k)) (hN : N ≤ 1848) (hfs : ∀ G : kw_G, ∀ j, j < N → defaultValue (tyF j) = vp_V (fs.map (kw_v G.2.1)) j) (hw1 : Cond.classLink md.1.cls i C ∈ kw_T) (hw2 : Cond.instantiable C N ∈ kw_T) (hw3 : Cond.initialized C ∈ kw_T) (d : decode md.2.1 pc = .ok (.new i, 3)) (hlim : hp.length + 1 ≤ 3900) (k : kw_V G md (pc + 3) L (.ref hp.length :: S) (hp ++ [.inr (ci, fs)]) Q) : kw_V G md pc L S hp Q := by
  intro n0 p e s m args below meth c H locs ls hC hn hR hS hl
  have hts := hC.2.2.2.2.2.2.2.1
  have hK := hC.2.2.2.2.2.2.2.2.1.1
  have hKn := hK.1 ci _ hcl.1
  have hr := kw_room1 (x := N) hC hn hR hlim (by omega)
  refine W.newcK hC.1 hC.2.1 hC.2.2.2.2.2.2.1 (hts _ hw1) (hts _ hw2) (hts _ hw3) rfl d hr.1 hr.2 hKn.2.1 rfl fun H1 kC hkC e1 z1 o1 => ?_
  have hk1 := hR.1
  have hP := hR.2.2
  have hold : ∀ (k : Nat) (x : Nat × va_E), (kw_w G.2.1 G.2.2.2 hp)[k]? = some x → H1[x.1]? = H[x.1]? := fun k x hx => o1 x.1 ((hP k x hx).lt)
  have hP1 : va_P G.2.2.1 vwCl (kw_w G.2.1 G.2.2.2 (hp ++ [.inr (ci, fs)])) H1 := by
    rw [kw_w_push]
    refine (hP.kept hold).app (fun k x hx => ?_)
    have hz : k < 1 := (List.getElem?_eq_some_iff.mp hx).1
    rw [show k = 0 by omega] at hx
    cases hx
    rw [hk1] at e1
    exact ⟨_, hcl.1, (u_born tyF hts hcl.2 hKn hkC e1 hty).to (hfs G)⟩
  have := kw_push (d := 1) k hC hn hR hS hl (by simp) hlim z1 o1 hP1 (cells := H.size - s.heap.size + 1) (slots := 1848 * (H.size - s.heap.size) + N) (e := e) (below := below) (Nat.le_refl _) (by omega)
  rw [List.map_cons] at this
  show W p G.1 e _ s m args below meth c H1 locs _ _ _ (F0 m (pc + 3) ls (.ref H.size :: _))
  rw [hk1]
  rw [hk1] at this
  exact this
theorem kw_newa {t N : Nat} {at0 : ArrayType} {n : Int32} {a0 : vp_A} (ht : ∀ D : Nat → ClassId, (kw_ty D)[t]? = some (D t, newarray.typeOf at0)) (hrf : ∀ (s : State) (cA : ClassId), va_RA s cA (newarray.typeOf at0) = (s.vm.findClass ("[" ++ (newarray.typeOf at0).toString) = some cA)) (ha0 : ∀ (M : Nat) (cA : ClassId), vp_cell cA (kw_a M a0) = arrV cA N (fun _ => defaultValue (newarray.typeOf at0))) (hw : Cond.arrayClass (newarray.typeOf at0) ∈ kw_T) (hn0 : ¬ n < 0) (hN : n.toNatClampNeg = N) (hNb : N ≤ 1848) (hbytes : N * componentBytes (newarray.typeOf at0) ≤ 536870912) (d : decode md.2.1 pc = .ok (.newarray at0, 2)) (hlim : hp.length + 1 ≤ 3900) (k : kw_V G md (pc + 2) L (.ref hp.length :: S) (hp ++ [.inl (t, a0)]) Q) : kw_V G md pc L (.int n :: S) hp Q := by
  intro n0 p e s m args below meth c H locs ls hC hn hR hS hl
  have hts := hC.2.2.2.2.2.2.2.1
  have hK := hC.2.2.2.2.2.2.2.2.1.1
  have hr := kw_room1 (x := N) hC hn hR hlim (by omega)
  refine va_newaK hC.1 hC.2.1 (hts _ hw) rfl d rfl hn0 hN hbytes hr.1 hr.2 rfl fun H1 cA e1 z1 o1 hAr hNm => ?_
  have hcA : G.2.2.2 t = cA := by
    have h1 := (hK.2 t _ (ht _)).2
    rw [hrf] at h1
    exact Option.some.inj (h1.symm.trans hNm)
  have hk1 := hR.1
  have hP := hR.2.2
  have hold : ∀ (k : Nat) (x : Nat × va_E), (kw_w G.2.1 G.2.2.2 hp)[k]? = some x → H1[x.1]? = H[x.1]? := fun k x hx => o1 x.1 ((hP k x hx).lt)
  have hP1 : va_P G.2.2.1 vwCl (kw_w G.2.1 G.2.2.2 (hp ++ [.inl (t, a0)])) H1 := by
    rw [kw_w_push]
    refine (hP.kept hold).app (fun k x hx => ?_)
    have hz : k < 1 := (List.getElem?_eq_some_iff.mp hx).1
    rw [show k = 0 by omega] at hx
    cases hx
    rw [hk1] at e1
    show H1[G.2.1 + hp.length]? = some (vp_cell (G.2.2.2 t) (kw_a G.2.1 a0))
    rw [ha0, hcA]
    exact e1
  have := kw_push (d := 1) k hC hn hR hS hl (by simp) hlim z1 o1 hP1 (cells := H.size - s.heap.size + 1) (slots := 1848 * (H.size - s.heap.size) + N) (e := e) (below := below) (Nat.le_refl _) (by omega)
  rw [List.map_cons] at this
  show W p G.1 e _ s m args below meth c H1 locs _ _ _ (F0 m (pc + 2) ls (.ref H.size :: _))
  rw [hk1]
  rw [hk1] at this
  exact this
theorem kw_anew {t N i i0 : Nat} {E : String} {n : Int32} (ht : ∀ D : Nat → ClassId, (kw_ty D)[t]? = some (D t, .object E)) (hw : Cond.classLink md.1.cls i E ∈ kw_T) (hov : lw_tbl[i0]? = some (.arrayOver (.object E))) (hn0 : ¬ n < 0) (hN : n.toNatClampNeg = N) (hNb : N ≤ 1848) (d : decode md.2.1 pc = .ok (.anewarray i, 3)) (hlim : hp.length + 1 ≤ 3900) (k : kw_V G md (pc + 3) L (.ref hp.length :: S) (hp ++ [.inl (t, N, .inr (.inr (.inr (.inr (fun _ => none)))))]) Q) : kw_V G md pc L (.int n :: S) hp Q := by
  intro n0 p e s m args below meth c H locs ls hC hn hR hS hl
  have hts := hC.2.2.2.2.2.2.2.1
  have hK := hC.2.2.2.2.2.2.2.2.1.1
  have hr := kw_room1 (x := N) hC hn hR hlim (by omega)
  subst hN
  refine W.anew hC.1 hC.2.1 hC.2.2.2.2.2.2.1 (hts _ hw) (va_AO.use (kw_inN (G := G) i0 hov rfl hC.2.2.2.2.2.2.2.2.1)) rfl d rfl hn0 (by omega) hr.1 hr.2 fun cA kA comp f1 f2 f3 f4 => ?_
  generalize hH1 : H.push ({ cls := cA, slots := Array.replicate n.toNatClampNeg .null, vm := .none } : Cell) = H1
  have z1 : H1.size = H.size + 1 := by rw [← hH1, Array.size_push]
  have e1 : H1[H.size]? = some (arrV cA n.toNatClampNeg (fun _ => .null)) := by rw [← hH1, Array.getElem?_push_size, ← arrV_new]
  have o1 : ∀ q : Nat, q < H.size → H1[q]? = H[q]? := fun q hq => by rw [← hH1, Array.getElem?_push, if_neg (Nat.ne_of_lt hq)]
  have hcA : G.2.2.2 t = cA := by
    obtain ⟨kA', comp', -, -, -, h4⟩ := (hK.2 t _ (ht _)).2
    exact Option.some.inj (h4.symm.trans f1)
  have hk1 := hR.1
  have hP := hR.2.2
  have hold : ∀ (k : Nat) (x : Nat × va_E), (kw_w G.2.1 G.2.2.2 hp)[k]? = some x → H1[x.1]? = H[x.1]? := fun k x hx => o1 x.1 ((hP k x hx).lt)
  have hP1 : va_P G.2.2.1 vwCl (kw_w G.2.1 G.2.2.2 (hp ++ [.inl (t, n.toNatClampNeg, .inr (.inr (.inr (.inr (fun _ => none)))))])) H1 := by
    rw [kw_w_push]
    refine (hP.kept hold).app (fun k x hx => ?_)
    have hz : k < 1 := (List.getElem?_eq_some_iff.mp hx).1
    rw [show k = 0 by omega] at hx
    cases hx
    rw [hk1] at e1
    show H1[G.2.1 + hp.length]? = some (vp_cell (G.2.2.2 t) _)
    rw [hcA]
    exact e1
  have := kw_push (d := 1) k hC hn hR hS hl (by simp) hlim z1 o1 hP1 (cells := H.size - s.heap.size + 1) (slots := 1848 * (H.size - s.heap.size) + n.toNatClampNeg) (e := e) (below := below) (Nat.le_refl _) (by omega)
  rw [List.map_cons] at this
  show W p G.1 e _ s m args below meth c H1 locs _ _ _ (F0 m (pc + 3) ls (.ref H.size :: _))
  rw [hk1]
  rw [hk1] at this
  exact this
/-- an object's class, as the tables have it -/
theorem kw_recv {s : State} {H : Heap} {a ci N : Nat} {C : String} {T : u_T} {fs : List Value} (hZ : kw_Z G s) (hR : kw_R G hp H) (hcl : kw_cls ci C T N) (ho : hp[a]? = some (.inr (ci, fs))) : ∃ cell : Cell, H[G.2.1 + a]? = some cell ∧ cell.vm.isStatics = false ∧ s.vm.findClass C = some cell.cls := va_recv hZ.1 hR.2.2 hcl.1 (kw_w_get ho)
theorem kw_instY {i i0 ci N a : Nat} {C nm : String} {T : u_T} {fs : List Value} (hcl : kw_cls ci C T N) (hw : Cond.classLink md.1.cls i nm ∈ kw_T) (hc : lw_tbl[i0]? = some (.castable C nm)) (d : decode md.2.1 pc = .ok (.instanceof i, 3)) (ho : hp[a]? = some (.inr (ci, fs))) (k : kw_V G md (pc + 3) L (.int 1 :: S) hp Q) : kw_V G md pc L (.ref a :: S) hp Q := by
  intro n0 p e s m args below meth c H locs ls hC hn hR hS hl
  exact va_instY (C := C) hC.1 hC.2.1 hC.2.2.2.2.2.2.1 (hC.2.2.2.2.2.2.2.1 _ hw) (kw_inN (G := G) i0 hc rfl hC.2.2.2.2.2.2.2.2.1) (kw_recv hC.2.2.2.2.2.2.2.2.1 hR hcl ho) d (k n0 p e s m args below meth c H locs ls hC hn hR hS hl)
theorem kw_instS {i ci N a : Nat} {C : String} {T : u_T} {fs : List Value} (hcl : kw_cls ci C T N) (hw : Cond.classLink md.1.cls i C ∈ kw_T) (d : decode md.2.1 pc = .ok (.instanceof i, 3)) (ho : hp[a]? = some (.inr (ci, fs))) (k : kw_V G md (pc + 3) L (.int 1 :: S) hp Q) : kw_V G md pc L (.ref a :: S) hp Q := by
  intro n0 p e s m args below meth c H locs ls hC hn hR hS hl
  exact va_instS (nm := C) hC.1 hC.2.1 hC.2.2.2.2.2.2.1 (hC.2.2.2.2.2.2.2.1 _ hw) (hC.2.2.2.2.2.2.2.2.1.1.1 ci _ hcl.1).2 (kw_recv hC.2.2.2.2.2.2.2.2.1 hR hcl ho) d (k n0 p e s m args below meth c H locs ls hC hn hR hS hl)
theorem kw_instNo {i ci N a : Nat} {C nm : String} {T : u_T} {fs : List Value} (hcl : kw_cls ci C T N) (hw : Cond.classLink md.1.cls i nm ∈ kw_T) (hc : (C, nm) ∈ kw_Nc) (d : decode md.2.1 pc = .ok (.instanceof i, 3)) (ho : hp[a]? = some (.inr (ci, fs))) (k : kw_V G md (pc + 3) L (.int 0 :: S) hp Q) : kw_V G md pc L (.ref a :: S) hp Q := by
  intro n0 p e s m args below meth c H locs ls hC hn hR hS hl
  exact va_instNo (C := C) hC.1 hC.2.1 hC.2.2.2.2.2.2.1 (hC.2.2.2.2.2.2.2.1 _ hw) (hC.2.2.2.2.2.2.2.2.1.2.2 _ hc) (kw_recv hC.2.2.2.2.2.2.2.2.1 hR hcl ho) d (k n0 p e s m args below meth c H locs ls hC hn hR hS hl)
end KwMore
