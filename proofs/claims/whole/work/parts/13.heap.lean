/-! ===== returns, objects, arrays ===== -/
section KwHeap
variable {G : kw_G} {md : kw_M} {pc : Nat} {L : List (Option Value)} {S : List Value} {hp : kw_H} {Q : Option Value → kw_H → Prop}
theorem kw_le1 {n0 : Nat} {p : Program} {s : State} {m : MethodId} {args : Array Value} {meth : Method} {c : Code} {H : Heap} (hC : kw_C G md n0 p s m args meth c) (hn : n0 ≤ hp.length) (hR : kw_R G hp H) : H.size - s.heap.size ≤ 3900 - n0 := by
  have h1 := hC.2.2.2.2.2.2.2.2.2
  have h2 := hR.1
  have h3 := hR.2.1
  omega
theorem kw_le2 {n0 : Nat} {p : Program} {s : State} {m : MethodId} {args : Array Value} {meth : Method} {c : Code} {H : Heap} (hC : kw_C G md n0 p s m args meth c) (hn : n0 ≤ hp.length) (hR : kw_R G hp H) : 1848 * (H.size - s.heap.size) ≤ 1848 * (3900 - n0) :=
  Nat.mul_le_mul_left _ (kw_le1 hC hn hR)
theorem kw_iret {x : Int32} (hr : md.2.2.2.1 = some .int) (d : decode md.2.1 pc = .ok (.ireturn, 1)) (hq : Q (some (.int x)) hp) : kw_V G md pc L [.int x] hp Q := by
  intro n0 p e s m args below meth c H locs ls hC hn hR hS hl
  refine kw_know fun hsp hsz hsum => ?_
  refine W.widen (k := 3900 - n0) (n := 1848 * (3900 - n0)) (kw_le1 hC hn hR) (kw_le2 hC hn hR) ?_
  exact W.iret (v := x) hC.1 hC.2.1 (hC.2.2.2.1.trans hr) (fun t ht hW => ⟨some (.int x), hp, rfl, hq, by rw [ht]; exact hR, hS.F ht, by rw [ht]; exact hsp, by rw [ht]; exact hsum⟩) hS.2.2 d hC.2.2.2.2.1
theorem kw_zret {x : Int32} (hr : md.2.2.2.1 = some .boolean) (hx : x = 0 ∨ x = 1) (d : decode md.2.1 pc = .ok (.ireturn, 1)) (hq : Q (some (.int x)) hp) : kw_V G md pc L [.int x] hp Q := by
  intro n0 p e s m args below meth c H locs ls hC hn hR hS hl
  refine kw_know fun hsp hsz hsum => ?_
  refine W.widen (k := 3900 - n0) (n := 1848 * (3900 - n0)) (kw_le1 hC hn hR) (kw_le2 hC hn hR) ?_
  exact W.zret (v := x) (ty := .boolean) hC.1 hC.2.1 (hC.2.2.2.1.trans hr) (by rcases hx with rfl | rfl <;> rfl) (fun t ht hW => ⟨some (.int x), hp, rfl, hq, by rw [ht]; exact hR, hS.F ht, by rw [ht]; exact hsp, by rw [ht]; exact hsum⟩) hS.2.2 d hC.2.2.2.2.1
theorem kw_lret {x : Int64} (hr : md.2.2.2.1 = some .long) (d : decode md.2.1 pc = .ok (.lreturn, 1)) (hq : Q (some (.long x)) hp) : kw_V G md pc L [.long x] hp Q := by
  intro n0 p e s m args below meth c H locs ls hC hn hR hS hl
  refine kw_know fun hsp hsz hsum => ?_
  refine W.widen (k := 3900 - n0) (n := 1848 * (3900 - n0)) (kw_le1 hC hn hR) (kw_le2 hC hn hR) ?_
  exact W.lret (v := x) hC.1 hC.2.1 (hC.2.2.2.1.trans hr) (fun t ht hW => ⟨some (.long x), hp, rfl, hq, by rw [ht]; exact hR, hS.F ht, by rw [ht]; exact hsp, by rw [ht]; exact hsum⟩) hS.2.2 d hC.2.2.2.2.1
theorem kw_vret (hr : md.2.2.2.1 = none) (d : decode md.2.1 pc = .ok (.return_, 1)) (hq : Q none hp) : kw_V G md pc L [] hp Q := by
  intro n0 p e s m args below meth c H locs ls hC hn hR hS hl
  refine kw_know fun hsp hsz hsum => ?_
  refine W.widen (k := 3900 - n0) (n := 1848 * (3900 - n0)) (kw_le1 hC hn hR) (kw_le2 hC hn hR) ?_
  exact W.vret hC.1 hC.2.1 (hC.2.2.2.1.trans hr) (fun t ht hW => ⟨none, hp, rfl, hq, by rw [ht]; exact hR, hS.F ht, by rw [ht]; exact hsp, by rw [ht]; exact hsum⟩) hS.2.2 d hC.2.2.2.2.1
theorem kw_aret {n : String} {a : Nat} (hr : md.2.2.2.1 = some (.object n)) (d : decode md.2.1 pc = .ok (.areturn, 1)) (hq : Q (some (.ref a)) hp) : kw_V G md pc L [.ref a] hp Q := by
  intro n0 p e s m args below meth c H locs ls hC hn hR hS hl
  refine kw_know fun hsp hsz hsum => ?_
  refine W.widen (k := 3900 - n0) (n := 1848 * (3900 - n0)) (kw_le1 hC hn hR) (kw_le2 hC hn hR) ?_
  exact W.aret (v := .ref (G.2.1 + a)) hC.1 hC.2.1 (hC.2.2.2.1.trans hr) (Or.inl ⟨n, rfl⟩) (Or.inr ⟨_, rfl⟩) (fun t ht hW => ⟨some (.ref a), hp, rfl, hq, by rw [ht]; exact hR, hS.F ht, by rw [ht]; exact hsp, by rw [ht]; exact hsum⟩) hS.2.2 d hC.2.2.2.2.1
theorem kw_aretN {n : String} (hr : md.2.2.2.1 = some (.object n)) (d : decode md.2.1 pc = .ok (.areturn, 1)) (hq : Q (some .null) hp) : kw_V G md pc L [.null] hp Q := by
  intro n0 p e s m args below meth c H locs ls hC hn hR hS hl
  refine kw_know fun hsp hsz hsum => ?_
  refine W.widen (k := 3900 - n0) (n := 1848 * (3900 - n0)) (kw_le1 hC hn hR) (kw_le2 hC hn hR) ?_
  exact W.aret (v := .null) hC.1 hC.2.1 (hC.2.2.2.1.trans hr) (Or.inl ⟨n, rfl⟩) (Or.inl rfl) (fun t ht hW => ⟨some .null, hp, rfl, hq, by rw [ht]; exact hR, hS.F ht, by rw [ht]; exact hsp, by rw [ht]; exact hsum⟩) hS.2.2 d hC.2.2.2.2.1
/-- words by their places -/
theorem kw_in {w : Cond} (i : Nat) (h : lw_tbl[i]? = some w) (hg : goodWord w = true) : w ∈ kw_T := List.mem_filter.mpr ⟨List.mem_of_getElem? h, hg⟩
theorem kw_inN {G : kw_G} {s : State} {w : Cond} (i : Nat) (h : lw_tbl[i]? = some w) (hg : kw_isN w = true) (hZ : kw_Z G s) : w.before #[] s = true := hZ.2.1 w (List.mem_of_getElem? h) hg
/-- a class of the worlds: its words -/
def kw_cls (ci : Nat) (C : String) (T : u_T) (N : Nat) : Prop := vwCl[ci]? = some (C, T, N) ∧ ∀ w ∈ u_ws C T N, w ∈ kw_T
theorem kw_cls_of {ci : Nat} {C : String} {T : u_T} {N : Nat} (h : vwCl[ci]? = some (C, T, N)) (hi : ∀ w ∈ u_ws C T N, w ∈ lw_tbl) : kw_cls ci C T N := by
  refine ⟨h, fun w hw => List.mem_filter.mpr ⟨hi w hw, ?_⟩⟩
  obtain ⟨k, -, rfl⟩ := List.mem_map.mp hw
  unfold u_lay
  split <;> rfl
/-- a field's link in a class's pool -/
def kw_fl (own : String) (i : Nat) (T : u_T) (k : Nat) : Prop := ∃ ref : String, Cond.fieldLink own i ref (T k).2.1 (T k).2.2.1 ∈ kw_T ∧ (ref = (T k).1 ∨ Cond.sameField ref (T k).1 (T k).2.1 (T k).2.2.1 ∈ kw_T)
theorem kw_same {s : State} {args : Array Value} {ref : String} {T : u_T} {k : Nat} (hts : ∀ w ∈ kw_T, w.before args s = true) (h : ref = (T k).1 ∨ Cond.sameField ref (T k).1 (T k).2.1 (T k).2.2.1 ∈ kw_T) : ∀ x, s.fieldFound? (T k).1 (T k).2.1 (T k).2.2.1 = some x → s.fieldFound? ref (T k).2.1 (T k).2.2.1 = some x := by
  rcases h with rfl | h
  · exact fun _ h => h
  · exact fun x hx => u_same (hts _ h) x hx
theorem kw_get {i ci k N a : Nat} {C : String} {T : u_T} {fs : List Value} {v : Value} (hcl : kw_cls ci C T N) (hk : k < N) (hf : kw_fl md.1.cls i T k) (d : decode md.2.1 pc = .ok (.getfield i, 3)) (ho : hp[a]? = some (.inr (ci, fs))) (hv : fs[k]? = some v) (kk : kw_V G md (pc + 3) L (v :: S) hp Q) : kw_V G md pc L (.ref a :: S) hp Q := by
  intro n0 p e s m args below meth c H locs ls hC hn hR hS hl
  obtain ⟨ref, hw, hs⟩ := hf
  have hts := hC.2.2.2.2.2.2.2.1
  exact va_get (D := G.2.2.1) (ci := ci) (v := kw_v G.2.1 v) hC.1 hC.2.1 hts hcl.2 hC.2.2.2.2.2.2.1 hC.2.2.2.2.2.2.2.2.1.1 hR.2.2 a (kw_w_get ho) hcl.1 k hk (hts _ hw) (kw_same hts hs) (by rw [List.getElem?_map, hv]; rfl) d (kk n0 p e s m args below meth c H locs ls hC hn hR hS hl)
theorem kw_step {pc' : Nat} {hp' : kw_H} (k : kw_V G md pc' L S hp' Q) {n0 : Nat} {p : Program} {e : Env} {s : State} {m : MethodId} {args : Array Value} {below : List Frame} {meth : Method} {c : Code} {H H1 : Heap} {locs1 : List Loc} {ls : Array Slot} (hC : kw_C G md n0 p s m args meth c) (hn : n0 ≤ hp.length) (hR : kw_R G hp H) (hlen : hp'.length = hp.length) (hpos : 0 < hp.length) (hP1 : va_P G.2.2.1 vwCl (kw_w G.2.1 G.2.2.2 hp') H1) (hS1 : va_S (fun q => G.2.1 ≤ q) s.heap H1 locs1) (hl : lv_has ls md.2.2.1 (kw_pr G.2.1 0 L)) :
    W p G.1 e (kw_rm md n0) s m args below meth c H1 locs1 (H.size - s.heap.size) (1848 * (H.size - s.heap.size)) (MQ below (kw_Q G Q) args s (3900 - n0) (1848 * (3900 - n0)) (fun q => G.2.1 ≤ q)) (F0 m pc' ls (S.map (kw_v G.2.1))) := by
  refine kw_know fun hsp hsz hsum => ?_
  have h1 := hC.2.2.2.2.2.2.2.2.2
  have h2 := hR.1
  have h3 : hp.length - 1 < hp'.length := by omega
  have h4 := (hP1 (hp.length - 1) _ (kw_w_get (List.getElem?_eq_getElem h3))).lt
  have e1 : H1.size = H.size := by
    have h5 : G.2.1 + (hp.length - 1) < H1.size := h4
    omega
  rw [← e1]
  exact k n0 p e s m args below meth c H1 locs1 ls hC (by omega) ⟨by rw [e1, hlen]; exact h2, by rw [hlen]; exact hR.2.1, hP1⟩ hS1 hl
theorem kw_pos {a : Nat} {x : kw_E} (h : hp[a]? = some x) : 0 < hp.length := Nat.lt_of_le_of_lt (Nat.zero_le _) (List.getElem?_eq_some_iff.mp h).1
theorem kw_put {i ci k N a : Nat} {C : String} {T : u_T} {tyF : Nat → FieldType} {fs : List Value} {v : Value} (hcl : kw_cls ci C T N) (hty : ∀ k, k < N → parseFieldDescriptor (T k).2.2.1 = some (tyF k)) (hnm : ∀ a, a < N → ∀ b, b < N → a ≠ b → (T a).2.1 ≠ (T b).2.1) (hk : k < N) (hf : kw_fl md.1.cls i T k) (hfin : (T k).2.2.2 = false) (d : decode md.2.1 pc = .ok (.putfield i, 3)) (ho : hp[a]? = some (.inr (ci, fs))) (hl : k < fs.length) (hv : narrow (tyF k) (kw_v G.2.1 v) = kw_v G.2.1 v ∧ fits (tyF k) (kw_v G.2.1 v) = true) (kk : kw_V G md (pc + 3) L S (hp.set a (.inr (ci, fs.set k v))) Q) : kw_V G md pc L (v :: .ref a :: S) hp Q := by
  intro n0 p e s m args below meth c H locs ls hC hn hR hS hl'
  obtain ⟨ref, hw, hs⟩ := hf
  have hts := hC.2.2.2.2.2.2.2.1
  refine va_put (D := G.2.2.1) (ci := ci) (v := kw_v G.2.1 v) (ty := tyF k) hC.1 hC.2.1 hts hcl.2 tyF hty hnm hC.2.2.2.2.2.2.1 hC.2.2.2.2.2.2.2.2.1.1 hR.2.2 (kw_w_D _ _ _) hS a (kw_w_get ho) hcl.1 k hk (hts _ hw) (kw_same hts hs) hfin (hty k hk) hv.1 hv.2 (by rw [List.length_map]; exact hl) d (fun H1 locs1 hP1 hD1 hS1 => ?_)
  refine kw_step kk hC hn hR (by simp) (kw_pos ho) ?_ hS1 hl'
  rw [kw_w_set]
  show va_P _ _ (List.set _ _ (_, .inr (ci, (fs.set k v).map (kw_v G.2.1)))) _
  rw [List.map_set]
  exact hP1
theorem kw_putF {i ci k N a : Nat} {C : String} {T : u_T} {tyF : Nat → FieldType} {fs : List Value} {v : Value} (hcl : kw_cls ci C T N) (hty : ∀ k, k < N → parseFieldDescriptor (T k).2.2.1 = some (tyF k)) (hnm : ∀ a, a < N → ∀ b, b < N → a ≠ b → (T a).2.1 ≠ (T b).2.1) (hk : k < N) (hf : kw_fl md.1.cls i T k) (hfin : (T k).2.2.2 = true) (hin : md.1.name = "<init>") (hdecl : (T k).1 = md.1.cls) (d : decode md.2.1 pc = .ok (.putfield i, 3)) (ho : hp[a]? = some (.inr (ci, fs))) (hl : k < fs.length) (hv : narrow (tyF k) (kw_v G.2.1 v) = kw_v G.2.1 v ∧ fits (tyF k) (kw_v G.2.1 v) = true) (kk : kw_V G md (pc + 3) L S (hp.set a (.inr (ci, fs.set k v))) Q) : kw_V G md pc L (v :: .ref a :: S) hp Q := by
  intro n0 p e s m args below meth c H locs ls hC hn hR hS hl'
  obtain ⟨ref, hw, hs⟩ := hf
  have hts := hC.2.2.2.2.2.2.2.1
  refine va_putF (D := G.2.2.1) (ci := ci) (v := kw_v G.2.1 v) (ty := tyF k) hC.1 hC.2.1 hts hcl.2 tyF hty hnm hC.2.2.2.2.2.2.1 hC.2.2.2.2.2.2.2.2.1.1 hR.2.2 (kw_w_D _ _ _) hS a (kw_w_get ho) hcl.1 k hk (hts _ hw) (kw_same hts hs) hfin (hC.2.2.2.2.2.1.trans hin) hdecl (hty k hk) hv.1 hv.2 (by rw [List.length_map]; exact hl) d (fun H1 locs1 hP1 hD1 hS1 => ?_)
  refine kw_step kk hC hn hR (by simp) (kw_pos ho) ?_ hS1 hl'
  rw [kw_w_set]
  show va_P _ _ (List.set _ _ (_, .inr (ci, (fs.set k v).map (kw_v G.2.1)))) _
  rw [List.map_set]
  exact hP1
/-! arrays: 0 int, 1 long, 2 boolean, 3 turners, 4 kitchens, 5 rows of ints -/
theorem kw_iald {a n : Nat} {f : Nat → Int32} {j : Int32} (d : decode md.2.1 pc = .ok (.iaload, 1)) (ha : hp[a]? = some (.inl (0, n, .inl f))) (hj : vp_in j n) (k : kw_V G md (pc + 1) L (.int (f j.toNatClampNeg) :: S) hp Q) : kw_V G md pc L (.int j :: .ref a :: S) hp Q := by
  intro n0 p e s m args below meth c H locs ls hC hn hR hS hl
  exact va_iald hC.1 hC.2.1 hC.2.2.2.2.2.2.2.2.1.1 hR.2.2 a 0 (kw_w_get ha) rfl hj d (k n0 p e s m args below meth c H locs ls hC hn hR hS hl)
theorem kw_zald {a n : Nat} {f : Nat → Int32} {j : Int32} (d : decode md.2.1 pc = .ok (.baload, 1)) (ha : hp[a]? = some (.inl (2, n, .inl f))) (hj : vp_in j n) (k : kw_V G md (pc + 1) L (.int (f j.toNatClampNeg) :: S) hp Q) : kw_V G md pc L (.int j :: .ref a :: S) hp Q := by
  intro n0 p e s m args below meth c H locs ls hC hn hR hS hl
  exact va_zald hC.1 hC.2.1 hC.2.2.2.2.2.2.2.2.1.1 hR.2.2 a 2 (kw_w_get ha) rfl hj d (k n0 p e s m args below meth c H locs ls hC hn hR hS hl)
theorem kw_lald {a n : Nat} {f : Nat → Int64} {j : Int32} (d : decode md.2.1 pc = .ok (.laload, 1)) (ha : hp[a]? = some (.inl (1, n, .inr (.inl f)))) (hj : vp_in j n) (k : kw_V G md (pc + 1) L (.long (f j.toNatClampNeg) :: S) hp Q) : kw_V G md pc L (.int j :: .ref a :: S) hp Q := by
  intro n0 p e s m args below meth c H locs ls hC hn hR hS hl
  exact va_lald hC.1 hC.2.1 hC.2.2.2.2.2.2.2.2.1.1 hR.2.2 a 1 (kw_w_get ha) rfl hj d (k n0 p e s m args below meth c H locs ls hC hn hR hS hl)
theorem kw_alen {a t : Nat} {x : vp_A} (ht : t < 6) (d : decode md.2.1 pc = .ok (.arraylength, 1)) (ha : hp[a]? = some (.inl (t, x))) (k : kw_V G md (pc + 1) L (.int (nI x.1) :: S) hp Q) : kw_V G md pc L (.ref a :: S) hp Q := by
  intro n0 p e s m args below meth c H locs ls hC hn hR hS hl
  obtain ⟨ty, hty⟩ : ∃ ty, (kw_ty G.2.2.2)[t]? = some (G.2.2.2 t, ty) := by
    rcases (show t = 0 ∨ t = 1 ∨ t = 2 ∨ t = 3 ∨ t = 4 ∨ t = 5 by omega) with rfl | rfl | rfl | rfl | rfl | rfl <;> exact ⟨_, rfl⟩
  exact va_alen (v := nI x.1) hC.1 hC.2.1 hC.2.2.2.2.2.2.2.2.1.1 hR.2.2 a t (kw_w_get ha) hty rfl d (k n0 p e s m args below meth c H locs ls hC hn hR hS hl)
theorem kw_rf (N : Nat) (r : Option Nat) : va_rf (r.map (fun i => N + i)) = kw_v N (va_rf r) := by cases r <;> rfl
theorem kw_aald {a n t : Nat} {f : Nat → Option Nat} {j : Int32} (ht : t = 3 ∨ t = 4 ∨ t = 5) (d : decode md.2.1 pc = .ok (.aaload, 1)) (ha : hp[a]? = some (.inl (t, n, .inr (.inr (.inr (.inr f)))))) (hj : vp_in j n) (k : kw_V G md (pc + 1) L (va_rf (f j.toNatClampNeg) :: S) hp Q) : kw_V G md pc L (.int j :: .ref a :: S) hp Q := by
  intro n0 p e s m args below meth c H locs ls hC hn hR hS hl
  have hk := k n0 p e s m args below meth c H locs ls hC hn hR hS hl
  rw [List.map_cons, ← kw_rf] at hk
  have hK := hC.2.2.2.2.2.2.2.2.1.1
  have hlt : j.toNatClampNeg < n := Nat.not_le.mp fun q => hj (Or.inr q)
  obtain ⟨ty, hty, hrf⟩ : ∃ ty, (kw_ty G.2.2.2)[t]? = some (G.2.2.2 t, ty) ∧ ty.isReference = true := by
    rcases ht with rfl | rfl | rfl <;> exact ⟨_, rfl, rfl⟩
  exact W.aald (v := va_rf ((f j.toNatClampNeg).map (fun i => G.2.1 + i))) (ty := ty) hC.1 hC.2.1 (hR.2.2 a _ (kw_w_get ha)) ((hK.2 t _ hty).1 n (fun q => va_rf ((f q).map (fun i => G.2.1 + i)))) hrf (fun q => by cases q) (by show ¬ (j < 0 ∨ (arrV _ _ _).slots.size ≤ _); rw [arrV_size]; exact hj) (arrV_read (G.2.2.2 t) (fun q => va_rf ((f q).map (fun i => G.2.1 + i))) hlt) rfl rfl d hk
theorem kw_iast {a n : Nat} {f : Nat → Int32} {j x : Int32} (d : decode md.2.1 pc = .ok (.iastore, 1)) (ha : hp[a]? = some (.inl (0, n, .inl f))) (hj : vp_in j n) (k : kw_V G md (pc + 1) L S (hp.set a (.inl (0, n, .inl (upd f j.toNatClampNeg x)))) Q) : kw_V G md pc L (.int x :: .int j :: .ref a :: S) hp Q := by
  intro n0 p e s m args below meth c H locs ls hC hn hR hS hl
  refine va_iast hC.1 hC.2.1 hC.2.2.2.2.2.2.2.2.1.1 hR.2.2 (kw_w_D _ _ _) hS a 0 (kw_w_get ha) rfl hj d (fun H1 locs1 hP1 hD1 hS1 => ?_)
  exact kw_step k hC hn hR (by simp) (kw_pos ha) (by rw [kw_w_set]; exact hP1) hS1 hl
theorem kw_last {a n : Nat} {f : Nat → Int64} {j : Int32} {x : Int64} (d : decode md.2.1 pc = .ok (.lastore, 1)) (ha : hp[a]? = some (.inl (1, n, .inr (.inl f)))) (hj : vp_in j n) (k : kw_V G md (pc + 1) L S (hp.set a (.inl (1, n, .inr (.inl (vp_updL f j.toNatClampNeg x))))) Q) : kw_V G md pc L (.long x :: .int j :: .ref a :: S) hp Q := by
  intro n0 p e s m args below meth c H locs ls hC hn hR hS hl
  refine va_last hC.1 hC.2.1 hC.2.2.2.2.2.2.2.2.1.1 hR.2.2 (kw_w_D _ _ _) hS a 1 (kw_w_get ha) rfl hj d (fun H1 locs1 hP1 hD1 hS1 => ?_)
  exact kw_step k hC hn hR (by simp) (kw_pos ha) (by rw [kw_w_set]; exact hP1) hS1 hl
theorem kw_zast {a n : Nat} {f : Nat → Int32} {j x : Int32} (hx : x = 0 ∨ x = 1) (d : decode md.2.1 pc = .ok (.bastore, 1)) (ha : hp[a]? = some (.inl (2, n, .inl f))) (hj : vp_in j n) (k : kw_V G md (pc + 1) L S (hp.set a (.inl (2, n, .inl (upd f j.toNatClampNeg x)))) Q) : kw_V G md pc L (.int x :: .int j :: .ref a :: S) hp Q := by
  intro n0 p e s m args below meth c H locs ls hC hn hR hS hl
  refine va_zast (x := x) hC.1 hC.2.1 hC.2.2.2.2.2.2.2.2.1.1 hR.2.2 (kw_w_D _ _ _) hS a 2 (kw_w_get ha) rfl hj d (fun H1 locs1 hP1 hD1 hS1 => ?_)
  have e1 : vp_nar .boolean x = x := by rcases hx with rfl | rfl <;> rfl
  rw [e1] at hP1
  exact kw_step k hC hn hR (by simp) (kw_pos ha) (by rw [kw_w_set]; exact hP1) hS1 hl
end KwHeap
