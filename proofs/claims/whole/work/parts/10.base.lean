/-! ===== the heap of this system as a list of cells: cell i lies at the address N + i; references are places of the list ===== -/
abbrev kw_E : Type := (Nat × vp_A) ⊕ (Nat × List Value)
abbrev kw_H : Type := List kw_E
def kw_v (N : Nat) (v : Value) : Value := match v with
  | .ref i => .ref (N + i)
  | w => w
def kw_a (N : Nat) (a : vp_A) : vp_A := (a.1, match a.2 with
  | .inr (.inr (.inr (.inr f))) => .inr (.inr (.inr (.inr (fun k => (f k).map (fun i => N + i)))))
  | w => w)
def kw_e (N : Nat) (C : Nat → ClassId) (c : kw_E) : va_E := match c with
  | .inl (t, a) => .inl (C t, kw_a N a)
  | .inr (ci, fs) => .inr (ci, fs.map (kw_v N))
def kw_w (N : Nat) (C : Nat → ClassId) (hp : kw_H) : va_W := hp.mapIdx (fun i c => (N + i, kw_e N C c))
theorem kw_w_at (N : Nat) (C : Nat → ClassId) (hp : kw_H) (i : Nat) : (kw_w N C hp)[i]? = (hp[i]?).map (fun c => (N + i, kw_e N C c)) := by
  unfold kw_w
  rw [List.getElem?_mapIdx]
theorem kw_w_get {N : Nat} {C : Nat → ClassId} {hp : kw_H} {i : Nat} {c : kw_E} (h : hp[i]? = some c) : (kw_w N C hp)[i]? = some (N + i, kw_e N C c) := by
  rw [kw_w_at, h]; rfl
theorem kw_w_len (N : Nat) (C : Nat → ClassId) (hp : kw_H) : (kw_w N C hp).length = hp.length := by
  unfold kw_w
  rw [List.length_mapIdx]
theorem kw_w_set (N : Nat) (C : Nat → ClassId) (hp : kw_H) (i : Nat) (c : kw_E) : kw_w N C (hp.set i c) = (kw_w N C hp).set i (N + i, kw_e N C c) := by
  apply List.ext_getElem?
  intro j
  rw [kw_w_at, List.getElem?_set, List.getElem?_set, kw_w_len, kw_w_at]
  by_cases h : i = j
  · subst h
    by_cases hl : i < hp.length <;> simp [hl]
  · simp [h]
theorem kw_w_push (N : Nat) (C : Nat → ClassId) (hp : kw_H) (c : kw_E) : kw_w N C (hp ++ [c]) = kw_w N C hp ++ [(N + hp.length, kw_e N C c)] := by
  unfold kw_w
  rw [List.mapIdx_append]
  simp
theorem kw_w_in {N : Nat} {C : Nat → ClassId} {hp : kw_H} {k : Nat} {q : Nat × va_E} (h : (kw_w N C hp)[k]? = some q) : q.1 = N + k ∧ k < hp.length := by
  rw [kw_w_at] at h
  cases hc : hp[k]? with
  | none => rw [hc] at h; cases h
  | some c =>
    rw [hc] at h
    cases h
    exact ⟨rfl, (List.getElem?_eq_some_iff.mp hc).1⟩
theorem kw_w_D (N : Nat) (C : Nat → ClassId) (hp : kw_H) : va_D (fun q => N ≤ q) (kw_w N C hp) := by
  refine ⟨fun i j p q hi hj hpq => ?_, fun k q hk => ?_⟩
  · have h1 := (kw_w_in hi).1
    have h2 := (kw_w_in hj).1
    omega
  · rw [(kw_w_in hk).1]
    exact Nat.le_add_right _ _
/-! what a walk knows of the heap's growth, by the frame's own record -/
section KwKnow
variable {p : Program} {l : Launch} {e : Env} {R : Room} {s : State} {m : MethodId} {args : Array Value} {below : List Frame} {meth : Method} {c : Code} {H : Heap} {locs : List Loc} {cells slots : Nat} {Q : State → Prop} {g : JFrame}
def kw_sz (H : Heap) : List Nat := H.toList.map (fun c : Cell => c.slots.size)
def kw_SP (H0 H : Heap) : Prop := H0.size ≤ H.size ∧ (kw_sz H).take H0.size = kw_sz H0
theorem kw_sz_len (H : Heap) : (kw_sz H).length = H.size := by simp [kw_sz]
theorem kw_SP_of {H0 H : Heap} (h0 : H0.size ≤ H.size) (h : ∀ (a : Nat) (c : Cell), H0[a]? = some c → ∃ c' : Cell, H[a]? = some c' ∧ c'.slots.size = c.slots.size) : kw_SP H0 H := by
  refine ⟨h0, List.ext_getElem? fun i => ?_⟩
  by_cases hi : i < H0.size
  · rw [List.getElem?_take_of_lt hi]
    have hc : H0[i]? = some H0[i] := Array.getElem?_eq_getElem hi
    obtain ⟨c', h1, h2⟩ := h i _ hc
    simp only [kw_sz, List.getElem?_map, Array.getElem?_toList, h1, hc, Option.map_some, h2]
  · rw [List.getElem?_eq_none (by rw [List.length_take, kw_sz_len]; omega), List.getElem?_eq_none (by rw [kw_sz_len]; omega)]
theorem kw_know (k : kw_SP s.heap H → H.size ≤ s.heap.size + cells → ((kw_sz H).drop s.heap.size).sum ≤ slots → W p l e R s m args below meth c H locs cells slots Q g) : W p l e R s m args below meth c H locs cells slots Q g := by
  intro T hT X
  have h := X.same
  have hh : (T.setVm s.vm).heap = H := hT
  obtain ⟨-, h2, h3, -, h5, h6⟩ := h
  rw [hh] at h2 h3 h5
  have h7 : ∀ (a : Nat) (c : Cell), s.heap[a]? = some c → ∃ c' : Cell, H[a]? = some c' ∧ c'.slots.size = c.slots.size := fun a c hc => by
    obtain ⟨c', g1, -, g3, -⟩ := h6 a c hc
    rw [hh] at g1
    exact ⟨c', g1, g3⟩
  refine k (kw_SP_of h2 h7) h3 ?_ T hT X
  have e1 : (kw_sz H).drop s.heap.size = (H.toList.drop s.heap.size).map (fun c : Cell => c.slots.size) := by simp [kw_sz, List.map_drop]
  rw [e1]
  exact h5
theorem kw_tight {cells' slots' : Nat} (hc : H.size ≤ s.heap.size + cells') (hs : ((kw_sz H).drop s.heap.size).sum ≤ slots') (k : W p l e R s m args below meth c H locs cells' slots' Q g) : W p l e R s m args below meth c H locs cells slots Q g := by
  intro T hT X
  refine k T hT { X with same := ?_ }
  have hh : (T.setVm s.vm).heap = H := hT
  obtain ⟨h1, h2, h3, h4, h5, h6⟩ := X.same
  have e1 : (kw_sz H).drop s.heap.size = (H.toList.drop s.heap.size).map (fun c : Cell => c.slots.size) := by simp [kw_sz, List.map_drop]
  refine ⟨h1, h2, ?_, h4, ?_, h6⟩
  · rw [hh]; exact hc
  · rw [hh, ← e1]; exact hs
theorem kw_sum_join {H0 H1 H2 : Heap} {a b : Nat} (h1 : H0.size ≤ H1.size) (h2 : kw_SP H1 H2) (ha : ((kw_sz H1).drop H0.size).sum ≤ a) (hb : ((kw_sz H2).drop H1.size).sum ≤ b) : ((kw_sz H2).drop H0.size).sum ≤ a + b := by
  have e : (kw_sz H2) = kw_sz H1 ++ (kw_sz H2).drop H1.size := by
    conv => lhs; rw [← List.take_append_drop H1.size (kw_sz H2)]
    rw [h2.2]
  rw [e, List.drop_append_of_le_length (by rw [kw_sz_len]; exact h1), List.sum_append]
  omega
theorem kw_SP_rf (H : Heap) : kw_SP H H := ⟨Nat.le_refl _, by rw [List.take_of_length_le (by rw [kw_sz_len]; exact Nat.le_refl _)]⟩
end KwKnow
