/-! ===== the judgement kw_V: the machine stands in the method md at pc, over the heap hp, and comes to an end with Q ===== -/
abbrev kw_G : Type := Launch × Nat × va_G × (Nat → ClassId)
/-- a method: its name, its code, its locals, what it returns, the frames and the locals' words that its callees want -/
abbrev kw_M : Type := MethodName × ByteArray × Nat × Option FieldType × Nat × Nat
def kw_ty (C : Nat → ClassId) : List (ClassId × FieldType) := [(C 0, .int), (C 1, .long), (C 2, .boolean), (C 3, .object "KitchenWheels$Turner"), (C 4, .object "KitchenWheels$Kitchen"), (C 5, .array .int)]
def kw_isN : Cond → Bool
  | .methodLinkNest .. | .declares .. | .castable .. | .arrayOver (.object _) | .arrayOver (.array _) => true
  | _ => false
def kw_T : List Cond := lw_tbl.filter goodWord
def kw_kinds : List String := ["KitchenWheels$One", "KitchenWheels$Step", "KitchenWheels$Both", "KitchenWheels$Law", "KitchenWheels$Righter"]
def kw_Nc : List (String × String) := [("KitchenWheels$One", "KitchenWheels$Step"), ("KitchenWheels$One", "KitchenWheels$Both"), ("KitchenWheels$One", "KitchenWheels$Law"), ("KitchenWheels$One", "KitchenWheels$Righter"), ("KitchenWheels$Step", "KitchenWheels$Both"), ("KitchenWheels$Step", "KitchenWheels$Law"), ("KitchenWheels$Step", "KitchenWheels$Righter"), ("KitchenWheels$Both", "KitchenWheels$Step"), ("KitchenWheels$Both", "KitchenWheels$Law"), ("KitchenWheels$Both", "KitchenWheels$Righter"), ("KitchenWheels$Law", "KitchenWheels$One"), ("KitchenWheels$Law", "KitchenWheels$Step"), ("KitchenWheels$Law", "KitchenWheels$Both"), ("KitchenWheels$Law", "KitchenWheels$Righter"), ("KitchenWheels$Righter", "KitchenWheels$One"), ("KitchenWheels$Righter", "KitchenWheels$Step"), ("KitchenWheels$Righter", "KitchenWheels$Both")]
def kw_Z (G : kw_G) (U : State) : Prop := va_K G.2.2.1 vwCl (kw_ty G.2.2.2) U ∧ (∀ w ∈ lw_tbl, kw_isN w = true → w.before #[] U = true) ∧ (∀ q ∈ kw_Nc, va_Nc q.1 q.2 U)
theorem kw_N_moved {w : Cond} {s U : State} (hw : kw_isN w = true) (hW : s.WarmedH U.vm) (h : w.before #[] s = true) : w.before #[] U = true := by
  match w, hw, h with
  | .methodLinkNest a i x y, _, h => exact va_Nw.warmM hW h
  | .declares x, _, h => exact va_Nw.warmD hW h
  | .castable a b, _, h => exact va_Nw.warmC hW h
  | .arrayOver (.object C), _, h => exact va_AO.moved hW.alike h
  | .arrayOver (.array t), _, h => exact Stand.arrayOver_alikeB hW.alike h
theorem kw_Z_moved {G : kw_G} {s U : State} (hW : s.WarmedH U.vm) (h : kw_Z G s) : kw_Z G U :=
  ⟨va_K.moved hW.alike h.1, fun w hw hn => kw_N_moved hn hW (h.2.1 w hw hn), fun q hq => va_Nc.moved hW.alike (h.2.2 q hq)⟩
theorem kw_Z_same {G : kw_G} {s U : State} (hv : s.vm = U.vm) (h : kw_Z G s) : kw_Z G U := by
  have ha : s.vm.Alike U.vm := by rw [hv]; exact Vm.Alike.refl _
  refine ⟨va_K.moved ha h.1, fun w hw hn => ?_, fun q hq => va_Nc.moved ha (h.2.2 q hq)⟩
  have h1 := h.2.1 w hw hn
  match w, hn, h1 with
  | .methodLinkNest a i x y, _, h => exact va_tabs rfl hv h
  | .declares x, _, h => exact va_tabs rfl hv h
  | .castable a b, _, h => exact va_tabs rfl hv h
  | .arrayOver (.object C), _, h => exact va_AO.moved ha h
  | .arrayOver (.array t), _, h => exact Stand.arrayOver_alikeB ha h
def kw_rm (md : kw_M) (n : Nat) : Room := { frames := md.2.2.2.2.1, cells := 3900 - n, slots := 1848 * (3900 - n), locals := md.2.2.2.2.2 }
def kw_ws (md : kw_M) : List Cond := .code md.1 md.2.1 md.2.2.1 md.2.2.2.1 :: kw_T
def kw_R (G : kw_G) (hp : kw_H) (H : Heap) : Prop := H.size = G.2.1 + hp.length ∧ hp.length ≤ 3900 ∧ va_P G.2.2.1 vwCl (kw_w G.2.1 G.2.2.2 hp) H
def kw_Q (G : kw_G) (Q : Option Value → kw_H → Prop) : Array Value → State → Outcome → State → Prop := fun _ st o t =>
  ∃ (r : Option Value) (hp : kw_H), o = .returned (r.map (kw_v G.2.1)) ∧ Q r hp ∧ kw_R G hp t.heap ∧ va_F (fun q => G.2.1 ≤ q) st t ∧ kw_SP st.heap t.heap ∧ ((kw_sz t.heap).drop st.heap.size).sum ≤ 1848 * (t.heap.size - st.heap.size)
/-- the contract of a call: from every state that holds hp, with the arguments As: it returns, with Q -/
def kw_Met (G : kw_G) (md : kw_M) (As : List Value) (hp : kw_H) (Q : Option Value → kw_H → Prop) : Prop :=
  Met G.1 md.1 (kw_ws md) (kw_rm md hp.length) (va_Pc (As.map (kw_v G.2.1)) (fun U => kw_Z G U ∧ kw_R G hp U.heap)) (kw_Q G Q) (3900 - hp.length) (1848 * (3900 - hp.length)) (fun q => G.2.1 ≤ q)
/-- what stands all through a method's body -/
def kw_C (G : kw_G) (md : kw_M) (n0 : Nat) (p : Program) (s : State) (m : MethodId) (args : Array Value) (meth : Method) (c : Code) : Prop :=
  p.tables.exec = Jvm.exec ∧ c.code = md.2.1 ∧ c.maxLocals = md.2.2.1 ∧ meth.sig.returnType = md.2.2.2.1 ∧ meth.locks = false ∧ meth.name = md.1.name ∧ s.vm.findClass md.1.cls = some m.cls ∧ (∀ w ∈ kw_T, w.before args s = true) ∧ kw_Z G s ∧ s.heap.size = G.2.1 + n0
/-- the locals: a place a local; none: nothing is known of it -/
def kw_pr (N : Nat) : Nat → List (Option Value) → List (Nat × Value)
  | _, [] => []
  | i, none :: l => kw_pr N (i + 1) l
  | i, some v :: l => (i, kw_v N v) :: kw_pr N (i + 1) l
def kw_V (G : kw_G) (md : kw_M) (pc : Nat) (L : List (Option Value)) (S : List Value) (hp : kw_H) (Q : Option Value → kw_H → Prop) : Prop :=
  ∀ (n0 : Nat) (p : Program) (e : Env) (s : State) (m : MethodId) (args : Array Value) (below : List Frame) (meth : Method) (c : Code) (H : Heap) (locs : List Loc) (ls : Array Slot),
    kw_C G md n0 p s m args meth c → n0 ≤ hp.length → kw_R G hp H → va_S (fun q => G.2.1 ≤ q) s.heap H locs → lv_has ls md.2.2.1 (kw_pr G.2.1 0 L) →
    W p G.1 e (kw_rm md n0) s m args below meth c H locs (H.size - s.heap.size) (1848 * (H.size - s.heap.size)) (MQ below (kw_Q G Q) args s (3900 - n0) (1848 * (3900 - n0)) (fun q => G.2.1 ≤ q)) (F0 m pc ls (S.map (kw_v G.2.1)))
theorem kw_pr_mem {N : Nat} : ∀ {i : Nat} {L : List (Option Value)} {q : Nat × Value}, q ∈ kw_pr N i L ↔ ∃ (j : Nat) (v : Value), L[j]? = some (some v) ∧ q = (i + j, kw_v N v)
  | i, [], q => by simp [kw_pr]
  | i, none :: l, q => by
    rw [kw_pr, kw_pr_mem]
    constructor
    · rintro ⟨j, v, h1, h2⟩
      exact ⟨j + 1, v, by simpa using h1, by rw [h2]; congr 1; omega⟩
    · rintro ⟨j, v, h1, h2⟩
      cases j with
      | zero => simp at h1
      | succ j => exact ⟨j, v, by simpa using h1, by rw [h2]; congr 1; omega⟩
  | i, some v :: l, q => by
    rw [kw_pr, List.mem_cons, kw_pr_mem]
    constructor
    · rintro (h | ⟨j, v, h1, h2⟩)
      · exact ⟨0, v, rfl, h⟩
      · exact ⟨j + 1, v, by simpa using h1, by rw [h2]; congr 1; omega⟩
    · rintro ⟨j, w, h1, h2⟩
      cases j with
      | zero =>
        simp at h1
        subst h1
        exact Or.inl h2
      | succ j => exact Or.inr ⟨j, w, by simpa using h1, by rw [h2]; congr 1; omega⟩
theorem kw_lat {N nL i : Nat} {ls : Array Slot} {L : List (Option Value)} {v : Value} (h : lv_has ls nL (kw_pr N 0 L)) (hi : L[i]? = some (some v)) : ls[i]? = some (.val (kw_v N v)) :=
  h.2.2 (i, kw_v N v) (kw_pr_mem.mpr ⟨i, v, hi, by simp⟩)
theorem kw_lsub {N nL : Nat} {ls : Array Slot} {L L' : List (Option Value)} (h : lv_has ls nL (kw_pr N 0 L)) (hs : ∀ (i : Nat) (v : Value), L'[i]? = some (some v) → L[i]? = some (some v)) : lv_has ls nL (kw_pr N 0 L') := by
  refine ⟨h.1, h.2.1, fun q hq => ?_⟩
  obtain ⟨j, v, h1, h2⟩ := kw_pr_mem.mp hq
  exact h.2.2 q (kw_pr_mem.mpr ⟨j, v, hs j v h1, h2⟩)
theorem kw_v_cat (N : Nat) (v : Value) : (kw_v N v).category = v.category := by cases v <;> rfl
/-- a store into local i -/
def kw_kill (L : List (Option Value)) (i : Nat) : List (Option Value) := match i with
  | 0 => L
  | j + 1 => match L[j]? with
    | some (some w) => if w.category = 2 then L.set j none else L
    | _ => L
def kw_st (L : List (Option Value)) (i : Nat) (v : Value) : List (Option Value) := (kw_kill L i).set i (some v)
def kw_st2 (L : List (Option Value)) (i : Nat) (v : Value) : List (Option Value) := ((kw_kill L i).set i (some v)).set (i + 1) none
theorem kw_kill_at {L : List (Option Value)} {i j : Nat} {w : Value} (h : (kw_kill L i)[j]? = some (some w)) : L[j]? = some (some w) ∧ ¬ (j + 1 = i ∧ w.category = 2) := by
  unfold kw_kill at h
  split at h
  · exact ⟨h, by omega⟩
  · rename_i k
    split at h
    · rename_i w2 hw2
      split at h
      · rename_i h2
        rw [List.getElem?_set] at h
        by_cases e : k = j
        · subst e
          simp at h
        · simp [e] at h
          exact ⟨h, by omega⟩
      · rename_i h2
        refine ⟨h, fun ⟨a, b⟩ => ?_⟩
        have : j = k := by omega
        subst this
        rw [h] at hw2
        cases hw2
        exact h2 b
    · rename_i hne
      refine ⟨h, fun ⟨a, b⟩ => ?_⟩
      have : j = k := by omega
      subst this
      exact hne w h
theorem kw_lst {N nL i : Nat} {ls : Array Slot} {L : List (Option Value)} {v : Value} {lv' : List (Nat × Value)} (hl : (i, kw_v N v) :: (kw_pr N 0 L).filter (fun q => !(q.1 == i) && !(q.1 + 1 == i && q.2.category == 2)) = lv') (h : lv_has ls nL lv') : lv_has ls nL (kw_pr N 0 (kw_st L i v)) := by
  refine ⟨h.1, h.2.1, fun q hq => h.2.2 q ?_⟩
  rw [← hl]
  obtain ⟨j, w, h1, h2⟩ := kw_pr_mem.mp hq
  unfold kw_st at h1
  rw [List.getElem?_set] at h1
  by_cases e : i = j
  · subst e
    by_cases hlt : i < (kw_kill L i).length
    · simp [hlt] at h1
      subst h1
      rw [h2]
      simp
    · simp [hlt] at h1
  · simp [e] at h1
    obtain ⟨g1, g2⟩ := kw_kill_at h1
    refine List.mem_cons_of_mem _ (List.mem_filter.mpr ⟨kw_pr_mem.mpr ⟨j, w, g1, h2⟩, ?_⟩)
    rw [h2]
    simp only [Nat.zero_add, kw_v_cat]
    have e1 : (j == i) = false := by simp; omega
    rw [e1]
    by_cases e2 : j + 1 = i
    · have : ¬ w.category = 2 := fun z => g2 ⟨e2, z⟩
      simp [e2, this]
    · simp [e2]
theorem kw_lst2 {N nL i : Nat} {ls : Array Slot} {L : List (Option Value)} {v : Value} {lv' : List (Nat × Value)} (hl : (i, kw_v N v) :: (kw_pr N 0 L).filter (fun q => !(q.1 == i) && (!(q.1 == i + 1) && !(q.1 + 1 == i && q.2.category == 2))) = lv') (h : lv_has ls nL lv') : lv_has ls nL (kw_pr N 0 (kw_st2 L i v)) := by
  refine ⟨h.1, h.2.1, fun q hq => h.2.2 q ?_⟩
  rw [← hl]
  obtain ⟨j, w, h1, h2⟩ := kw_pr_mem.mp hq
  unfold kw_st2 at h1
  rw [List.getElem?_set] at h1
  by_cases e0 : i + 1 = j
  · subst e0
    by_cases hlt : i + 1 < ((kw_kill L i).set i (some v)).length <;> simp [hlt] at h1
  · simp only [e0, if_false] at h1
    rw [List.getElem?_set] at h1
    by_cases e : i = j
    · subst e
      by_cases hlt : i < (kw_kill L i).length
      · simp [hlt] at h1
        subst h1
        rw [h2]
        simp
      · simp [hlt] at h1
    · simp [e] at h1
      obtain ⟨g1, g2⟩ := kw_kill_at h1
      refine List.mem_cons_of_mem _ (List.mem_filter.mpr ⟨kw_pr_mem.mpr ⟨j, w, g1, h2⟩, ?_⟩)
      rw [h2]
      simp only [Nat.zero_add, kw_v_cat]
      have e1 : (j == i) = false := by simp; omega
      have e3 : (j == i + 1) = false := by simp; omega
      rw [e1, e3]
      by_cases e2 : j + 1 = i
      · have : ¬ w.category = 2 := fun z => g2 ⟨e2, z⟩
        simp [e2, this]
      · simp [e2]
