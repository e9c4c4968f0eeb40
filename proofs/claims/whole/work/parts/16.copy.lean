/-! ===== System.arraycopy, new int[n][m] ===== -/
section KwCopy
variable {G : kw_G} {md : kw_M} {pc : Nat} {L : List (Option Value)} {S : List Value} {hp : kw_H} {Q : Option Value → kw_H → Prop}
theorem kw_copyi {i a b n1 n2 : Nat} {f g : Nat → Int32} {sp dp n : Int32} (hl : Cond.methodLink md.1.cls i arraycopyName ∈ kw_T) (hnat : Cond.native arraycopyName ∈ kw_T) (hst : Cond.static arraycopyName ∈ kw_T) (hini : Cond.initialized "java/lang/System" ∈ kw_T) (hf : 1 ≤ md.2.2.2.2.1) (hlo : 60 ≤ md.2.2.2.2.2) (hr : (S.map fun v => v.category).sum ≤ 8) (d : decode md.2.1 pc = .ok (.invokestatic i, 3)) (ha : hp[a]? = some (.inl (0, n1, .inl f))) (hb : hp[b]? = some (.inl (0, n2, .inl g))) (h1 : ¬ sp < 0) (h2 : ¬ dp < 0) (h3 : ¬ n < 0) (h4 : sp.toNatClampNeg + n.toNatClampNeg ≤ n1) (h5 : dp.toNatClampNeg + n.toNatClampNeg ≤ n2) (k : kw_V G md (pc + 3) L S (hp.set b (.inl (0, n2, .inl (va_cpy f g sp.toNatClampNeg dp.toNatClampNeg n.toNatClampNeg)))) Q) : kw_V G md pc L (.int n :: .int dp :: .ref b :: .int sp :: .ref a :: S) hp Q := by
  intro n0 p e s m args below meth c H locs ls hC hn hR hS hl'
  have hts := hC.2.2.2.2.2.2.2.1
  refine va_copyi hC.1 hC.2.1 (by rw [hC.2.2.1]; exact hl'.1.symm) hC.2.2.2.2.2.2.1 (hts _ hl) (hts _ hnat) (hts _ hst) (hts _ hini) hC.2.2.2.2.2.2.2.2.1.1 hR.2.2 (kw_w_D _ _ _) hS a b 0 0 (kw_w_get ha) (kw_w_get hb) rfl rfl rfl h1 h2 h3 h4 h5 (fun _ _ => rfl) hf ?_ d (fun H1 locs1 hP1 hD1 hS1 => ?_)
  · have h9 := kw_roomS (G := G) hr
    have h10 : nativeFrameWords "java/lang/System" "arraycopy" 5 + 11 ≤ 52 := by decide +kernel
    show _ ≤ md.2.2.2.2.2
    omega
  · exact kw_step k hC hn hR (by simp) (kw_pos hb) (by rw [kw_w_set]; exact hP1) hS1 hl'
theorem kw_copyl {i a b n1 n2 : Nat} {f g : Nat → Int64} {sp dp n : Int32} (hl : Cond.methodLink md.1.cls i arraycopyName ∈ kw_T) (hnat : Cond.native arraycopyName ∈ kw_T) (hst : Cond.static arraycopyName ∈ kw_T) (hini : Cond.initialized "java/lang/System" ∈ kw_T) (hf : 1 ≤ md.2.2.2.2.1) (hlo : 60 ≤ md.2.2.2.2.2) (hr : (S.map fun v => v.category).sum ≤ 8) (d : decode md.2.1 pc = .ok (.invokestatic i, 3)) (ha : hp[a]? = some (.inl (1, n1, .inr (.inl f)))) (hb : hp[b]? = some (.inl (1, n2, .inr (.inl g)))) (h1 : ¬ sp < 0) (h2 : ¬ dp < 0) (h3 : ¬ n < 0) (h4 : sp.toNatClampNeg + n.toNatClampNeg ≤ n1) (h5 : dp.toNatClampNeg + n.toNatClampNeg ≤ n2) (k : kw_V G md (pc + 3) L S (hp.set b (.inl (1, n2, .inr (.inl (va_cpy f g sp.toNatClampNeg dp.toNatClampNeg n.toNatClampNeg))))) Q) : kw_V G md pc L (.int n :: .int dp :: .ref b :: .int sp :: .ref a :: S) hp Q := by
  intro n0 p e s m args below meth c H locs ls hC hn hR hS hl'
  have hts := hC.2.2.2.2.2.2.2.1
  refine va_copyl hC.1 hC.2.1 (by rw [hC.2.2.1]; exact hl'.1.symm) hC.2.2.2.2.2.2.1 (hts _ hl) (hts _ hnat) (hts _ hst) (hts _ hini) hC.2.2.2.2.2.2.2.2.1.1 hR.2.2 (kw_w_D _ _ _) hS a b 1 1 (kw_w_get ha) (kw_w_get hb) rfl rfl rfl h1 h2 h3 h4 h5 (fun _ _ => rfl) hf ?_ d (fun H1 locs1 hP1 hD1 hS1 => ?_)
  · have h9 := kw_roomS (G := G) hr
    have h10 : nativeFrameWords "java/lang/System" "arraycopy" 5 + 11 ≤ 52 := by decide +kernel
    show _ ≤ md.2.2.2.2.2
    omega
  · exact kw_step k hC hn hR (by simp) (kw_pos hb) (by rw [kw_w_set]; exact hP1) hS1 hl'
theorem kw_outer (c : ClassId) (N h0 : Nat) : ∀ i : Nat, Jvm.Free.Multi.outerC c N h0 i = arrV c N (fun j => va_rf (if j < i then some (h0 + 1 + j) else none))
  | 0 => by
    show ({ cls := c, slots := Array.replicate N .null, vm := .none } : Cell) = _
    rw [arrV_new]
    refine congrArg (arrV c N) (funext fun j => ?_)
    simp [va_rf]
  | i + 1 => by
    show (Jvm.Free.Multi.outerC c N h0 i).setSlot i (.ref (h0 + 1 + i)) = _
    rw [kw_outer c N h0 i, arrV_store]
    refine congrArg (arrV c N) (funext fun j => ?_)
    by_cases e : j = i
    · subst e
      simp [updV, va_rf]
    · by_cases h : j < i
      · simp [updV, e, h, Nat.lt_succ_of_lt h]
      · simp [updV, e, h, show ¬ j < i + 1 by omega]
/-- new int[n][k]: the outer array, then its rows -/
def kw_mna (h n k : Nat) : kw_H := .inl (5, n, .inr (.inr (.inr (.inr (fun i => if i < n then some (h + 1 + i) else none))))) :: List.replicate n (.inl (0, k, .inl (fun _ => 0)))
theorem kw_multi {i i0 N K : Nat} {n k : Int32} (hw : Cond.classLink md.1.cls i ("[" ++ (FieldType.array .int).toString) ∈ kw_T) (hov : lw_tbl[i0]? = some (.arrayOver (.array .int))) (hac : Cond.arrayClass .int ∈ kw_T) (hn0 : ¬ n < 0) (hk0 : ¬ k < 0) (hN : n.toNatClampNeg = N) (hK0 : k.toNatClampNeg = K) (hb : N ≤ 1000 ∧ K ≤ 1000) (d : decode md.2.1 pc = .ok (.multianewarray i 2, 4)) (hlim : hp.length + (1 + N) ≤ 3900) (kk : kw_V G md (pc + 4) L (.ref hp.length :: S) (hp ++ kw_mna hp.length N K) Q) : kw_V G md pc L (.int k :: .int n :: S) hp Q := by
  intro n0 p e s m args below meth c H locs ls hC hn hR hS hl
  subst hN
  subst hK0
  have hts := hC.2.2.2.2.2.2.2.1
  have hK := hC.2.2.2.2.2.2.2.2.1.1
  have hNK : n.toNatClampNeg * k.toNatClampNeg ≤ n.toNatClampNeg * 1000 := Nat.mul_le_mul_left _ hb.2
  have hr := kw_room1 (x := n.toNatClampNeg + n.toNatClampNeg * k.toNatClampNeg) hC hn hR hlim (by omega)
  have hk1 := hR.1
  have hP := hR.2.2
  intro T hT X
  obtain ⟨vm₁, cA, comp, -, fA, fC, -, -, X', step⟩ := X.multianewarray2F hC.1 (ty := .int) hC.2.2.2.2.2.2.1 (hts _ hw) (by have h9 := kw_inN (G := G) i0 hov rfl hC.2.2.2.2.2.2.2.2.1; exact Stand.arrayOver_alikeB (Vm.Alike.refl s.vm) h9) (hts _ hac) (g := F0 m pc ls (.int k :: .int n :: S.map (kw_v G.2.1))) rfl (by rw [hC.2.1]; exact d) rfl hn0 hk0 (by omega) (by show k.toNatClampNeg * 4 ≤ _; omega) (by omega) rfl rfl hr.1 hr.2
  generalize hF : Jvm.Free.Multi.fill (T.setVm vm₁) cA comp n.toNatClampNeg k.toNatClampNeg (defaultValue .int) n.toNatClampNeg = F at X' step
  have hTh : (T.setVm vm₁).heap = H := hT
  obtain ⟨f1, f2, -, -⟩ := Jvm.Free.Multi.fill_facts (T.setVm vm₁) cA comp n.toNatClampNeg k.toNatClampNeg (defaultValue .int) n.toNatClampNeg
  rw [hF, hTh] at f1 f2
  have hold : ∀ x : Nat, x < H.size → F.heap[x]? = H[x]? := fun x hx => by
    have := Jvm.Free.Multi.fill_old (T.setVm vm₁) cA comp n.toNatClampNeg k.toNatClampNeg (defaultValue .int) (a := x) (by rw [hTh]; exact hx) n.toNatClampNeg
    rw [hF, hTh] at this
    exact this
  have hrow : ∀ j : Nat, j < n.toNatClampNeg → F.heap[H.size + 1 + j]? = some (arrV comp k.toNatClampNeg (fun _ => .int 0)) := fun j hj => by
    have := Jvm.Free.Multi.fill_inner (T.setVm vm₁) cA comp n.toNatClampNeg k.toNatClampNeg (defaultValue .int) n.toNatClampNeg j hj
    rw [hF, hTh] at this
    rw [this, ← arrV_new]
    rfl
  have hcA : G.2.2.2 5 = cA := by
    have h1 : s.vm.findClass ("[" ++ (FieldType.array .int).toString) = some (G.2.2.2 5) := (hK.2 5 (G.2.2.2 5, .array .int) rfl).2
    exact Option.some.inj (h1.symm.trans fA)
  have hcI : G.2.2.2 0 = comp := by
    have h1 : s.vm.findClass ("[" ++ FieldType.int.toString) = some (G.2.2.2 0) := (hK.2 0 (G.2.2.2 0, .int) rfl).2
    exact Option.some.inj (h1.symm.trans fC)
  have hP1 : va_P G.2.2.1 vwCl (kw_w G.2.1 G.2.2.2 (hp ++ kw_mna hp.length n.toNatClampNeg k.toNatClampNeg)) F.heap := by
    intro j q hq
    rw [kw_w_at] at hq
    by_cases h1 : j < hp.length
    · rw [List.getElem?_append_left h1, ← kw_w_at] at hq
      exact (hP j q hq).kept (hold q.1 ((hP j q hq).lt))
    · rw [List.getElem?_append_right (by omega)] at hq
      unfold kw_mna at hq
      by_cases h2 : j = hp.length
      · subst h2
        rw [Nat.sub_self, List.getElem?_cons_zero] at hq
        cases hq
        show F.heap[G.2.1 + hp.length]? = some (vp_cell (G.2.2.2 5) (n.toNatClampNeg, _))
        rw [← hk1, f2, kw_outer, hcA]
        congr 1
        show arrV cA n.toNatClampNeg (fun j => va_rf (if j < n.toNatClampNeg then some (H.size + 1 + j) else none)) = arrV cA n.toNatClampNeg (fun q => va_rf (((fun i => if i < n.toNatClampNeg then some (hp.length + 1 + i) else none) q).map (fun i => G.2.1 + i)))
        refine congrArg (arrV cA n.toNatClampNeg) (funext fun q => ?_)
        by_cases h3 : q < n.toNatClampNeg
        · have e7 : H.size + 1 + q = G.2.1 + (hp.length + 1 + q) := by omega
          simp only [h3, if_true, Option.map_some, e7]
        · simp [h3]
      · obtain ⟨j', hj'⟩ : ∃ j', j - hp.length = j' + 1 := ⟨j - hp.length - 1, by omega⟩
        rw [hj', List.getElem?_cons_succ, List.getElem?_replicate] at hq
        by_cases h3 : j' < n.toNatClampNeg
        · rw [if_pos h3] at hq
          cases hq
          show F.heap[G.2.1 + j]? = some (vp_cell (G.2.2.2 0) (k.toNatClampNeg, _))
          have e9 : G.2.1 + j = H.size + 1 + j' := by omega
          rw [e9, hrow j' h3, hcI]
          rfl
        · rw [if_neg h3] at hq
          cases hq
  have e8 : (hp ++ kw_mna hp.length n.toNatClampNeg k.toNatClampNeg).length = hp.length + (1 + n.toNatClampNeg) := by
    simp [kw_mna]
    omega
  have := kw_push (d := 1 + n.toNatClampNeg) kk hC hn hR hS hl e8 hlim (by rw [f1]; omega) hold hP1 (cells := H.size - s.heap.size + 1 + n.toNatClampNeg) (slots := 1848 * (H.size - s.heap.size) + n.toNatClampNeg + n.toNatClampNeg * k.toNatClampNeg) (e := e) (below := below) (by omega) (by omega)
  obtain ⟨t, a1, b1⟩ := this F rfl X'
  refine ⟨t, step t ?_, b1⟩
  show Steps p.tables e below (F.setTop { method := m, pc := pc + 4, locals := ls, stack := .ref T.heap.size :: S.map (kw_v G.2.1), locked := none }) t
  rw [hT, hk1]
  exact a1
end KwCopy
