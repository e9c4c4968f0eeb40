/-! ===== makings, and references that may be null ===== -/
def kp_nu {α : Type} (o : Option Nat) (A : Option α) (B : Nat → Option α) : Option α := match o with
  | none => A
  | some b => B b
def kp_spl {α β γ : Type} (p : α × β) (f : α → β → γ) : γ := f p.1 p.2
def kp_ob (hp : kw_H) (a ci : Nat) : Option Unit := match hp[a]? with
  | some (.inr (c, _)) => if c = ci then some () else none
  | _ => none
theorem kp_ob_inv {hp : kw_H} {a ci : Nat} {u : Unit} (h : kp_ob hp a ci = some u) : ∃ fs, hp[a]? = some (.inr (ci, fs)) := by
  unfold kp_ob at h
  split at h
  · rename_i c fs h1
    split at h
    · rename_i h2
      subst h2
      exact ⟨fs, h1⟩
    · cases h
  · cases h
section KvMake
variable {G : kw_G} {md : kw_M} {pc : Nat} {L : List (Option Value)} {S : List Value} {hp hp' : kw_H} {Q : Option Value → kw_H → Prop}
theorem kv_new {i ci N : Nat} {C : String} {T : u_T} {tyF : Nat → FieldType} {fs : List Value} (hcl : kw_cls ci C T N) (hty : ∀ k, k < N → parseFieldDescriptor (T k).2.2.1 = some (tyF k)) (hN : N ≤ 1848) (hfs : ∀ G : kw_G, ∀ j, j < N → defaultValue (tyF j) = vp_V (fs.map (kw_v G.2.1)) j) (hw1 : Cond.classLink md.1.cls i C ∈ kw_T) (hw2 : Cond.instantiable C N ∈ kw_T) (hw3 : Cond.initialized C ∈ kw_T) (d : decode md.2.1 pc = .ok (.new i, 3)) (h : kp_al hp [.inr (ci, fs)] = some hp') (k : kw_V G md (pc + 3) L (.ref (List.length hp) :: S) hp' Q) : kw_V G md pc L S hp Q := by
  obtain ⟨h1, rfl⟩ := kp_al_inv h
  exact kw_new hcl hty hN hfs hw1 hw2 hw3 d h1 k
theorem kv_newa_int {N : Nat} {n : Int32} (hw : Cond.arrayClass .int ∈ kw_T) (hn0 : ¬ n < 0) (hN : n.toNatClampNeg = N) (hNb : N ≤ 1848) (d : decode md.2.1 pc = .ok (.newarray .int, 2)) (h : kp_al hp [.inl (0, N, .inl (fun _ => 0))] = some hp') (k : kw_V G md (pc + 2) L (.ref (List.length hp) :: S) hp' Q) : kw_V G md pc L (.int n :: S) hp Q := by
  obtain ⟨h1, rfl⟩ := kp_al_inv h
  exact kw_newa (at0 := .int) (t := 0) (N := N) (a0 := (N, .inl (fun _ => 0))) (fun _ => rfl) (fun _ _ => rfl) (fun _ _ => rfl) hw hn0 hN hNb (by show N * 4 ≤ _; omega) d h1 k
theorem kv_newa_long {N : Nat} {n : Int32} (hw : Cond.arrayClass .long ∈ kw_T) (hn0 : ¬ n < 0) (hN : n.toNatClampNeg = N) (hNb : N ≤ 1848) (d : decode md.2.1 pc = .ok (.newarray .long, 2)) (h : kp_al hp [.inl (1, N, .inr (.inl (fun _ => 0)))] = some hp') (k : kw_V G md (pc + 2) L (.ref (List.length hp) :: S) hp' Q) : kw_V G md pc L (.int n :: S) hp Q := by
  obtain ⟨h1, rfl⟩ := kp_al_inv h
  exact kw_newa (at0 := .long) (t := 1) (N := N) (a0 := (N, .inr (.inl (fun _ => 0)))) (fun _ => rfl) (fun _ _ => rfl) (fun _ _ => rfl) hw hn0 hN hNb (by show N * 8 ≤ _; omega) d h1 k
theorem kv_newa_boolean {N : Nat} {n : Int32} (hw : Cond.arrayClass .boolean ∈ kw_T) (hn0 : ¬ n < 0) (hN : n.toNatClampNeg = N) (hNb : N ≤ 1848) (d : decode md.2.1 pc = .ok (.newarray .boolean, 2)) (h : kp_al hp [.inl (2, N, .inl (fun _ => 0))] = some hp') (k : kw_V G md (pc + 2) L (.ref (List.length hp) :: S) hp' Q) : kw_V G md pc L (.int n :: S) hp Q := by
  obtain ⟨h1, rfl⟩ := kp_al_inv h
  exact kw_newa (at0 := .boolean) (t := 2) (N := N) (a0 := (N, .inl (fun _ => 0))) (fun _ => rfl) (fun _ _ => rfl) (fun _ _ => rfl) hw hn0 hN hNb (by show N * 1 ≤ _; omega) d h1 k
theorem kv_anew {t N i i0 : Nat} {E : String} {n : Int32} (ht : ∀ D : Nat → ClassId, (kw_ty D)[t]? = some (D t, .object E)) (hw : Cond.classLink md.1.cls i E ∈ kw_T) (hov : lw_tbl[i0]? = some (.arrayOver (.object E))) (hn0 : ¬ n < 0) (hN : n.toNatClampNeg = N) (hNb : N ≤ 1848) (d : decode md.2.1 pc = .ok (.anewarray i, 3)) (h : kp_al hp [.inl (t, N, .inr (.inr (.inr (.inr (fun _ => none)))))] = some hp') (k : kw_V G md (pc + 3) L (.ref (List.length hp) :: S) hp' Q) : kw_V G md pc L (.int n :: S) hp Q := by
  obtain ⟨h1, rfl⟩ := kp_al_inv h
  exact kw_anew ht hw hov hn0 hN hNb d h1 k
theorem kv_multi {i i0 N K : Nat} {n k : Int32} (hw : Cond.classLink md.1.cls i ("[" ++ (FieldType.array .int).toString) ∈ kw_T) (hov : lw_tbl[i0]? = some (.arrayOver (.array .int))) (hac : Cond.arrayClass .int ∈ kw_T) (hn0 : ¬ n < 0) (hk0 : ¬ k < 0) (hN : n.toNatClampNeg = N) (hK0 : k.toNatClampNeg = K) (hb : N ≤ 1000 ∧ K ≤ 1000) (d : decode md.2.1 pc = .ok (.multianewarray i 2, 4)) (h : kp_al hp (kw_mna (List.length hp) N K) = some hp') (kk : kw_V G md (pc + 4) L (.ref (List.length hp) :: S) hp' Q) : kw_V G md pc L (.int k :: .int n :: S) hp Q := by
  obtain ⟨h1, rfl⟩ := kp_al_inv h
  refine kw_multi hw hov hac hn0 hk0 hN hK0 hb d ?_ kk
  simp [kw_mna] at h1
  omega
end KvMake
def kp_max (x y : Int32) : Int32 := if x < y then y else x
def kp_min (x y : Int32) : Int32 := if y < x then y else x
section KvMath
variable {G : kw_G} {md : kw_M} {pc : Nat} {L : List (Option Value)} {S : List Value} {hp : kw_H} {Q : Option Value → kw_H → Prop}
theorem kw_mmax {i : Nat} {x y : Int32} (hl : Cond.methodLink md.1.cls i Lib.Math.max.name ∈ kw_T) (hst : Cond.static Lib.Math.max.name ∈ kw_T) (hini : Cond.initialized "java/lang/Math" ∈ kw_T) (hc : Cond.code Lib.Math.max.name Lib.Math.max.code 2 (some .int) ∈ kw_T) (hf : 1 ≤ md.2.2.2.2.1) (hlo : 21 ≤ md.2.2.2.2.2) (hr : (S.map fun v => v.category).sum ≤ 8) (d : decode md.2.1 pc = .ok (.invokestatic i, 3)) (k : kw_V G md (pc + 3) L (.int (kp_max x y) :: S) hp Q) : kw_V G md pc L (.int y :: .int x :: S) hp Q := by
  intro n0 p e s m args below meth c H locs ls hC hn hR hS hl'
  have hts := hC.2.2.2.2.2.2.2.1
  have h9 := kw_roomS (G := G) hr
  exact va_mmax hC.1 hC.2.1 (by rw [hC.2.2.1]; exact hl'.1.symm) hC.2.2.2.2.2.2.1 (hts _ hl) (hts _ hst) (hts _ hini) (hts _ hc) hf (by show _ ≤ md.2.2.2.2.2; omega) (kw_le1 hC hn hR) (kw_le2 hC hn hR) d (k n0 p e s m args below meth c H locs ls hC hn hR hS hl')
theorem kw_mmin {i : Nat} {x y : Int32} (hl : Cond.methodLink md.1.cls i Lib.Math.min.name ∈ kw_T) (hst : Cond.static Lib.Math.min.name ∈ kw_T) (hini : Cond.initialized "java/lang/Math" ∈ kw_T) (hc : Cond.code Lib.Math.min.name Lib.Math.min.code 2 (some .int) ∈ kw_T) (hf : 1 ≤ md.2.2.2.2.1) (hlo : 21 ≤ md.2.2.2.2.2) (hr : (S.map fun v => v.category).sum ≤ 8) (d : decode md.2.1 pc = .ok (.invokestatic i, 3)) (k : kw_V G md (pc + 3) L (.int (kp_min x y) :: S) hp Q) : kw_V G md pc L (.int y :: .int x :: S) hp Q := by
  intro n0 p e s m args below meth c H locs ls hC hn hR hS hl'
  have hts := hC.2.2.2.2.2.2.2.1
  have h9 := kw_roomS (G := G) hr
  exact va_mmin hC.1 hC.2.1 (by rw [hC.2.2.1]; exact hl'.1.symm) hC.2.2.2.2.2.2.1 (hts _ hl) (hts _ hst) (hts _ hini) (hts _ hc) hf (by show _ ≤ md.2.2.2.2.2; omega) (kw_le1 hC hn hR) (kw_le2 hC hn hR) d (k n0 p e s m args below meth c H locs ls hC hn hR hS hl')
end KvMath
