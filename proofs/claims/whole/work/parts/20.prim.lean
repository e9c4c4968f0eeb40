/-! ===== what the instructions do to the heap, as functions; a row of kw_V for each ===== -/
def kp_gI (hp : kw_H) (a : Nat) (cs : List Nat) (k : Nat) : Option Int32 := match hp[a]? with
  | some (.inr (ci, fs)) => if ci ∈ cs then (match fs[k]? with
    | some (.int x) => some x
    | _ => none) else none
  | _ => none
def kp_gR (hp : kw_H) (a : Nat) (cs : List Nat) (k : Nat) : Option Nat := match hp[a]? with
  | some (.inr (ci, fs)) => if ci ∈ cs then (match fs[k]? with
    | some (.ref x) => some x
    | _ => none) else none
  | _ => none
def kp_ci (hp : kw_H) (a : Nat) : Option Nat := match hp[a]? with
  | some (.inr (ci, _)) => some ci
  | _ => none
def kp_inst (hp : kw_H) (a : Nat) (ys ns : List Nat) : Option Int32 := match hp[a]? with
  | some (.inr (ci, _)) => if ci ∈ ys then some 1 else if ci ∈ ns then some 0 else none
  | _ => none
def kp_ldI (hp : kw_H) (a : Nat) (j : Int32) : Option Int32 := match hp[a]? with
  | some (.inl (0, n, .inl f)) => if j < 0 ∨ n ≤ j.toNatClampNeg then none else some (f j.toNatClampNeg)
  | _ => none
def kp_ldZ (hp : kw_H) (a : Nat) (j : Int32) : Option Int32 := match hp[a]? with
  | some (.inl (2, n, .inl f)) => if j < 0 ∨ n ≤ j.toNatClampNeg then none else some (f j.toNatClampNeg)
  | _ => none
def kp_ldJ (hp : kw_H) (a : Nat) (j : Int32) : Option Int64 := match hp[a]? with
  | some (.inl (1, n, .inr (.inl f))) => if j < 0 ∨ n ≤ j.toNatClampNeg then none else some (f j.toNatClampNeg)
  | _ => none
def kp_ldR (hp : kw_H) (t a : Nat) (j : Int32) : Option (Option Nat) := match hp[a]? with
  | some (.inl (t', n, .inr (.inr (.inr (.inr f))))) => if t' = t then (if j < 0 ∨ n ≤ j.toNatClampNeg then none else some (f j.toNatClampNeg)) else none
  | _ => none
def kp_len (hp : kw_H) (a : Nat) : Option Int32 := match hp[a]? with
  | some (.inl (t, x)) => if t < 6 then some (nI x.1) else none
  | _ => none
def kp_put (hp : kw_H) (a : Nat) (cs : List Nat) (k : Nat) (v : Value) : Option kw_H := match hp[a]? with
  | some (.inr (ci, fs)) => if ci ∈ cs ∧ k < fs.length then some (hp.set a (.inr (ci, fs.set k v))) else none
  | _ => none
def kp_stI (hp : kw_H) (a : Nat) (j x : Int32) : Option kw_H := match hp[a]? with
  | some (.inl (0, n, .inl f)) => if j < 0 ∨ n ≤ j.toNatClampNeg then none else some (hp.set a (.inl (0, n, .inl (upd f j.toNatClampNeg x))))
  | _ => none
def kp_stZ (hp : kw_H) (a : Nat) (j x : Int32) : Option kw_H := match hp[a]? with
  | some (.inl (2, n, .inl f)) => if (j < 0 ∨ n ≤ j.toNatClampNeg) ∨ ¬ (x = 0 ∨ x = 1) then none else some (hp.set a (.inl (2, n, .inl (upd f j.toNatClampNeg x))))
  | _ => none
def kp_stJ (hp : kw_H) (a : Nat) (j : Int32) (x : Int64) : Option kw_H := match hp[a]? with
  | some (.inl (1, n, .inr (.inl f))) => if j < 0 ∨ n ≤ j.toNatClampNeg then none else some (hp.set a (.inl (1, n, .inr (.inl (vp_updL f j.toNatClampNeg x)))))
  | _ => none
def kp_stR (hp : kw_H) (t a : Nat) (j : Int32) (x : Option Nat) (cs : List Nat) : Option kw_H := match hp[a]? with
  | some (.inl (t', n, .inr (.inr (.inr (.inr f))))) => if t' = t then (if j < 0 ∨ n ≤ j.toNatClampNeg then none else (match x with
    | none => some (hp.set a (.inl (t, n, .inr (.inr (.inr (.inr (va_up f j.toNatClampNeg none)))))))
    | some b => (match hp[b]? with
      | some (.inr (ci, _)) => if ci ∈ cs then some (hp.set a (.inl (t, n, .inr (.inr (.inr (.inr (va_up f j.toNatClampNeg (some b)))))))) else none
      | _ => none))) else none
  | _ => none
def kp_al (hp cs : kw_H) : Option kw_H := if hp.length + cs.length ≤ 3900 then some (hp ++ cs) else none
def kp_cpI (hp : kw_H) (a : Nat) (sp : Int32) (b : Nat) (dp n : Int32) : Option kw_H := match hp[a]?, hp[b]? with
  | some (.inl (0, n1, .inl f)), some (.inl (0, n2, .inl g)) => if sp < 0 ∨ dp < 0 ∨ n < 0 ∨ n1 < sp.toNatClampNeg + n.toNatClampNeg ∨ n2 < dp.toNatClampNeg + n.toNatClampNeg then none else some (hp.set b (.inl (0, n2, .inl (va_cpy f g sp.toNatClampNeg dp.toNatClampNeg n.toNatClampNeg))))
  | _, _ => none
def kp_cpJ (hp : kw_H) (a : Nat) (sp : Int32) (b : Nat) (dp n : Int32) : Option kw_H := match hp[a]?, hp[b]? with
  | some (.inl (1, n1, .inr (.inl f))), some (.inl (1, n2, .inr (.inl g))) => if sp < 0 ∨ dp < 0 ∨ n < 0 ∨ n1 < sp.toNatClampNeg + n.toNatClampNeg ∨ n2 < dp.toNatClampNeg + n.toNatClampNeg then none else some (hp.set b (.inl (1, n2, .inr (.inl (va_cpy f g sp.toNatClampNeg dp.toNatClampNeg n.toNatClampNeg)))))
  | _, _ => none
def kp_div (x y : Int32) : Option Int32 := if y = 0 then none else some (x / y)
def kp_rem (x y : Int32) : Option Int32 := if y = 0 then none else some (x - x / y * y)
def kp_divL (x y : Int64) : Option Int64 := if y = 0 then none else some (x / y)
def kp_remL (x y : Int64) : Option Int64 := if y = 0 then none else some (x - x / y * y)
def kp_bool (x : Int32) : Option Int32 := if x = 0 ∨ x = 1 then some x else none
def kp_lp {σ ρ : Type} (b : σ → Option (σ ⊕ ρ)) : Nat → σ → Option ρ
  | 0, _ => none
  | n + 1, s => match b s with
    | none => none
    | some (.inr r) => some r
    | some (.inl s') => kp_lp b n s'
theorem kv_lp {σ ρ : Type} (b : σ → Option (σ ⊕ ρ)) (V : σ → Prop) (K : ρ → Prop) (step : ∀ (s : σ) (x : σ ⊕ ρ), b s = some x → (match x with
  | .inl s' => V s'
  | .inr r => K r) → V s) : ∀ (n : Nat) (s : σ) (r : ρ), kp_lp b n s = some r → K r → V s
  | 0, s, r, h, _ => by simp [kp_lp] at h
  | n + 1, s, r, h, hK => by
    unfold kp_lp at h
    cases hb : b s with
    | none => rw [hb] at h; cases h
    | some x =>
      rw [hb] at h
      cases x with
      | inl s' => exact step s (.inl s') hb (kv_lp b V K step n s' r h hK)
      | inr r' =>
        have e1 : r' = r := Option.some.inj h
        exact step s (.inr r') hb (by rw [e1]; exact hK)
section KpInv
variable {hp hp' : kw_H} {a k t : Nat} {cs ys ns : List Nat} {x : Int32} {j : Int32}
theorem kp_gI_inv (h : kp_gI hp a cs k = some x) : ∃ ci fs, hp[a]? = some (.inr (ci, fs)) ∧ ci ∈ cs ∧ fs[k]? = some (.int x) := by
  unfold kp_gI at h
  split at h
  · rename_i ci fs h1
    split at h
    · rename_i h2
      split at h
      · rename_i y h3
        cases h
        exact ⟨ci, fs, h1, h2, h3⟩
      · cases h
    · cases h
  · cases h
theorem kp_gR_inv {x : Nat} (h : kp_gR hp a cs k = some x) : ∃ ci fs, hp[a]? = some (.inr (ci, fs)) ∧ ci ∈ cs ∧ fs[k]? = some (.ref x) := by
  unfold kp_gR at h
  split at h
  · rename_i ci fs h1
    split at h
    · rename_i h2
      split at h
      · rename_i y h3
        cases h
        exact ⟨ci, fs, h1, h2, h3⟩
      · cases h
    · cases h
  · cases h
theorem kp_ci_inv {ci : Nat} (h : kp_ci hp a = some ci) : ∃ fs, hp[a]? = some (.inr (ci, fs)) := by
  unfold kp_ci at h
  split at h
  · rename_i c fs h1
    cases h
    exact ⟨fs, h1⟩
  · cases h
theorem kp_inst_inv (h : kp_inst hp a ys ns = some x) : ∃ ci fs, hp[a]? = some (.inr (ci, fs)) ∧ ((ci ∈ ys ∧ x = 1) ∨ (ci ∈ ns ∧ x = 0)) := by
  unfold kp_inst at h
  split at h
  · rename_i ci fs h1
    split at h
    · rename_i h2
      cases h
      exact ⟨ci, fs, h1, Or.inl ⟨h2, rfl⟩⟩
    · split at h
      · rename_i h3
        cases h
        exact ⟨ci, fs, h1, Or.inr ⟨h3, rfl⟩⟩
      · cases h
  · cases h
theorem kp_ldI_inv (h : kp_ldI hp a j = some x) : ∃ n f, hp[a]? = some (.inl (0, n, .inl f)) ∧ vp_in j n ∧ x = f j.toNatClampNeg := by
  unfold kp_ldI at h
  split at h
  · rename_i n f h1
    split at h
    · cases h
    · rename_i h2
      cases h
      exact ⟨n, f, h1, h2, rfl⟩
  · cases h
theorem kp_ldZ_inv (h : kp_ldZ hp a j = some x) : ∃ n f, hp[a]? = some (.inl (2, n, .inl f)) ∧ vp_in j n ∧ x = f j.toNatClampNeg := by
  unfold kp_ldZ at h
  split at h
  · rename_i n f h1
    split at h
    · cases h
    · rename_i h2
      cases h
      exact ⟨n, f, h1, h2, rfl⟩
  · cases h
theorem kp_ldJ_inv {x : Int64} (h : kp_ldJ hp a j = some x) : ∃ n f, hp[a]? = some (.inl (1, n, .inr (.inl f))) ∧ vp_in j n ∧ x = f j.toNatClampNeg := by
  unfold kp_ldJ at h
  split at h
  · rename_i n f h1
    split at h
    · cases h
    · rename_i h2
      cases h
      exact ⟨n, f, h1, h2, rfl⟩
  · cases h
theorem kp_ldR_inv {x : Option Nat} (h : kp_ldR hp t a j = some x) : ∃ n f, hp[a]? = some (.inl (t, n, .inr (.inr (.inr (.inr f))))) ∧ vp_in j n ∧ x = f j.toNatClampNeg := by
  unfold kp_ldR at h
  split at h
  · rename_i t' n f h1
    split at h
    · rename_i h0
      subst h0
      split at h
      · cases h
      · rename_i h2
        cases h
        exact ⟨n, f, h1, h2, rfl⟩
    · cases h
  · cases h
theorem kp_len_inv (h : kp_len hp a = some x) : ∃ t y, hp[a]? = some (.inl (t, y)) ∧ t < 6 ∧ x = nI y.1 := by
  unfold kp_len at h
  split at h
  · rename_i t y h1
    split at h
    · rename_i h2
      cases h
      exact ⟨t, y, h1, h2, rfl⟩
    · cases h
  · cases h
theorem kp_put_inv {v : Value} (h : kp_put hp a cs k v = some hp') : ∃ ci fs, hp[a]? = some (.inr (ci, fs)) ∧ ci ∈ cs ∧ k < fs.length ∧ hp' = hp.set a (.inr (ci, fs.set k v)) := by
  unfold kp_put at h
  split at h
  · rename_i ci fs h1
    split at h
    · rename_i h2
      cases h
      exact ⟨ci, fs, h1, h2.1, h2.2, rfl⟩
    · cases h
  · cases h
theorem kp_stI_inv (h : kp_stI hp a j x = some hp') : ∃ n f, hp[a]? = some (.inl (0, n, .inl f)) ∧ vp_in j n ∧ hp' = hp.set a (.inl (0, n, .inl (upd f j.toNatClampNeg x))) := by
  unfold kp_stI at h
  split at h
  · rename_i n f h1
    split at h
    · cases h
    · rename_i h2
      cases h
      exact ⟨n, f, h1, h2, rfl⟩
  · cases h
theorem kp_stZ_inv (h : kp_stZ hp a j x = some hp') : ∃ n f, hp[a]? = some (.inl (2, n, .inl f)) ∧ vp_in j n ∧ (x = 0 ∨ x = 1) ∧ hp' = hp.set a (.inl (2, n, .inl (upd f j.toNatClampNeg x))) := by
  unfold kp_stZ at h
  split at h
  · rename_i n f h1
    split at h
    · cases h
    · rename_i h2
      cases h
      exact ⟨n, f, h1, fun z => h2 (Or.inl z), Classical.not_not.mp (fun z => h2 (Or.inr z)), rfl⟩
  · cases h
theorem kp_stJ_inv {x : Int64} (h : kp_stJ hp a j x = some hp') : ∃ n f, hp[a]? = some (.inl (1, n, .inr (.inl f))) ∧ vp_in j n ∧ hp' = hp.set a (.inl (1, n, .inr (.inl (vp_updL f j.toNatClampNeg x)))) := by
  unfold kp_stJ at h
  split at h
  · rename_i n f h1
    split at h
    · cases h
    · rename_i h2
      cases h
      exact ⟨n, f, h1, h2, rfl⟩
  · cases h
theorem kp_stR_invN (h : kp_stR hp t a j none cs = some hp') : ∃ n f, hp[a]? = some (.inl (t, n, .inr (.inr (.inr (.inr f))))) ∧ vp_in j n ∧ hp' = hp.set a (.inl (t, n, .inr (.inr (.inr (.inr (va_up f j.toNatClampNeg none)))))) := by
  unfold kp_stR at h
  split at h
  · rename_i t' n f h1
    split at h
    · rename_i h0
      subst h0
      split at h
      · cases h
      · rename_i h2
        cases h
        exact ⟨n, f, h1, h2, rfl⟩
    · cases h
  · cases h
theorem kp_stR_inv {b : Nat} (h : kp_stR hp t a j (some b) cs = some hp') : ∃ n f ci fs, hp[a]? = some (.inl (t, n, .inr (.inr (.inr (.inr f))))) ∧ vp_in j n ∧ hp[b]? = some (.inr (ci, fs)) ∧ ci ∈ cs ∧ hp' = hp.set a (.inl (t, n, .inr (.inr (.inr (.inr (va_up f j.toNatClampNeg (some b))))))) := by
  unfold kp_stR at h
  split at h
  · rename_i t' n f h1
    split at h
    · rename_i h0
      subst h0
      split at h
      · cases h
      · rename_i h2
        dsimp only at h
        split at h
        · rename_i ci fs h3
          split at h
          · rename_i h4
            cases h
            exact ⟨n, f, ci, fs, h1, h2, h3, h4, rfl⟩
          · cases h
        · cases h
    · cases h
  · cases h
theorem kp_al_inv {ds : kw_H} (h : kp_al hp ds = some hp') : hp.length + ds.length ≤ 3900 ∧ hp' = hp ++ ds := by
  unfold kp_al at h
  split at h
  · rename_i h1
    cases h
    exact ⟨h1, rfl⟩
  · cases h
theorem kp_cpI_inv {b : Nat} {sp dp n : Int32} (h : kp_cpI hp a sp b dp n = some hp') : ∃ n1 n2 f g, hp[a]? = some (.inl (0, n1, .inl f)) ∧ hp[b]? = some (.inl (0, n2, .inl g)) ∧ ¬ sp < 0 ∧ ¬ dp < 0 ∧ ¬ n < 0 ∧ sp.toNatClampNeg + n.toNatClampNeg ≤ n1 ∧ dp.toNatClampNeg + n.toNatClampNeg ≤ n2 ∧ hp' = hp.set b (.inl (0, n2, .inl (va_cpy f g sp.toNatClampNeg dp.toNatClampNeg n.toNatClampNeg))) := by
  unfold kp_cpI at h
  split at h
  · rename_i n1 f n2 g h1 h2
    split at h
    · cases h
    · rename_i h3
      cases h
      refine ⟨n1, n2, f, g, h1, h2, fun z => h3 (Or.inl z), fun z => h3 (Or.inr (Or.inl z)), fun z => h3 (Or.inr (Or.inr (Or.inl z))), ?_, ?_, rfl⟩
      · exact Nat.le_of_not_lt fun z => h3 (Or.inr (Or.inr (Or.inr (Or.inl z))))
      · exact Nat.le_of_not_lt fun z => h3 (Or.inr (Or.inr (Or.inr (Or.inr z))))
  · cases h
theorem kp_cpJ_inv {b : Nat} {sp dp n : Int32} (h : kp_cpJ hp a sp b dp n = some hp') : ∃ n1 n2 f g, hp[a]? = some (.inl (1, n1, .inr (.inl f))) ∧ hp[b]? = some (.inl (1, n2, .inr (.inl g))) ∧ ¬ sp < 0 ∧ ¬ dp < 0 ∧ ¬ n < 0 ∧ sp.toNatClampNeg + n.toNatClampNeg ≤ n1 ∧ dp.toNatClampNeg + n.toNatClampNeg ≤ n2 ∧ hp' = hp.set b (.inl (1, n2, .inr (.inl (va_cpy f g sp.toNatClampNeg dp.toNatClampNeg n.toNatClampNeg)))) := by
  unfold kp_cpJ at h
  split at h
  · rename_i n1 f n2 g h1 h2
    split at h
    · cases h
    · rename_i h3
      cases h
      refine ⟨n1, n2, f, g, h1, h2, fun z => h3 (Or.inl z), fun z => h3 (Or.inr (Or.inl z)), fun z => h3 (Or.inr (Or.inr (Or.inl z))), ?_, ?_, rfl⟩
      · exact Nat.le_of_not_lt fun z => h3 (Or.inr (Or.inr (Or.inr (Or.inl z))))
      · exact Nat.le_of_not_lt fun z => h3 (Or.inr (Or.inr (Or.inr (Or.inr z))))
  · cases h
end KpInv
section KvRows
variable {G : kw_G} {md : kw_M} {pc : Nat} {L : List (Option Value)} {S : List Value} {hp hp' : kw_H} {Q : Option Value → kw_H → Prop} {a k i t : Nat} {cs ys ns : List Nat} {x j : Int32}
/-- the field at the place k of every class of cs is what the pool's entry i names -/
def kw_gok (own : String) (i : Nat) (cs : List Nat) (k : Nat) : Prop := ∀ ci ∈ cs, ∃ (C : String) (T : u_T) (N : Nat), kw_cls ci C T N ∧ k < N ∧ kw_fl own i T k
def kw_pok (md : kw_M) (i : Nat) (cs : List Nat) (k : Nat) (ty : FieldType) : Prop := ∀ ci ∈ cs, ∃ (C : String) (T : u_T) (N : Nat) (tyF : Nat → FieldType), kw_cls ci C T N ∧ (∀ k, k < N → parseFieldDescriptor (T k).2.2.1 = some (tyF k)) ∧ (∀ a, a < N → ∀ b, b < N → a ≠ b → (T a).2.1 ≠ (T b).2.1) ∧ k < N ∧ kw_fl md.1.cls i T k ∧ tyF k = ty ∧ ((T k).2.2.2 = false ∨ ((T k).2.2.2 = true ∧ md.1.name = "<init>" ∧ (T k).1 = md.1.cls))
theorem kv_gI (hg : kw_gok md.1.cls i cs k) (d : decode md.2.1 pc = .ok (.getfield i, 3)) (h : kp_gI hp a cs k = some x) (kk : kw_V G md (pc + 3) L (.int x :: S) hp Q) : kw_V G md pc L (.ref a :: S) hp Q := by
  obtain ⟨ci, fs, h1, h2, h3⟩ := kp_gI_inv h
  obtain ⟨C, T, N, g1, g2, g3⟩ := hg ci h2
  exact kw_get g1 g2 g3 d h1 h3 kk
theorem kv_gR {x : Nat} (hg : kw_gok md.1.cls i cs k) (d : decode md.2.1 pc = .ok (.getfield i, 3)) (h : kp_gR hp a cs k = some x) (kk : kw_V G md (pc + 3) L (.ref x :: S) hp Q) : kw_V G md pc L (.ref a :: S) hp Q := by
  obtain ⟨ci, fs, h1, h2, h3⟩ := kp_gR_inv h
  obtain ⟨C, T, N, g1, g2, g3⟩ := hg ci h2
  exact kw_get g1 g2 g3 d h1 h3 kk
theorem kv_put {v : Value} {ty : FieldType} (hg : kw_pok md i cs k ty) (hv : ∀ N : Nat, narrow ty (kw_v N v) = kw_v N v ∧ fits ty (kw_v N v) = true) (d : decode md.2.1 pc = .ok (.putfield i, 3)) (h : kp_put hp a cs k v = some hp') (kk : kw_V G md (pc + 3) L S hp' Q) : kw_V G md pc L (v :: .ref a :: S) hp Q := by
  obtain ⟨ci, fs, h1, h2, h3, rfl⟩ := kp_put_inv h
  obtain ⟨C, T, N, tyF, g1, g2, g3, g4, g5, g6, g7⟩ := hg ci h2
  rcases g7 with g7 | ⟨g7, g8, g9⟩
  · exact kw_put g1 g2 g3 g4 g5 g7 d h1 h3 (by rw [g6]; exact hv _) kk
  · exact kw_putF g1 g2 g3 g4 g5 g7 g8 g9 d h1 h3 (by rw [g6]; exact hv _) kk
theorem kv_ldI (d : decode md.2.1 pc = .ok (.iaload, 1)) (h : kp_ldI hp a j = some x) (kk : kw_V G md (pc + 1) L (.int x :: S) hp Q) : kw_V G md pc L (.int j :: .ref a :: S) hp Q := by
  obtain ⟨n, f, h1, h2, rfl⟩ := kp_ldI_inv h
  exact kw_iald d h1 h2 kk
theorem kv_ldZ (d : decode md.2.1 pc = .ok (.baload, 1)) (h : kp_ldZ hp a j = some x) (kk : kw_V G md (pc + 1) L (.int x :: S) hp Q) : kw_V G md pc L (.int j :: .ref a :: S) hp Q := by
  obtain ⟨n, f, h1, h2, rfl⟩ := kp_ldZ_inv h
  exact kw_zald d h1 h2 kk
theorem kv_ldJ {x : Int64} (d : decode md.2.1 pc = .ok (.laload, 1)) (h : kp_ldJ hp a j = some x) (kk : kw_V G md (pc + 1) L (.long x :: S) hp Q) : kw_V G md pc L (.int j :: .ref a :: S) hp Q := by
  obtain ⟨n, f, h1, h2, rfl⟩ := kp_ldJ_inv h
  exact kw_lald d h1 h2 kk
theorem kv_ldR {x : Option Nat} (ht : t = 3 ∨ t = 4 ∨ t = 5) (d : decode md.2.1 pc = .ok (.aaload, 1)) (h : kp_ldR hp t a j = some x) (kk : kw_V G md (pc + 1) L (va_rf x :: S) hp Q) : kw_V G md pc L (.int j :: .ref a :: S) hp Q := by
  obtain ⟨n, f, h1, h2, rfl⟩ := kp_ldR_inv h
  exact kw_aald ht d h1 h2 kk
theorem kv_len (d : decode md.2.1 pc = .ok (.arraylength, 1)) (h : kp_len hp a = some x) (kk : kw_V G md (pc + 1) L (.int x :: S) hp Q) : kw_V G md pc L (.ref a :: S) hp Q := by
  obtain ⟨t, y, h1, h2, rfl⟩ := kp_len_inv h
  exact kw_alen h2 d h1 kk
theorem kv_stI (d : decode md.2.1 pc = .ok (.iastore, 1)) (h : kp_stI hp a j x = some hp') (kk : kw_V G md (pc + 1) L S hp' Q) : kw_V G md pc L (.int x :: .int j :: .ref a :: S) hp Q := by
  obtain ⟨n, f, h1, h2, rfl⟩ := kp_stI_inv h
  exact kw_iast d h1 h2 kk
theorem kv_stZ (d : decode md.2.1 pc = .ok (.bastore, 1)) (h : kp_stZ hp a j x = some hp') (kk : kw_V G md (pc + 1) L S hp' Q) : kw_V G md pc L (.int x :: .int j :: .ref a :: S) hp Q := by
  obtain ⟨n, f, h1, h2, h3, rfl⟩ := kp_stZ_inv h
  exact kw_zast h3 d h1 h2 kk
theorem kv_stJ {x : Int64} (d : decode md.2.1 pc = .ok (.lastore, 1)) (h : kp_stJ hp a j x = some hp') (kk : kw_V G md (pc + 1) L S hp' Q) : kw_V G md pc L (.long x :: .int j :: .ref a :: S) hp Q := by
  obtain ⟨n, f, h1, h2, rfl⟩ := kp_stJ_inv h
  exact kw_last d h1 h2 kk
theorem kv_stRN (ht : t = 3 ∨ t = 4) (d : decode md.2.1 pc = .ok (.aastore, 1)) (h : kp_stR hp t a j none cs = some hp') (kk : kw_V G md (pc + 1) L S hp' Q) : kw_V G md pc L (.null :: .int j :: .ref a :: S) hp Q := by
  obtain ⟨n, f, h1, h2, rfl⟩ := kp_stR_invN h
  exact kw_aastN ht d h1 h2 kk
/-- objects of the classes cs fit into arrays of the kind t -/
def kw_aok (t : Nat) (cs : List Nat) : Prop := ∃ E : String, (∀ D : Nat → ClassId, (kw_ty D)[t]? = some (D t, .object E)) ∧ ∀ ci ∈ cs, ∃ (C : String) (T : u_T) (N i0 : Nat), kw_cls ci C T N ∧ (C = E ∨ lw_tbl[i0]? = some (.castable C E))
theorem kv_stR {b : Nat} (hg : kw_aok t cs) (d : decode md.2.1 pc = .ok (.aastore, 1)) (h : kp_stR hp t a j (some b) cs = some hp') (kk : kw_V G md (pc + 1) L S hp' Q) : kw_V G md pc L (.ref b :: .int j :: .ref a :: S) hp Q := by
  obtain ⟨n, f, ci, fs, h1, h2, h3, h4, rfl⟩ := kp_stR_inv h
  obtain ⟨E, g1, g2⟩ := hg
  obtain ⟨C, T, N, i0, g3, g4⟩ := g2 ci h4
  exact kw_aast g1 g3 g4 d h1 h3 h2 kk
theorem kv_idiv {x y v : Int32} (d : decode md.2.1 pc = .ok (.idiv, 1)) (h : kp_div x y = some v) (kk : kw_V G md (pc + 1) L (.int v :: S) hp Q) : kw_V G md pc L (.int y :: .int x :: S) hp Q := by
  unfold kp_div at h
  split at h
  · cases h
  · rename_i h1
    cases h
    exact kw_idiv d h1 kk
theorem kv_irem {x y v : Int32} (d : decode md.2.1 pc = .ok (.irem, 1)) (h : kp_rem x y = some v) (kk : kw_V G md (pc + 1) L (.int v :: S) hp Q) : kw_V G md pc L (.int y :: .int x :: S) hp Q := by
  unfold kp_rem at h
  split at h
  · cases h
  · rename_i h1
    cases h
    exact kw_irem d h1 kk
theorem kv_ldiv {x y v : Int64} (d : decode md.2.1 pc = .ok (.ldiv, 1)) (h : kp_divL x y = some v) (kk : kw_V G md (pc + 1) L (.long v :: S) hp Q) : kw_V G md pc L (.long y :: .long x :: S) hp Q := by
  unfold kp_divL at h
  split at h
  · cases h
  · rename_i h1
    cases h
    exact kw_ldiv d h1 kk
theorem kv_lrem {x y v : Int64} (d : decode md.2.1 pc = .ok (.lrem, 1)) (h : kp_remL x y = some v) (kk : kw_V G md (pc + 1) L (.long v :: S) hp Q) : kw_V G md pc L (.long y :: .long x :: S) hp Q := by
  unfold kp_remL at h
  split at h
  · cases h
  · rename_i h1
    cases h
    exact kw_lrem d h1 kk
theorem kv_iinc {x w : Int32} {n : Int} {L' : List (Option Value)} (d : decode md.2.1 pc = .ok (.iinc i n, 3)) (hw : Int32.ofInt n = w) (hv : L[i]? = some (some (.int x))) (hi : i < md.2.2.1) (hL : kw_st L i (.int (x + w)) = L') (kk : kw_V G md (pc + 3) L' S hp Q) : kw_V G md pc L S hp Q := by
  subst hw
  exact kw_iinc d hv hi hL kk
theorem kv_bool {x v : Int32} (h : kp_bool x = some v) : x = v ∧ (v = 0 ∨ v = 1) := by
  unfold kp_bool at h
  split at h
  · rename_i h1
    cases h
    exact ⟨rfl, h1⟩
  · cases h
/-- instanceof: the classes that are such, those that aren't -/
def kw_iok (own : String) (i : Nat) (ys ns : List Nat) : Prop := ∃ nm : String, Cond.classLink own i nm ∈ kw_T ∧ (∀ ci ∈ ys, ∃ (C : String) (T : u_T) (N i0 : Nat), kw_cls ci C T N ∧ (C = nm ∨ lw_tbl[i0]? = some (.castable C nm))) ∧ (∀ ci ∈ ns, ∃ (C : String) (T : u_T) (N : Nat), kw_cls ci C T N ∧ (C, nm) ∈ kw_Nc)
theorem kv_inst (hg : kw_iok md.1.cls i ys ns) (d : decode md.2.1 pc = .ok (.instanceof i, 3)) (h : kp_inst hp a ys ns = some x) (kk : kw_V G md (pc + 3) L (.int x :: S) hp Q) : kw_V G md pc L (.ref a :: S) hp Q := by
  obtain ⟨ci, fs, h1, h2⟩ := kp_inst_inv h
  obtain ⟨nm, g1, g2, g3⟩ := hg
  rcases h2 with ⟨h2, rfl⟩ | ⟨h2, rfl⟩
  · obtain ⟨C, T, N, i0, g4, g5⟩ := g2 ci h2
    rcases g5 with rfl | g5
    · exact kw_instS g4 g1 d h1 kk
    · exact kw_instY g4 g1 g5 d h1 kk
  · obtain ⟨C, T, N, g4, g5⟩ := g3 ci h2
    exact kw_instNo g4 g1 g5 d h1 kk
/-- what System.arraycopy asks of the tables -/
def kw_cok (md : kw_M) (i : Nat) : Prop := Cond.methodLink md.1.cls i arraycopyName ∈ kw_T ∧ Cond.native arraycopyName ∈ kw_T ∧ Cond.static arraycopyName ∈ kw_T ∧ Cond.initialized "java/lang/System" ∈ kw_T ∧ 1 ≤ md.2.2.2.2.1 ∧ 60 ≤ md.2.2.2.2.2
theorem kv_cpI {b : Nat} {sp dp n : Int32} (hg : kw_cok md i) (hr : (S.map fun v => v.category).sum ≤ 8) (d : decode md.2.1 pc = .ok (.invokestatic i, 3)) (h : kp_cpI hp a sp b dp n = some hp') (kk : kw_V G md (pc + 3) L S hp' Q) : kw_V G md pc L (.int n :: .int dp :: .ref b :: .int sp :: .ref a :: S) hp Q := by
  obtain ⟨n1, n2, f, g, h1, h2, h3, h4, h5, h6, h7, rfl⟩ := kp_cpI_inv h
  exact kw_copyi hg.1 hg.2.1 hg.2.2.1 hg.2.2.2.1 hg.2.2.2.2.1 hg.2.2.2.2.2 hr d h1 h2 h3 h4 h5 h6 h7 kk
theorem kv_cpJ {b : Nat} {sp dp n : Int32} (hg : kw_cok md i) (hr : (S.map fun v => v.category).sum ≤ 8) (d : decode md.2.1 pc = .ok (.invokestatic i, 3)) (h : kp_cpJ hp a sp b dp n = some hp') (kk : kw_V G md (pc + 3) L S hp' Q) : kw_V G md pc L (.int n :: .int dp :: .ref b :: .int sp :: .ref a :: S) hp Q := by
  obtain ⟨n1, n2, f, g, h1, h2, h3, h4, h5, h6, h7, rfl⟩ := kp_cpJ_inv h
  exact kw_copyl hg.1 hg.2.1 hg.2.2.1 hg.2.2.2.1 hg.2.2.2.2.1 hg.2.2.2.2.2 hr d h1 h2 h3 h4 h5 h6 h7 kk
end KvRows
