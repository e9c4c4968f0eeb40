/-! ===== right ===== -/
theorem tBn_cg {T T' : Tw} (hT : tOk T) (h1 : T' 1 = T 1) (h2 : T' 2 = T 2) (h3 : T' 3 = T 3) (h4 : T' 4 = T 4) (h : ∀ k, 22 ≤ k → T' k = T k) : ∀ n, tBn T' n = tBn T n
  | 0 => h4
  | n + 1 => by
    show tN T' (tBn T' n) (T' 3 + n) = tN T (tBn T n) (T 3 + n)
    rw [tBn_cg hT h1 h2 h3 h4 h n, h3]
    unfold tN
    rw [h1, h2, h _ (by omega), h _ (by omega)]
/-- two names swapped -/
def tSw (T : Tw) (a b : Nat) : Tw := va_up (va_up T (6 + a) (T (6 + b))) (6 + b) (T (6 + a))
theorem tSw_o (T : Tw) {a b k : Nat} (h1 : k ≠ 6 + a) (h2 : k ≠ 6 + b) : tSw T a b k = T k := by
  unfold tSw
  rw [up_ne _ _ h2, up_ne _ _ h1]
theorem tSw_n (T : Tw) (a b k : Nat) : tSw T a b (6 + k) = if k = b then T (6 + a) else if k = a then T (6 + b) else T (6 + k) := by
  unfold tSw va_up
  by_cases e : k = b
  · rw [if_pos e, if_pos (by omega)]
  · rw [if_neg e, if_neg (by omega)]
    by_cases e2 : k = a
    · rw [if_pos e2, if_pos (by omega)]
    · rw [if_neg e2, if_neg (by omega)]
theorem tSw_ok {T : Tw} (hT : tOk T) {a b : Nat} (ha : a < T 0) (hb : b < T 0) : tOk (tSw T a b) := by
  have h0 := hT.1
  have h6 := hT.2.2.2.2.2.2.1
  refine tOk_cg hT (tSw_o T (by omega) (by omega)) (tSw_o T (by omega) (by omega)) (tSw_o T (by omega) (by omega)) (tSw_o T (by omega) (by omega)) ?_ ?_ (fun k hk => ?_) (fun k hk => ?_) (fun k hk => tSw_o T (by omega) (by omega))
  · rw [tSw_o T (by omega) (by omega)]; exact hT.2.2.2.2.1
  · rw [tSw_o T (by omega) (by omega)]; exact hT.2.2.2.2.2.1
  · rw [tSw_n]
    have z1 := h6 a ha
    have z2 := h6 b hb
    have z3 := h6 k hk
    split
    · exact z1
    · split
      · exact z2
      · exact z3
  · rw [tSw_o T (by omega) (by omega)]; exact hT.2.2.2.2.2.2.2.1 k hk
def tRk (T : Tw) (p q m a b : Nat) : Bool := (tDs (tSw T a b) q (tBn T m) (tAw T m)).testBit p
def RSp (ok : Nat → Nat → Bool) (N : Nat) (x : Option Nat) : Prop := (∃ a b, a < b ∧ b < N ∧ ok a b = true ∧ (∀ a' b', a' < b' → b' < N → (a' < a ∨ (a' = a ∧ b' < b)) → ok a' b' = false) ∧ x = some (10 * a + b)) ∨ ((∀ a b, a < b → b < N → ok a b = false) ∧ x = none)
theorem RSp_u {ok : Nat → Nat → Bool} {N : Nat} {x y : Option Nat} (hx : RSp ok N x) (hy : RSp ok N y) : x = y := by
  rcases hx with ⟨a, b, h1, h2, h3, h4, rfl⟩ | ⟨h1, rfl⟩
  · rcases hy with ⟨a', b', g1, g2, g3, g4, rfl⟩ | ⟨g1, rfl⟩
    · by_cases e : a' < a ∨ (a' = a ∧ b' < b)
      · rw [h4 a' b' g1 g2 e] at g3; cases g3
      · by_cases e2 : a < a' ∨ (a = a' ∧ b < b')
        · rw [g4 a b h1 h2 e2] at h3; cases h3
        · have : a = a' ∧ b = b' := by omega
          rw [this.1, this.2]
    · rw [g1 a b h1 h2] at h3; cases h3
  · rcases hy with ⟨a', b', g1, g2, g3, g4, rfl⟩ | ⟨g1, rfl⟩
    · rw [h1 a' b' g1 g2] at g3; cases g3
    · rfl
def rv (x : Option Nat) : Int32 := match x with
  | some y => nI y
  | none => (-1000000)
def swF (nm : Nat → Int32) (a b : Nat) : Nat → Int32 := upd (upd nm a (nm b)) b (nm a)
theorem swF_2 {nm : Nat → Int32} {a b : Nat} (h : a ≠ b) : swF (swF nm a b) a b = nm := by
  funext k
  unfold swF upd
  by_cases e1 : k = b
  · subst e1
    rw [if_pos rfl, if_neg h, if_pos rfl]
  · rw [if_neg e1]
    by_cases e2 : k = a
    · subst e2
      rw [if_pos rfl, if_pos rfl]
    · rw [if_neg e2, if_neg e1, if_neg e2]
section CRight
variable {H : kw_H} {ks ka : Nat → Nat → Int32} {kl : Nat → Nat → Int64} {kr : Nat → Nat → Option Nat} {v nm jb tm : Nat → Int32} {tu : Nat → Option Nat} {T : Tw}
theorem c_swapNames (hr : kp_gR H 25 [1] 0 = some 26) (hr2 : ∀ f, kp_gR (H.set 27 (.inl (0, 8, .inl f))) 25 [1] 0 = some 26) (k : KC H 26 v nm jb tu tm) {a b : Nat} (ha : a < 8) (hb : b < 8) : X1_swapNames_F H 25 (nI a) (nI b) = some (H.set 27 (.inl (0, 8, .inl (swF nm a b)))) := by
  have hl := KC_lt k
  have w1 : X11_within_F H (nI a) (nI 0) (nI 7) = some (nI 1) := by rw [c_within, if_pos ⟨(q_le (by omega) (by omega)).mpr (by omega), (q_le (by omega) (by omega)).mpr (by omega)⟩]
  have w2 : X11_within_F H (nI b) (nI 0) (nI 7) = some (nI 1) := by rw [c_within, if_pos ⟨(q_le (by omega) (by omega)).mpr (by omega), (q_le (by omega) (by omega)).mpr (by omega)⟩]
  have s1 : kp_stI H 27 (nI a) (nm b) = some (H.set 27 (.inl (0, 8, .inl (upd nm a (nm b))))) := st_at k.2.1 (by decide) ha _
  have kk : KC (H.set 27 (.inl (0, 8, .inl (upd nm a (nm b))))) 26 v (upd nm a (nm b)) jb tu tm := KC_w1 k _
  have s2 : kp_stI (H.set 27 (.inl (0, 8, .inl (upd nm a (nm b))))) 27 (nI b) (nm a) = some ((H.set 27 (.inl (0, 8, .inl (upd nm a (nm b))))).set 27 (.inl (0, 8, .inl (upd (upd nm a (nm b)) b (nm a))))) := st_at kk.2.1 (by decide) hb _
  rw [List.set_set] at s2
  have r0 : kp_gR H 26 [2] 0 = some 27 := kc_r0 k
  have r1 : kp_gR (H.set 27 (.inl (0, 8, .inl (upd nm a (nm b))))) 26 [2] 0 = some 27 := kc_r0 kk
  have l1 : kp_ldI H 27 (nI a) = some (nm a) := kc_nm k ha
  have l2 : kp_ldI H 27 (nI b) = some (nm b) := kc_nm k hb
  unfold X1_swapNames_F
  simp only [w1, w2, Option.bind_some, if_neg e10, hr, r0, l1, l2, s1, hr2, r1, s2]
  rfl
theorem c_rightLoop (h : CV H ks ka kl kr) (k : KC H 26 v nm jb tu tm) (hV : KV v nm jb tm T) (hT : tOk T) {p q t g : Nat} (hp6 : p < 6) (hq6 : q < 6) (ht : t ≤ 1000) (hg : g < 64) : ∃ x, RSp (fun a b => (tDs (tSw T a b) q t g).testBit p) (T 0) x ∧ kp_lp (X1_swapFor_B45 25 (nI p) (nI q) (nI t) (nI g)) 2000 (nI 0, H) = some (rv x, H) := by
  obtain ⟨ok, hok⟩ : ∃ ok : Nat → Nat → Bool, ∀ a b, ok a b = (tDs (tSw T a b) q t g).testBit p := ⟨_, fun _ _ => rfl⟩
  rw [show (fun a b => (tDs (tSw T a b) q t g).testBit p) = ok from funext fun a => funext fun b => (hok a b).symm]
  have h0 := hT.1
  have hr := c25_r0 h
  have hr2 : ∀ f, kp_gR (H.set 27 (.inl (0, 8, .inl f))) 25 [1] 0 = some 26 := fun f => by
    unfold kp_gR
    rw [List.getElem?_set_ne (by omega), cv25 h]
    rfl
  have ob2 : ∀ f, kp_ob (H.set 27 (.inl (0, 8, .inl f))) 25 1 = some () := fun f => by
    unfold kp_ob
    rw [List.getElem?_set_ne (by omega), cv25 h]
    rfl
  have key : ∃ r, kp_lp (X1_swapFor_B45 25 (nI p) (nI q) (nI t) (nI g)) 2000 (nI 0, H) = some r ∧ ∃ x, RSp ok (T 0) x ∧ r = (rv x, H) := by
    refine lp_ex (fun a s => s = (nI a, H) ∧ ∀ a' b', a' < a → a' < b' → b' < T 0 → ok a' b' = false) (fun r => ∃ x, RSp ok (T 0) x ∧ r = (rv x, H)) (T 0) ?_ ?_ 2000 (by omega) _ ⟨rfl, fun a' b' h => by omega⟩
    · rintro a s ha ⟨rfl, hno⟩
      have inner : ∃ r, kp_lp (X1_swapFor_B63 25 (nI p) (nI q) (nI t) (nI g) (nI a)) 2000 (nI (a + 1), H) = some r ∧ ((r = Sum.inl (nI (a + 1), H) ∧ ∀ b', a < b' → b' < T 0 → ok a b' = false) ∨ ∃ b, a < b ∧ b < T 0 ∧ ok a b = true ∧ (∀ b', a < b' → b' < b → ok a b' = false) ∧ r = Sum.inr (nI (10 * a + b), H)) := by
        refine lp_ex (fun k s => s = (nI (a + 1 + k), H) ∧ ∀ b', a < b' → b' < a + 1 + k → ok a b' = false) (fun r => (r = Sum.inl (nI (a + 1), H) ∧ ∀ b', a < b' → b' < T 0 → ok a b' = false) ∨ ∃ b, a < b ∧ b < T 0 ∧ ok a b = true ∧ (∀ b', a < b' → b' < b → ok a b' = false) ∧ r = Sum.inr (nI (10 * a + b), H)) (T 0 - (a + 1)) ?_ ?_ 2000 (by omega) _ ⟨rfl, fun b' h1 h2 => by omega⟩
        · rintro kk s hkk ⟨rfl, hn2⟩
          obtain ⟨b, hb⟩ : ∃ b, b = a + 1 + kk := ⟨_, rfl⟩
          rw [← hb] at hn2 ⊢
          have hb8 : b < T 0 := by omega
          have e1 := c_swapNames hr hr2 k (a := a) (b := b) (by omega) (by omega)
          have kS : KC (H.set 27 (.inl (0, 8, .inl (swF nm a b)))) 26 v (swF nm a b) jb tu tm := KC_w1 k _
          have e2 := c_swapNames (H := H.set 27 (.inl (0, 8, .inl (swF nm a b)))) (hr2 _) (fun f => by rw [List.set_set]; exact hr2 f) kS (a := a) (b := b) (by omega) (by omega)
          rw [List.set_set, swF_2 (show a ≠ b by omega), set_same (show H[27]? = some (.inl (0, 8, .inl nm)) from k.2.1)] at e2
          have VS : KV v (swF nm a b) jb tm (tSw T a b) := by
            refine ⟨fun i hi => ?_, fun i hi => ?_, fun i hi => ?_, fun i hi => ?_⟩
            · rw [tSw_o T (by omega) (by omega)]; exact hV.1 i hi
            · rw [tSw_o T (by omega) (by omega)] at hi
              rw [tSw_n]
              unfold swF upd
              by_cases z1 : i = b
              · rw [if_pos z1, if_pos z1]; exact hV.2.1 a ha
              · rw [if_neg z1, if_neg z1]
                by_cases z2 : i = a
                · rw [if_pos z2, if_pos z2]; exact hV.2.1 b hb8
                · rw [if_neg z2, if_neg z2]; exact hV.2.1 i hi
            · rw [tSw_o T (by omega) (by omega)] at hi
              rw [tSw_o T (by omega) (by omega)]; exact hV.2.2.1 i hi
            · rw [tSw_o T (by omega) (by omega)]; exact hV.2.2.2 i hi
          have hokT := tSw_ok hT ha hb8
          have ed := c_doersOf kS VS hokT hq6 ht hg
          have eb : X1_swapFor_b63 25 (nI p) (nI q) (nI t) (nI g) (nI a) (nI b) H = (if nI (if ok a b = true then 1 else 0) = 0 then some (Sum.inl (nI (b + 1), H)) else some (Sum.inr (Sum.inr (nI (10 * a + b), H)))) := by
            unfold X1_swapFor_b63 X1_swapFor_J114
            rw [hr, Option.bind_some, kc_g4 k, Option.bind_some, hV.1 0 (by omega), if_neg (fun z => by have := (q_le (show T 0 < 2147483648 by omega) (show b < 2147483648 by omega)).mp z; omega), c25_ob h, Option.bind_some, e1, Option.bind_some, hr2, Option.bind_some, kc_ob kS, Option.bind_some, ed, Option.bind_some, c_holds (tDs_lt hokT) (by omega), Option.bind_some, ob2, Option.bind_some, e2, Option.bind_some, q_mul, nI_add, nI_add, ← hok a b]
            rfl
          cases hab : ok a b with
          | false =>
            rw [hab, if_pos (show nI (if false = true then 1 else 0) = 0 from e00)] at eb
            refine Or.inl ⟨(nI (b + 1), H), eb, ?_, fun b' h1 h2 => ?_⟩
            · rw [hb]; rfl
            · by_cases z : b' = b
              · rw [z]; exact hab
              · exact hn2 b' h1 (by omega)
          | true =>
            rw [hab, if_neg (show ¬ nI (if true = true then 1 else 0) = 0 from e10)] at eb
            exact Or.inr ⟨_, eb, Or.inr ⟨b, by omega, hb8, hab, hn2, rfl⟩⟩
        · rintro s ⟨rfl, hn2⟩
          rw [show a + 1 + (T 0 - (a + 1)) = T 0 by omega] at hn2 ⊢
          refine ⟨Sum.inl (nI (a + 1), H), ?_, Or.inl ⟨rfl, hn2⟩⟩
          show X1_swapFor_b63 _ _ _ _ _ _ _ _ = _
          unfold X1_swapFor_b63
          rw [hr, Option.bind_some, kc_g4 k, Option.bind_some, hV.1 0 (by omega), if_pos ((q_le (by omega) (by omega)).mpr (Nat.le_refl _))]
          unfold X1_swapFor_J129
          rw [nI_add]
          rfl
      obtain ⟨r, i1, i2⟩ := inner
      have eb : X1_swapFor_b45 25 (nI p) (nI q) (nI t) (nI g) (nI a) H = some r := by
        unfold X1_swapFor_b45
        rw [hr, Option.bind_some, kc_g4 k, Option.bind_some, hV.1 0 (by omega), if_neg (fun z => by have := (q_le (show T 0 < 2147483648 by omega) (show a < 2147483648 by omega)).mp z; omega), nI_add]
        exact i1
      rcases i2 with ⟨rfl, i3⟩ | ⟨b, g1, g2, g3, g4, rfl⟩
      · refine Or.inl ⟨_, eb, rfl, fun a' b' h1 h2 h3 => ?_⟩
        by_cases z : a' = a
        · rw [z]; exact i3 b' (by omega) h3
        · exact hno a' b' (by omega) h2 h3
      · refine Or.inr ⟨_, eb, some (10 * a + b), Or.inl ⟨a, b, g1, g2, g3, fun a' b' h1 h2 h3 => ?_, rfl⟩, rfl⟩
        rcases h3 with h3 | ⟨rfl, h3⟩
        · exact hno a' b' h3 h1 h2
        · exact g4 b' h1 h3
    · rintro s ⟨rfl, hno⟩
      refine ⟨(-1000000, H), ?_, none, Or.inr ⟨fun a b h1 h2 => hno a b (by omega) h1 h2, rfl⟩, rfl⟩
      show X1_swapFor_b45 _ _ _ _ _ _ _ = _
      unfold X1_swapFor_b45
      rw [hr, Option.bind_some, kc_g4 k, Option.bind_some, hV.1 0 (by omega), if_pos ((q_le (by omega) (by omega)).mpr (Nat.le_refl _))]
      rfl
  obtain ⟨r, h1, x, h2, rfl⟩ := key
  exact ⟨x, h2, h1⟩
end CRight
section MRight
variable {C P : kw_H} {sc : Nat → Int32} {ar : Nat → Nat → Int32} {f : Nat → Int32} {T : Tw}
theorem m_isRight (hC : C.length = 38) (hA : tA f 0 T) (hT : tReal T) {p q m a b : Nat} (hp6 : p < 6) (hq6 : q < 6) (hm : m ≤ 60) (ha : a < T 0) (hb : b < T 0) : ∃ f', X12_isRight_F (hR C sc ar P f) 38 (nI p) (nI q) (nI m) (nI a) (nI b) = some (nI (b2 (tRk T p q m a b)), hR C sc ar P f') ∧ ∀ k, k < 1782 → f' k = f k := by
  have h999 := hT.2
  have h0 := hT.1.1
  have hok := tSw_ok hT.1 ha hb
  have h3 : tSw T a b 3 = T 3 := tSw_o T (by omega) (by omega)
  obtain ⟨f1, c1, c2, c3⟩ := m_copyTown (C := C) (P := P) (sc := sc) (ar := ar) (f := f) hC (a := 0) (b := 1782) (by omega) (by omega) (by omega)
  have l1 : f1 (6 + b) = nI (T (6 + b)) := by rw [c3 _ (by omega)]; exact tA0 hA (by omega)
  have l2 : upd f1 (1788 + a) (nI (T (6 + b))) (6 + a) = nI (T (6 + a)) := by rw [pk_un (by omega), c3 _ (by omega)]; exact tA0 hA (by omega)
  have a0 : tA (upd (upd f1 (1788 + a) (nI (T (6 + b)))) (1788 + b) (nI (T (6 + a)))) 1782 (tSw T a b) := fun k hk => by
    unfold tSw
    by_cases e1 : k = 6 + b
    · rw [show 1782 + k = 1788 + b by omega, pk_us, e1, up_at]
    · rw [pk_un (by omega), up_ne _ _ e1]
      by_cases e2 : k = 6 + a
      · rw [show 1782 + k = 1788 + a by omega, pk_us, e2, up_at]
      · rw [pk_un (by omega), up_ne _ _ e2, c2 k hk]
        exact hA k hk
  obtain ⟨F, q0, q1, q2⟩ := m_weeks (C := C) (P := P) (sc := sc) (ar := ar) hC (b := 1782) (by omega) a0 hok m (by rw [h3]; omega)
  have hok2 := tWn_ok hok m (by rw [h3]; omega)
  have ed := m_doesTried (C := C) (P := P) (sc := sc) (ar := ar) hC (q1 m (Nat.le_refl _)).1 hok2 hp6 hq6
  rw [← tDs_any hok2 hp6 hq6, tDs_cg hok (fun k a b c d => tWn_c a b c d m), tWn_4 hok, tWn_5, tBn_cg hT.1 (tSw_o T (by omega) (by omega)) (tSw_o T (by omega) (by omega)) h3 (tSw_o T (by omega) (by omega)) (fun k hk => tSw_o T (by omega) (by omega)), tSw_o T (k := 5) (by omega) (by omega)] at ed
  have ed : X12_doesTried_F (hR C sc ar P (F m)) 38 (nI p) (nI q) = some (nI (b2 (tRk T p q m a b))) := ed
  refine ⟨F m, ?_, fun k hk => by rw [(q1 m (Nat.le_refl _)).2 k (by omega), pk_un (by omega), pk_un (by omega), c3 k (by omega)]⟩
  unfold X12_isRight_F
  rw [r_ob hC, Option.bind_some, c1, Option.bind_some, r_r0 hC, Option.bind_some, Option.bind_some, nI_add, r_ld hC (by omega), Option.bind_some, l1, nI_add, r_st hC (by omega), Option.bind_some, r_r0 hC, Option.bind_some, Option.bind_some, nI_add, r_ld hC (by omega), Option.bind_some, l2, nI_add, r_st hC (by omega), Option.bind_some, ← q0]
  refine lp_for (fun i => (nI i, hR C sc ar P (F i))) m _ (fun i hi => ?_) ?_ 2000 (by omega)
  · show X12_isRight_b53 _ _ _ _ _ _ = some (Sum.inl (nI (i + 1), hR C sc ar P (F (i + 1))))
    unfold X12_isRight_b53
    rw [if_neg (fun z => by have := (q_le (show m < 2147483648 by omega) (show i < 2147483648 by omega)).mp z; omega), r_ob hC, Option.bind_some, q2 i hi, Option.bind_some, nI_add]
  · show X12_isRight_b53 _ _ _ _ _ _ = _
    unfold X12_isRight_b53
    rw [if_pos ((q_le (by omega) (by omega)).mpr (Nat.le_refl _))]
    unfold X12_isRight_J72
    rw [r_ob hC, Option.bind_some, ed]
    cases tRk T p q m a b <;> rfl
def rv2 (w : Nat) (x : Option Nat) : Int32 := match x with
  | some y => if w = 0 then nI 1 else nI y
  | none => (-1000000)
theorem m_rightLoop (hC : C.length = 38) (hA : tA f 0 T) (hT : tReal T) {p q m w : Nat} (hp6 : p < 6) (hq6 : q < 6) (hm : m ≤ 60) (hw : w ≤ 1) : ∃ x f', RSp (tRk T p q m) (T 0) x ∧ (∀ k, k < 1782 → f' k = f k) ∧ kp_lp (X12_right_B77 38 (nI p) (nI q) (nI m) (nI w)) 2000 (nI 0, hR C sc ar P f) = some (rv2 w x, hR C sc ar P f') := by
  have h0 := hT.1.1
  obtain ⟨ok, hok⟩ : ∃ ok : Nat → Nat → Bool, ok = tRk T p q m := ⟨_, rfl⟩
  rw [← hok]
  have e0 : ∀ g : Nat → Int32, (∀ k, k < 1782 → g k = f k) → g 0 = nI (T 0) := fun g hg => by rw [hg 0 (by omega)]; exact tA0 hA (by omega)
  have key : ∃ r, kp_lp (X12_right_B77 38 (nI p) (nI q) (nI m) (nI w)) 2000 (nI 0, hR C sc ar P f) = some r ∧ ∃ x f', RSp ok (T 0) x ∧ (∀ k, k < 1782 → f' k = f k) ∧ r = (rv2 w x, hR C sc ar P f') := by
    refine lp_ex (fun a s => (∃ g : Nat → Int32, (∀ k, k < 1782 → g k = f k) ∧ s = (nI a, hR C sc ar P g)) ∧ ∀ a' b', a' < a → a' < b' → b' < T 0 → ok a' b' = false) (fun r => ∃ x f', RSp ok (T 0) x ∧ (∀ k, k < 1782 → f' k = f k) ∧ r = (rv2 w x, hR C sc ar P f')) (T 0) ?_ ?_ 2000 (by omega) _ ⟨⟨f, fun _ _ => rfl, rfl⟩, fun a' b' h => by omega⟩
    · rintro a s ha ⟨⟨g, hg, rfl⟩, hno⟩
      have inner : ∃ r, kp_lp (X12_right_B94 38 (nI p) (nI q) (nI m) (nI w) (nI a)) 2000 (nI (a + 1), hR C sc ar P g) = some r ∧ ((∃ g' : Nat → Int32, (∀ k, k < 1782 → g' k = f k) ∧ r = Sum.inl (nI (a + 1), hR C sc ar P g') ∧ ∀ b', a < b' → b' < T 0 → ok a b' = false) ∨ ∃ b, ∃ g' : Nat → Int32, (∀ k, k < 1782 → g' k = f k) ∧ a < b ∧ b < T 0 ∧ ok a b = true ∧ (∀ b', a < b' → b' < b → ok a b' = false) ∧ r = Sum.inr (rv2 w (some (10 * a + b)), hR C sc ar P g')) := by
        refine lp_ex (fun k s => (∃ g' : Nat → Int32, (∀ k, k < 1782 → g' k = f k) ∧ s = (nI (a + 1 + k), hR C sc ar P g')) ∧ ∀ b', a < b' → b' < a + 1 + k → ok a b' = false) (fun r => (∃ g' : Nat → Int32, (∀ k, k < 1782 → g' k = f k) ∧ r = Sum.inl (nI (a + 1), hR C sc ar P g') ∧ ∀ b', a < b' → b' < T 0 → ok a b' = false) ∨ ∃ b, ∃ g' : Nat → Int32, (∀ k, k < 1782 → g' k = f k) ∧ a < b ∧ b < T 0 ∧ ok a b = true ∧ (∀ b', a < b' → b' < b → ok a b' = false) ∧ r = Sum.inr (rv2 w (some (10 * a + b)), hR C sc ar P g')) (T 0 - (a + 1)) ?_ ?_ 2000 (by omega) _ ⟨⟨g, hg, rfl⟩, fun b' h1 h2 => by omega⟩
        · rintro kk s hkk ⟨⟨g', hg', rfl⟩, hn2⟩
          obtain ⟨b, hb⟩ : ∃ b, b = a + 1 + kk := ⟨_, rfl⟩
          rw [← hb] at hn2 ⊢
          obtain ⟨f2, p1, p2⟩ := m_isRight (C := C) (P := P) (sc := sc) (ar := ar) (f := g') hC (fun k hk => by rw [hg' _ (by omega)]; exact hA k hk) hT hp6 hq6 hm ha (show b < T 0 by omega)
          rw [← hok] at p1
          have hf2 : ∀ k, k < 1782 → f2 k = f k := fun k hk => (p2 k hk).trans (hg' k hk)
          have eb : X12_right_b94 38 (nI p) (nI q) (nI m) (nI w) (nI a) (nI b) (hR C sc ar P g') = (if nI (b2 (ok a b)) = 0 then some (Sum.inl (nI (b + 1), hR C sc ar P f2)) else some (Sum.inr (Sum.inr (rv2 w (some (10 * a + b)), hR C sc ar P f2)))) := by
            unfold X12_right_b94 X12_right_J119 rv2
            rw [r_r0 hC, Option.bind_some, r_ld hC (by omega), Option.bind_some, e0 g' hg', if_neg (fun z => by have := (q_le (show T 0 < 2147483648 by omega) (show b < 2147483648 by omega)).mp z; omega), r_ob hC, Option.bind_some, p1, Option.bind_some, q_mul, nI_add, nI_add]
            rcases (show w = 0 ∨ w = 1 by omega) with rfl | rfl
            · rw [if_pos e00]; rfl
            · rw [if_neg e10]; rfl
          cases hab : ok a b with
          | false =>
            rw [hab, if_pos (show nI (b2 false) = 0 from e00)] at eb
            refine Or.inl ⟨_, eb, ⟨f2, hf2, by rw [hb]; rfl⟩, fun b' h1 h2 => ?_⟩
            by_cases z : b' = b
            · rw [z]; exact hab
            · exact hn2 b' h1 (by omega)
          | true =>
            rw [hab, if_neg (show ¬ nI (b2 true) = 0 from e10)] at eb
            exact Or.inr ⟨_, eb, Or.inr ⟨b, f2, hf2, by omega, by omega, hab, hn2, rfl⟩⟩
        · rintro s ⟨⟨g', hg', rfl⟩, hn2⟩
          rw [show a + 1 + (T 0 - (a + 1)) = T 0 by omega] at hn2 ⊢
          refine ⟨Sum.inl (nI (a + 1), hR C sc ar P g'), ?_, Or.inl ⟨g', hg', rfl, hn2⟩⟩
          show X12_right_b94 _ _ _ _ _ _ _ _ = _
          unfold X12_right_b94
          rw [r_r0 hC, Option.bind_some, r_ld hC (by omega), Option.bind_some, e0 g' hg', if_pos ((q_le (by omega) (by omega)).mpr (Nat.le_refl _))]
          unfold X12_right_J143
          rw [nI_add]
          rfl
      obtain ⟨r, i1, i2⟩ := inner
      have eb : X12_right_b77 38 (nI p) (nI q) (nI m) (nI w) (nI a) (hR C sc ar P g) = some r := by
        unfold X12_right_b77
        rw [r_r0 hC, Option.bind_some, r_ld hC (by omega), Option.bind_some, e0 g hg, if_neg (fun z => by have := (q_le (show T 0 < 2147483648 by omega) (show a < 2147483648 by omega)).mp z; omega), nI_add]
        exact i1
      rcases i2 with ⟨g', hg', rfl, i3⟩ | ⟨b, g', hg', g1, g2, g3, g4, rfl⟩
      · refine Or.inl ⟨_, eb, ⟨g', hg', rfl⟩, fun a' b' h1 h2 h3 => ?_⟩
        by_cases z : a' = a
        · rw [z]; exact i3 b' (by omega) h3
        · exact hno a' b' (by omega) h2 h3
      · refine Or.inr ⟨_, eb, some (10 * a + b), g', Or.inl ⟨a, b, g1, g2, g3, fun a' b' h1 h2 h3 => ?_, rfl⟩, hg', rfl⟩
        rcases h3 with h3 | ⟨rfl, h3⟩
        · exact hno a' b' h3 h1 h2
        · exact g4 b' h1 h3
    · rintro s ⟨⟨g, hg, rfl⟩, hno⟩
      refine ⟨(-1000000, hR C sc ar P g), ?_, none, g, Or.inr ⟨fun a b h1 h2 => hno a b (by omega) h1 h2, rfl⟩, hg, rfl⟩
      show X12_right_b77 _ _ _ _ _ _ _ = _
      unfold X12_right_b77
      rw [r_r0 hC, Option.bind_some, r_ld hC (by omega), Option.bind_some, e0 g hg, if_pos ((q_le (by omega) (by omega)).mpr (Nat.le_refl _))]
      rfl
  obtain ⟨r, h1, x, f', h2, h3, rfl⟩ := key
  exact ⟨x, f', h2, h3, h1⟩
end MRight
theorem tSw_00 (T : Tw) : tSw T 0 0 = T := by
  funext k
  unfold tSw va_up
  split
  · rename_i e; rw [e]
  · rfl
theorem ag_right : lx_ag_right Inv := by
  intro j hp h hj a1 a2 a3 a4
  have hM0 := Inv_M h
  have hS := Inv_S _ _ h
  obtain ⟨ks, ka, kl, kr, sc, ar, T, n, o, A, h⟩ := h
  obtain ⟨C, P, hC, rfl⟩ := MV_ex h.2.1
  have hth := IV_there h
  have hKB := h.2.2.2.2.2.2.2.1.1
  obtain ⟨⟨v, nm, jb, tu, tm, k1, k2, k3, k4⟩, hA, -⟩ := id h.2.2.2.2.2.2.2.1
  rcases hth with ⟨hT, s1, e1⟩ | ⟨-, s1, e1⟩
  case inr =>
    refine ⟨-1000002, _, _, ?_, hM0, ?_, hS⟩
    · unfold X11_right_F
      simp only [c0_r2 h.1, kc_ob k1, Option.bind_some, e1, if_pos e00]
    · unfold X12_right_F
      simp only [m_g1 hC, Option.bind_some, s1, if_pos e00]
  rcases six_sp a1 with ⟨p, hp6, rfl, b1, -, b3⟩ | ⟨b1, -, b3⟩
  case inr =>
    refine ⟨-1000001, _, _, ?_, hM0, ?_, hS⟩
    · unfold X11_right_F
      simp only [c0_r2 h.1, kc_ob k1, Option.bind_some, e1, if_neg e10, b1, if_pos e00]
    · unfold X12_right_F
      simp only [m_g1 hC, Option.bind_some, s1, if_neg e10, b3, if_pos e00]
  rcases six_sp a2 with ⟨q, hq6, rfl, -, d1, d3⟩ | ⟨-, d1, d3⟩
  case inr =>
    refine ⟨-1000001, _, _, ?_, hM0, ?_, hS⟩
    · unfold X11_right_F
      simp only [c0_r2 h.1, kc_ob k1, Option.bind_some, e1, if_neg e10, b1, d1, if_pos e00]
    · unfold X12_right_F
      simp only [m_g1 hC, Option.bind_some, s1, if_neg e10, b3, d3, if_pos e00]
  rcases w_spN a3 (a := 0) (b := 60) (by decide) (by decide) with ⟨m, rfl, -, hm, w1⟩ | w1
  case inr =>
    refine ⟨-1000001, _, _, ?_, hM0, ?_, hS⟩
    · unfold X11_right_F
      simp only [c0_r2 h.1, kc_ob k1, Option.bind_some, e1, if_neg e10, b1, d1, w1, if_pos e00]
    · unfold X12_right_F
      simp only [m_g1 hC, Option.bind_some, s1, if_neg e10, b3, d3, l_n 0 (by decide), l_n 60 (by decide), l_in, w1, if_pos e00]
  rcases w_spN a4 (a := 0) (b := 1) (by decide) (by decide) with ⟨w, rfl, -, hw, w2⟩ | w2
  case inr =>
    refine ⟨-1000001, _, _, ?_, hM0, ?_, hS⟩
    · unfold X11_right_F
      simp only [c0_r2 h.1, kc_ob k1, Option.bind_some, e1, if_neg e10, b1, d1, w1, w2, if_pos e00]
    · unfold X12_right_F
      simp only [m_g1 hC, Option.bind_some, s1, if_neg e10, b3, d3, l_n 0 (by decide), l_n 60 (by decide), l_n 1 (by decide), l_in, w1, w2, if_pos e00]
  have h999 := hT.2
  have h01 := hT.1.1
  have h18 := hT.1.2.1
  have hbn := tBn_lt hT.1 m
  have haw := tAw_lt hT.1 m
  have ea : X2_awayBehind_F (hM C sc ar P) 20 (nI m) = some (nI (tAw T m)) := c_awayBehind k1 k2 (by omega)
  have et := c_turnedBehind k1 k2 hT.1 k3 (show T 3 + m ≤ 2000 by omega) (show m < 2000 by omega)
  have ed := c_doersOf k1 k2 hT.1 hq6 (show tBn T m ≤ 1000 by omega) haw
  have eh := c_holds (hp := hM C sc ar P) (tDs_lt hT.1 (j := q) (t := tBn T m) (g := tAw T m)) (show p < 8 by omega)
  have hk0 : tRk T p q m 0 0 = (tDs T q (tBn T m) (tAw T m)).testBit p := by unfold tRk; rw [tSw_00]
  cases hb : (tDs T q (tBn T m) (tAw T m)).testBit p with
  | true =>
    rw [hb] at hk0
    obtain ⟨f', m1, m2⟩ := m_isRight (C := C) (P := P) (sc := sc) (ar := ar) (f := ar 0) hC hA hT hp6 hq6 hm (show 0 < T 0 by omega) (show 0 < T 0 by omega)
    rw [← hR_self, hk0] at m1
    refine ⟨if w = 0 then nI 0 else (-1000000), hM C sc ar P, hR C sc ar P f', ?_, hM_38 hC, ?_, IV_tried hC h m2⟩
    · have es : X1_swapFor_F (hM C sc ar P) 25 20 (nI p) (nI q) (nI m) = some (nI 0, hM C sc ar P) := by
        unfold X1_swapFor_F
        rw [kc_ob k1, Option.bind_some, et, Option.bind_some, Option.bind_some, ea, Option.bind_some, Option.bind_some, ed, Option.bind_some, eh, Option.bind_some, hb, if_neg (show ¬ nI (if true = true then 1 else 0) = 0 from e10)]
      unfold X11_right_F X11_right_J86
      rw [c0_r2 h.1, Option.bind_some, kc_ob k1, Option.bind_some, e1, Option.bind_some, if_neg e10, b1, Option.bind_some, if_neg e10, d1, Option.bind_some, if_neg e10, w1, Option.bind_some, if_neg e10, w2, Option.bind_some, if_neg e10, c0_r3 h.1, Option.bind_some, Option.bind_some, c25_ob h.1, Option.bind_some, es, Option.bind_some]
      rcases (show w = 0 ∨ w = 1 by omega) with rfl | rfl
      · rfl
      · rfl
    · unfold X12_right_F
      rw [m_g1 hC, Option.bind_some, s1, if_neg e10, b3, Option.bind_some, if_neg e10, d3, Option.bind_some, if_neg e10, l_n 0 (by decide), l_n 60 (by decide), l_in, w1, Option.bind_some, if_neg e10, l_n 1 (by decide), l_in, w2, Option.bind_some, if_neg e10, m_ob hC, Option.bind_some, m1, Option.bind_some]
      rw [if_neg (show ¬ nI (b2 true) = 0 from e10)]
      rcases (show w = 0 ∨ w = 1 by omega) with rfl | rfl
      · rfl
      · rfl
  | false =>
    rw [hb] at hk0
    obtain ⟨H, z1, z2, z3, z4⟩ := KB_become (CV_KC26 h.1) hKB hT.1.sm (by omega)
    obtain ⟨v2, nm2, jb2, tu2, tm2, y1, y2, -, -⟩ := id z2
    have cvH := CV_tri h.1 y1 z4
    obtain ⟨x, x1, x2⟩ := c_rightLoop cvH y1 y2 hT.1 hp6 hq6 (show tBn T m ≤ 1000 by omega) haw
    have es : X1_swapFor_F (hM C sc ar P) 25 20 (nI p) (nI q) (nI m) = some (rv x, H) := by
      unfold X1_swapFor_F
      rw [kc_ob k1, Option.bind_some, et, Option.bind_some, Option.bind_some, ea, Option.bind_some, Option.bind_some, ed, Option.bind_some, eh, Option.bind_some, hb, if_pos (show nI (if false = true then 1 else 0) = 0 from e00), c25_r0 h.1, Option.bind_some, kc_ob (CV_KC26 h.1), Option.bind_some, z1, Option.bind_some]
      exact x2
    have eC : X11_right_F (hM C sc ar P) 0 (nI p) (nI q) (nI m) (nI w) = some (rv2 w x, H) := by
      unfold X11_right_F X11_right_J86
      rw [c0_r2 h.1, Option.bind_some, kc_ob k1, Option.bind_some, e1, Option.bind_some, if_neg e10, b1, Option.bind_some, if_neg e10, d1, Option.bind_some, if_neg e10, w1, Option.bind_some, if_neg e10, w2, Option.bind_some, if_neg e10, c0_r3 h.1, Option.bind_some, Option.bind_some, c25_ob h.1, Option.bind_some, es, Option.bind_some]
      rcases x1 with ⟨a, b, g1, g2, g3, g4, rfl⟩ | ⟨g1, rfl⟩
      · have n1 : ¬ nI (10 * a + b) = (-1000000) := fun z => (q_none (by omega)).mp z
        have n2 : ¬ nI (10 * a + b) = 0 := fun z => by have := (q_eq0 (show 10 * a + b < 2147483648 by omega)).mp z; omega
        show (if nI (10 * a + b) = (-1000000) then _ else if nI (10 * a + b) = 0 then _ else _) = _
        rw [if_neg n1, if_neg n2]
        rcases (show w = 0 ∨ w = 1 by omega) with rfl | rfl
        · rfl
        · rfl
      · rfl
    obtain ⟨C2, P2, hC2, rfl⟩ := MV_ex (MV_f h.2.1 (fun q hq => z4 q (by omega)))
    obtain ⟨f1, m1, m2⟩ := m_isRight (C := C2) (P := P2) (sc := sc) (ar := ar) (f := ar 0) hC2 hA hT hp6 hq6 hm (show 0 < T 0 by omega) (show 0 < T 0 by omega)
    rw [← hR_self, hk0] at m1
    obtain ⟨x', f', y1', y2', y3'⟩ := m_rightLoop (C := C2) (P := P2) (sc := sc) (ar := ar) (f := f1) hC2 (fun k hk => by rw [m2 _ (by omega)]; exact hA k hk) hT hp6 hq6 hm hw
    have hxx : x = x' := RSp_u x1 y1'
    subst hxx
    refine ⟨rv2 w x, hM C2 sc ar P2, hR C2 sc ar P2 f', eC, hM_38 hC2, ?_, IV_scr h hC2 cvH z3 (fun q hq => z4 q (by omega)) (fun k hk => (y2' k hk).trans (m2 k hk)) (fun i h1 h2 => up_ne _ _ (by omega))⟩
    unfold X12_right_F
    rw [m_g1 hC2, Option.bind_some, s1, if_neg e10, b3, Option.bind_some, if_neg e10, d3, Option.bind_some, if_neg e10, l_n 0 (by decide), l_n 60 (by decide), l_in, w1, Option.bind_some, if_neg e10, l_n 1 (by decide), l_in, w2, Option.bind_some, if_neg e10, m_ob hC2, Option.bind_some, m1, Option.bind_some]
    rw [if_pos (show nI (b2 false) = 0 from e00)]
    exact y3'
