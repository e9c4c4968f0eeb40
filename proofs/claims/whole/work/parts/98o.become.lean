/-! ===== kitchens written; one becomes another ===== -/
theorem set_same {hp : kw_H} {a : Nat} {c : kw_E} (h : hp[a]? = some c) : hp.set a c = hp := by
  have hl : a < hp.length := (List.getElem?_eq_some_iff.mp h).1
  apply List.ext_getElem?
  intro q
  by_cases e : q = a
  · subst e
    rw [List.getElem?_set_self hl, h]
  · rw [List.getElem?_set_ne (fun z => e z.symm)]
section KWr
variable {hp : kw_H} {i : Nat} {v nm jb tm : Nat → Int32} {tu : Nat → Option Nat}
theorem KC_lt (h : KC hp i v nm jb tu tm) : i + 4 < hp.length := (List.getElem?_eq_some_iff.mp h.2.2.2.2).1
theorem KC_o (h : KC hp i v nm jb tu tm) {q : Nat} (hq : q < i ∨ i + 5 ≤ q) (c : kw_E) : KC (hp.set q c) i v nm jb tu tm :=
  KC_fr (X := fun z => z = q) (fun z hz => List.getElem?_set_ne (fun e => hz e.symm)) (fun k hk z => by omega) h
theorem KC_w1 (h : KC hp i v nm jb tu tm) (f : Nat → Int32) : KC (hp.set (i + 1) (.inl (0, 8, .inl f))) i v f jb tu tm := by
  have hl := KC_lt h
  refine ⟨?_, ?_, ?_, ?_, ?_⟩
  · rw [List.getElem?_set_ne (by omega)]; exact h.1
  · rw [List.getElem?_set_self (by omega)]
  · rw [List.getElem?_set_ne (by omega)]; exact h.2.2.1
  · rw [List.getElem?_set_ne (by omega)]; exact h.2.2.2.1
  · rw [List.getElem?_set_ne (by omega)]; exact h.2.2.2.2
theorem KC_w2 (h : KC hp i v nm jb tu tm) (f : Nat → Int32) : KC (hp.set (i + 2) (.inl (0, 8, .inl f))) i v nm f tu tm := by
  have hl := KC_lt h
  refine ⟨?_, ?_, ?_, ?_, ?_⟩
  · rw [List.getElem?_set_ne (by omega)]; exact h.1
  · rw [List.getElem?_set_ne (by omega)]; exact h.2.1
  · rw [List.getElem?_set_self (by omega)]
  · rw [List.getElem?_set_ne (by omega)]; exact h.2.2.2.1
  · rw [List.getElem?_set_ne (by omega)]; exact h.2.2.2.2
theorem KC_w3 (h : KC hp i v nm jb tu tm) (f : Nat → Option Nat) : KC (hp.set (i + 3) (.inl (3, 4, .inr (.inr (.inr (.inr f)))))) i v nm jb f tm := by
  have hl := KC_lt h
  refine ⟨?_, ?_, ?_, ?_, ?_⟩
  · rw [List.getElem?_set_ne (by omega)]; exact h.1
  · rw [List.getElem?_set_ne (by omega)]; exact h.2.1
  · rw [List.getElem?_set_ne (by omega)]; exact h.2.2.1
  · rw [List.getElem?_set_self (by omega)]
  · rw [List.getElem?_set_ne (by omega)]; exact h.2.2.2.2
theorem KC_w4 (h : KC hp i v nm jb tu tm) (f : Nat → Int32) : KC (hp.set (i + 4) (.inl (0, 36, .inl f))) i v nm jb tu f := by
  have hl := KC_lt h
  refine ⟨?_, ?_, ?_, ?_, ?_⟩
  · rw [List.getElem?_set_ne (by omega)]; exact h.1
  · rw [List.getElem?_set_ne (by omega)]; exact h.2.1
  · rw [List.getElem?_set_ne (by omega)]; exact h.2.2.1
  · rw [List.getElem?_set_ne (by omega)]; exact h.2.2.2.1
  · rw [List.getElem?_set_self (by omega)]
theorem KC_p (h : KC hp i v nm jb tu tm) {k : Nat} (hk : k < 6) (x : Int32) : ∃ hp', kp_put hp i [2] (4 + k) (.int x) = some hp' ∧ KC hp' i (upd v k x) nm jb tu tm ∧ hp'.length = hp.length ∧ ∀ q, q ≠ i → hp'[q]? = hp[q]? := by
  have hl := KC_lt h
  refine ⟨hp.set i (.inr (2, [.ref (i + 1), .ref (i + 2), .ref (i + 3), .ref (i + 4), .int (upd v k x 0), .int (upd v k x 1), .int (upd v k x 2), .int (upd v k x 3), .int (upd v k x 4), .int (upd v k x 5)])), ?_, ⟨?_, ?_, ?_, ?_, ?_⟩, by simp, fun q hq => by rw [List.getElem?_set_ne (Ne.symm hq)]⟩
  · unfold kp_put
    rw [h.1]
    rcases (show k = 0 ∨ k = 1 ∨ k = 2 ∨ k = 3 ∨ k = 4 ∨ k = 5 by omega) with rfl | rfl | rfl | rfl | rfl | rfl <;> rfl
  · rw [List.getElem?_set_self (by omega)]
  · rw [List.getElem?_set_ne (by omega)]; exact h.2.1
  · rw [List.getElem?_set_ne (by omega)]; exact h.2.2.1
  · rw [List.getElem?_set_ne (by omega)]; exact h.2.2.2.1
  · rw [List.getElem?_set_ne (by omega)]; exact h.2.2.2.2
theorem KC_NT (h : KC hp i v nm jb tu tm) {q : Nat} (h1 : i ≤ q) (h2 : q < i + 5) : NT hp q := by
  intro ci fs e
  rcases (show q = i ∨ q = i + 1 ∨ q = i + 2 ∨ q = i + 3 ∨ q = i + 4 by omega) with rfl | rfl | rfl | rfl | rfl
  · rw [h.1] at e; cases e; decide
  · rw [h.2.1] at e; cases e
  · rw [h.2.2.1] at e; cases e
  · rw [h.2.2.2.1] at e; cases e
  · rw [h.2.2.2.2] at e; cases e
end KWr
theorem cp_at {hp : kw_H} {a b n : Nat} {f g : Nat → Int32} (ha : hp[a]? = some (.inl (0, n, .inl f))) (hb : hp[b]? = some (.inl (0, n, .inl g))) (hn : n < 2147483648) : kp_cpI hp a (nI 0) b (nI 0) (nI n) = some (hp.set b (.inl (0, n, .inl (va_cpy f g 0 0 n)))) := by
  unfold kp_cpI
  rw [ha, hb]
  show (if nI 0 < 0 ∨ nI 0 < 0 ∨ nI n < 0 ∨ n < (nI 0).toNatClampNeg + (nI n).toNatClampNeg ∨ n < (nI 0).toNatClampNeg + (nI n).toNatClampNeg then none else some (hp.set b (.inl (0, n, .inl (va_cpy f g (nI 0).toNatClampNeg (nI 0).toNatClampNeg (nI n).toNatClampNeg))))) = _
  rw [q_cl hn, q_cl (show 0 < 2147483648 by decide), if_neg]
  rintro (h | h | h | h | h)
  · exact (q_lt0 (by decide)).mp h
  · exact (q_lt0 (by decide)).mp h
  · exact (q_lt0 hn).mp h
  · omega
  · omega
theorem cpy_lt {α : Type} {f g : Nat → α} {n k : Nat} (h : k < n) : va_cpy f g 0 0 n k = f k := by
  unfold va_cpy
  rw [if_pos (by omega)]
  congr 1
  omega
theorem stR_none {hp : kw_H} {t a n : Nat} {f : Nat → Option Nat} {cs : List Nat} (h : hp[a]? = some (.inl (t, n, .inr (.inr (.inr (.inr f)))))) (hn : n ≤ 2147483648) {k : Nat} (hk : k < n) : kp_stR hp t a (nI k) none cs = some (hp.set a (.inl (t, n, .inr (.inr (.inr (.inr (va_up f k none))))))) := by
  unfold kp_stR
  rw [h]
  show (if t = t then (if nI k < 0 ∨ n ≤ (nI k).toNatClampNeg then none else some (hp.set a (.inl (t, n, .inr (.inr (.inr (.inr (va_up f (nI k).toNatClampNeg none)))))))) else none) = _
  rw [if_pos rfl, q_cl (by omega), if_neg (q_in hk hn)]
theorem stR_some {hp : kw_H} {t a n b ci : Nat} {f : Nat → Option Nat} {cs : List Nat} {fs : List Value} (h : hp[a]? = some (.inl (t, n, .inr (.inr (.inr (.inr f)))))) (hn : n ≤ 2147483648) {k : Nat} (hk : k < n) (hb : hp[b]? = some (.inr (ci, fs))) (hc : ci ∈ cs) : kp_stR hp t a (nI k) (some b) cs = some (hp.set a (.inl (t, n, .inr (.inr (.inr (.inr (va_up f k (some b)))))))) := by
  unfold kp_stR
  rw [h]
  show (if t = t then (if nI k < 0 ∨ n ≤ (nI k).toNatClampNeg then none else (match hp[b]? with
      | some (.inr (ci, _)) => if ci ∈ cs then some (hp.set a (.inl (t, n, .inr (.inr (.inr (.inr (va_up f (nI k).toNatClampNeg (some b)))))))) else none
      | _ => none)) else none) = _
  rw [if_pos rfl, q_cl (by omega), if_neg (q_in hk hn), hb]
  show (if ci ∈ cs then _ else none) = _
  rw [if_pos hc]
theorem up_lt {α : Type} (f g : Nat → α) (k : Nat) : va_up (fun t => if t < k then f t else g t) k (f k) = fun t => if t < k + 1 then f t else g t := by
  funext t
  unfold va_up
  by_cases e : t = k
  · rw [if_pos e, if_pos (by omega), e]
  · rw [if_neg e]
    by_cases e2 : t < k
    · exact (if_pos e2).trans (if_pos (show t < k + 1 by omega)).symm
    · exact (if_neg e2).trans (if_neg (show ¬ t < k + 1 by omega)).symm
section Bec
variable {hp : kw_H} {a b : Nat} {va na ja ma vb nb jb mb : Nat → Int32} {ta tb : Nat → Option Nat}
theorem c_becLast (h1 : KC hp a va na ja ta ma) (h2 : KC hp b vb nb jb tb mb) (hd : a ≠ b) : ∃ hp' v, X2_become_J70 hp a b = some hp' ∧ KC hp' a v na ja ta ma ∧ (∀ k, k < 6 → v k = vb k) ∧ hp'.length = hp.length ∧ ∀ q, q ≠ a → hp'[q]? = hp[q]? := by
  have hbk : ∀ (h1 h2 : kw_H), KC h1 b vb nb jb tb mb → (∀ q, q ≠ a → h2[q]? = h1[q]?) → (∀ k, k < 5 → b + k ≠ a) → KC h2 b vb nb jb tb mb := fun h1 h2 k f g => KC_fr (X := fun q => q = a) (fun q hq => f q hq) (fun k hk => g k hk) k
  have g : ∀ k, k < 5 → b + k ≠ a := by
    intro k hk e
    have z := h1.1
    rcases (show k = 0 ∨ k = 1 ∨ k = 2 ∨ k = 3 ∨ k = 4 by omega) with rfl | rfl | rfl | rfl | rfl
    · exact hd (by omega)
    · rw [← e, h2.2.1] at z; cases z
    · rw [← e, h2.2.2.1] at z; cases z
    · rw [← e, h2.2.2.2.1] at z; cases z
    · rw [← e, h2.2.2.2.2] at z; cases z
  obtain ⟨p1, x1, y1, l1, f1⟩ := KC_p h1 (k := 0) (by omega) (vb 0)
  have b1 := hbk _ _ h2 f1 g
  obtain ⟨p2, x2, y2, l2, f2⟩ := KC_p y1 (k := 1) (by omega) (vb 1)
  have b2 := hbk _ _ b1 f2 g
  obtain ⟨p3, x3, y3, l3, f3⟩ := KC_p y2 (k := 2) (by omega) (vb 2)
  have b3 := hbk _ _ b2 f3 g
  obtain ⟨p4, x4, y4, l4, f4⟩ := KC_p y3 (k := 3) (by omega) (vb 3)
  have b4 := hbk _ _ b3 f4 g
  obtain ⟨p5, x5, y5, l5, f5⟩ := KC_p y4 (k := 4) (by omega) (vb 4)
  have b5 := hbk _ _ b4 f5 g
  obtain ⟨p6, x6, y6, l6, f6⟩ := KC_p y5 (k := 5) (by omega) (vb 5)
  have x1 : kp_put hp a [2] 4 (.int (vb 0)) = some p1 := x1
  have x2 : kp_put p1 a [2] 5 (.int (vb 1)) = some p2 := x2
  have x3 : kp_put p2 a [2] 6 (.int (vb 2)) = some p3 := x3
  have x4 : kp_put p3 a [2] 7 (.int (vb 3)) = some p4 := x4
  have x5 : kp_put p4 a [2] 8 (.int (vb 4)) = some p5 := x5
  have x6 : kp_put p5 a [2] 9 (.int (vb 5)) = some p6 := x6
  refine ⟨p6, _, ?_, y6, ?_, by omega, fun q hq => by rw [f6 q hq, f5 q hq, f4 q hq, f3 q hq, f2 q hq, f1 q hq]⟩
  · unfold X2_become_J70
    simp only [kc_g4 h2, kc_g5 b1, kc_g6 b2, kc_g7 b3, kc_g8 b4, kc_g9 b5, Option.bind_some, x1, x2, x3, x4, x5, x6]
  · intro k hk
    rcases (show k = 0 ∨ k = 1 ∨ k = 2 ∨ k = 3 ∨ k = 4 ∨ k = 5 by omega) with rfl | rfl | rfl | rfl | rfl | rfl <;> rfl
theorem c_become (h1 : KC hp a va na ja ta ma) (h2 : KC hp b vb nb jb tb mb) (hd : a + 5 ≤ b ∨ b + 5 ≤ a) (hv : TV hp tb) : ∃ hp' v n j t m, X2_become_F hp a b = some hp' ∧ KC hp' a v n j t m ∧ (∀ k, k < 6 → v k = vb k) ∧ (∀ k, k < 8 → n k = nb k) ∧ (∀ k, k < 8 → j k = jb k) ∧ (∀ k, k < 4 → t k = tb k) ∧ (∀ k, k < 36 → m k = mb k) ∧ hp'.length = hp.length ∧ ∀ q, q < a ∨ a + 5 ≤ q → hp'[q]? = hp[q]? := by
  obtain ⟨H1, e1⟩ : ∃ H, H = hp.set (a + 1) (.inl (0, 8, .inl (va_cpy nb na 0 0 8))) := ⟨_, rfl⟩
  have c1 : kp_cpI hp (b + 1) (nI 0) (a + 1) (nI 0) (nI 8) = some H1 := by rw [e1]; exact cp_at h2.2.1 h1.2.1 (by decide)
  have a1 : KC H1 a va (va_cpy nb na 0 0 8) ja ta ma := by rw [e1]; exact KC_w1 h1 _
  have b1 : KC H1 b vb nb jb tb mb := by rw [e1]; exact KC_o h2 (by omega) _
  have f1 : ∀ q, q ≠ a + 1 → H1[q]? = hp[q]? := fun q hq => by rw [e1, List.getElem?_set_ne (Ne.symm hq)]
  have l1 : H1.length = hp.length := by rw [e1]; simp
  clear e1
  obtain ⟨H2, e2⟩ : ∃ H, H = H1.set (a + 2) (.inl (0, 8, .inl (va_cpy jb ja 0 0 8))) := ⟨_, rfl⟩
  have c2 : kp_cpI H1 (b + 2) (nI 0) (a + 2) (nI 0) (nI 8) = some H2 := by rw [e2]; exact cp_at b1.2.2.1 a1.2.2.1 (by decide)
  have a2 : KC H2 a va (va_cpy nb na 0 0 8) (va_cpy jb ja 0 0 8) ta ma := by rw [e2]; exact KC_w2 a1 _
  have b2 : KC H2 b vb nb jb tb mb := by rw [e2]; exact KC_o b1 (by omega) _
  have f2 : ∀ q, q ≠ a + 2 → H2[q]? = H1[q]? := fun q hq => by rw [e2, List.getElem?_set_ne (Ne.symm hq)]
  have l2 : H2.length = H1.length := by rw [e2]; simp
  clear e2
  obtain ⟨H3, e3⟩ : ∃ H, H = H2.set (a + 4) (.inl (0, 36, .inl (va_cpy mb ma 0 0 36))) := ⟨_, rfl⟩
  have c3 : kp_cpI H2 (b + 4) (nI 0) (a + 4) (nI 0) (nI 36) = some H3 := by rw [e3]; exact cp_at b2.2.2.2.2 a2.2.2.2.2 (by decide)
  have a3 : KC H3 a va (va_cpy nb na 0 0 8) (va_cpy jb ja 0 0 8) ta (va_cpy mb ma 0 0 36) := by rw [e3]; exact KC_w4 a2 _
  have b3 : KC H3 b vb nb jb tb mb := by rw [e3]; exact KC_o b2 (by omega) _
  have f3 : ∀ q, q ≠ a + 4 → H3[q]? = H2[q]? := fun q hq => by rw [e3, List.getElem?_set_ne (Ne.symm hq)]
  have l3 : H3.length = H2.length := by rw [e3]; simp
  clear e3
  have ff : ∀ q, q < a ∨ a + 5 ≤ q → H3[q]? = hp[q]? := fun q hq => by rw [f3 q (by omega), f2 q (by omega), f1 q (by omega)]
  obtain ⟨L, hL⟩ : ∃ L : Nat → kw_H, ∀ k, L k = H3.set (a + 3) (.inl (3, 4, .inr (.inr (.inr (.inr (fun t => if t < k then tb t else ta t)))))) := ⟨_, fun k => rfl⟩
  have aL : ∀ k, KC (L k) a va (va_cpy nb na 0 0 8) (va_cpy jb ja 0 0 8) (fun t => if t < k then tb t else ta t) (va_cpy mb ma 0 0 36) := fun k => by rw [hL]; exact KC_w3 a3 _
  have bL : ∀ k, KC (L k) b vb nb jb tb mb := fun k => by rw [hL]; exact KC_o b3 (by omega) _
  have fL : ∀ k q, q < a ∨ a + 5 ≤ q → (L k)[q]? = hp[q]? := fun k q hq => by rw [hL, List.getElem?_set_ne (by omega), ff q hq]
  have vL : ∀ k, TV (L k) tb := fun k => TV_fr (X := fun q => a ≤ q ∧ q < a + 5) (fun q hq => fL k q (by omega)) (fun q hq => KC_NT h1 hq.1 hq.2) hv
  have L0 : L 0 = H3 := by rw [hL]; exact set_same a3.2.2.2.1
  obtain ⟨hp', v, z1, z2, z3, z4, z5⟩ := c_becLast (aL 4) (bL 4) (by omega)
  refine ⟨hp', v, _, _, _, _, ?_, z2, z3, fun k hk => cpy_lt hk, fun k hk => cpy_lt hk, fun k hk => if_pos hk, fun k hk => cpy_lt hk, ?_, fun q hq => by rw [z5 q (by omega), fL 4 q hq]⟩
  · unfold X2_become_F
    simp only [kc_r0 h2, kc_r0 h1, c1, kc_r1 b1, kc_r1 a1, c2, kc_r3 b2, kc_r3 a2, c3, Option.bind_some]
    rw [← L0]
    refine lp_for (fun k => (nI k, L k)) 4 _ (fun k hk => ?_) ?_ 2000 (by omega)
    · show X2_become_b47 _ _ _ _ = some (.inl (nI (k + 1), L (k + 1)))
      unfold X2_become_b47
      simp (disch := omega) only [q_le, kc_r2 (aL k), kc_r2 (bL k), kc_tu (bL k), Option.bind_some, nI_add]
      rw [if_neg (show ¬ 4 ≤ k by omega)]
      have es : ∀ x, tb k = x → (L k).set (a + 3) (.inl (3, 4, .inr (.inr (.inr (.inr (va_up (fun t => if t < k then tb t else ta t) k x)))))) = L (k + 1) := fun x hx => by
        rw [hL, hL, List.set_set, ← hx, up_lt]
      cases ht : tb k with
      | none =>
        simp only [kp_nu]
        rw [stR_none (aL k).2.2.2.1 (by decide) hk, es _ ht]
        rfl
      | some c =>
        obtain ⟨ci, fs, w1, w2⟩ := vL k k c hk ht
        simp only [kp_nu]
        rw [stR_some (aL k).2.2.2.1 (by decide) hk w1 w2, es _ ht]
        rfl
    · show X2_become_b47 _ _ _ _ = _
      unfold X2_become_b47
      rw [if_pos ((q_le (by omega) (by omega)).mpr (Nat.le_refl _)), z1]
      rfl
  · rw [z4, hL]
    simp only [List.length_set]
    omega
def tSm (T : Tw) : Prop := T 0 ≤ 8 ∧ T 1 ≤ 8 ∧ T 2 ≤ 4
theorem tOk.sm {T : Tw} (h : tOk T) : tSm T := ⟨h.1.2, h.2.1.2, h.2.2.1.2⟩
theorem KB_become {T : Tw} (h1 : KC hp a va na ja ta ma) (h2 : KB hp b T) (hs : tSm T) (hd : a + 5 ≤ b ∨ b + 5 ≤ a) : ∃ hp', X2_become_F hp a b = some hp' ∧ KB hp' a T ∧ hp'.length = hp.length ∧ ∀ q, q < a ∨ a + 5 ≤ q → hp'[q]? = hp[q]? := by
  obtain ⟨vb, nb, jb, tb, mb, k1, k2, k3, k4⟩ := h2
  obtain ⟨hp', v, n, j, t, m, z1, z2, z3, z4, z5, z6, z7, z8, z9⟩ := c_become h1 k1 hd k4
  have w4 : TV hp' tb := TV_fr (X := fun q => a ≤ q ∧ q < a + 5) (fun q hq => z9 q (by omega)) (fun q hq => KC_NT h1 hq.1 hq.2) k4
  have w3 : TU hp' tb T := TU_fr (X := fun q => a ≤ q ∧ q < a + 5) (fun q hq => z9 q (by omega)) (fun q hq => KC_NT h1 hq.1 hq.2) k3
  obtain ⟨s0, s1, s2⟩ := hs
  refine ⟨hp', z1, ⟨v, n, j, t, m, z2, ⟨fun k hk => ?_, fun k hk => ?_, fun k hk => ?_, fun k hk => ?_⟩, fun k hk => ?_, fun k c hk hc => ?_⟩, z8, z9⟩
  · rw [z3 k hk]; exact k2.1 k hk
  · rw [z4 k (by omega)]; exact k2.2.1 k hk
  · rw [z5 k (by omega)]; exact k2.2.2.1 k hk
  · rw [z7 k hk]; exact k2.2.2.2 k hk
  · rw [z6 k (by omega)]; exact w3 k hk
  · rw [z6 k hk] at hc; exact w4 k c hk hc
end Bec
