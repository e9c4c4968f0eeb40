/-! ===== a kitchen is kept ===== -/
theorem put_end {hp r : kw_H} {fs : List Value} {k : Nat} {v : Value} (hk : k < fs.length) : kp_put (hp ++ .inr (2, fs) :: r) hp.length [2] k v = some (hp ++ .inr (2, fs.set k v) :: r) := by
  unfold kp_put
  rw [List.getElem?_append_right (Nat.le_refl _), Nat.sub_self]
  show (if (2 : Nat) ∈ [2] ∧ k < fs.length then some ((hp ++ .inr (2, fs) :: r).set hp.length (.inr (2, fs.set k v))) else none) = _
  rw [if_pos ⟨by decide, hk⟩, List.set_append_right _ _ (Nat.le_refl _), Nat.sub_self]
  rfl
theorem al_end {hp r c : kw_H} (h : hp.length + r.length + c.length ≤ 3900) : kp_al (hp ++ r) c = some (hp ++ (r ++ c)) := by
  unfold kp_al
  rw [if_pos (by rw [List.length_append]; exact h), List.append_assoc]
theorem c_newK {hp : kw_H} (hl : hp.length ≤ 3800) : ∃ H, kp_al hp [.inr (2, [.null, .null, .null, .null, .int 0, .int 0, .int 0, .int 0, .int 0, .int 0])] = some (hp ++ [.inr (2, [.null, .null, .null, .null, .int 0, .int 0, .int 0, .int 0, .int 0, .int 0])]) ∧ X2_init_F (hp ++ [.inr (2, [.null, .null, .null, .null, .int 0, .int 0, .int 0, .int 0, .int 0, .int 0])]) hp.length = some H ∧ KC H hp.length (fun _ => 0) (fun _ => 0) (fun _ => 0) (fun _ => none) (fun _ => 0) ∧ H.length = hp.length + 5 ∧ ∀ q, q < hp.length → H[q]? = hp[q]? := by
  refine ⟨hp ++ [.inr (2, [.ref (hp.length + 1), .ref (hp.length + 2), .ref (hp.length + 3), .ref (hp.length + 4), .int 0, .int 0, .int 0, .int 0, .int 0, .int 0]), .inl (0, 8, .inl (fun _ => 0)), .inl (0, 8, .inl (fun _ => 0)), .inl (3, 4, .inr (.inr (.inr (.inr (fun _ => none))))), .inl (0, 36, .inl (fun _ => 0))], ?_, ?_, ⟨?_, ?_, ?_, ?_, ?_⟩, by simp, fun q hq => List.getElem?_append_left hq⟩
  · unfold kp_al
    rw [if_pos (by simp; omega)]
  · unfold X2_init_F
    simp (disch := (simp <;> omega)) only [al_end, put_end, Option.bind_some, List.cons_append, List.nil_append, List.length_append, List.length_cons, List.length_nil]
    rfl
  · rw [List.getElem?_append_right (Nat.le_refl _), Nat.sub_self]
    rfl
  · rw [List.getElem?_append_right (Nat.le_add_right _ _), Nat.add_sub_cancel_left]
    rfl
  · rw [List.getElem?_append_right (Nat.le_add_right _ _), Nat.add_sub_cancel_left]
    rfl
  · rw [List.getElem?_append_right (Nat.le_add_right _ _), Nat.add_sub_cancel_left]
    rfl
  · rw [List.getElem?_append_right (Nat.le_add_right _ _), Nat.add_sub_cancel_left]
    rfl
section Keep
variable {hp : kw_H} {ks ka : Nat → Nat → Int32} {kl : Nat → Nat → Int64} {kr : Nat → Nat → Option Nat} {T : Tw} {n o : Nat} {A B : Nat → Tw}
theorem c_keepIn {c m t : Nat} {g : Nat → Option Nat} (h : CV hp ks ka kl kr) (hK : KB hp 20 T) (hs : tSm T) (hcell : hp[c]? = some (.inl (4, m, .inr (.inr (.inr (.inr g)))))) (hc : 25 ≤ c ∧ c < 38) (hm : m ≤ 24) (ht : t < m) (h47 : 47 ≤ hp.length) (hl : hp.length ≤ 3800) (hown : ∀ a, g t = some a → 47 ≤ a ∧ ∃ v nm jb tu tm, KC hp a v nm jb tu tm) :
    ∃ hp' a, X11_keepIn_F hp 0 c (nI t) = some hp' ∧ KB hp' a T ∧ hp'[c]? = some (.inl (4, m, .inr (.inr (.inr (.inr (va_up g t (some a))))))) ∧ 47 ≤ a ∧ ((g t = some a ∧ hp'.length = hp.length) ∨ (g t = none ∧ a = hp.length ∧ hp'.length = hp.length + 5)) ∧ (∀ q, ¬ (q = c ∨ (a ≤ q ∧ q < a + 5) ∨ hp.length ≤ q) → hp'[q]? = hp[q]?) ∧ ∀ q, (q = c ∨ (a ≤ q ∧ q < a + 5) ∨ hp.length ≤ q) → NT hp q := by
  have e20 : ∀ H : kw_H, H[0]? = hp[0]? → kp_gR H 0 [10] 2 = some 20 := fun H e => by unfold kp_gR; rw [e, cv0 h]; rfl
  have elen : kp_len hp c = some (nI m) := by unfold kp_len; rw [hcell]; rfl
  have eld : kp_ldR hp 4 c (nI t) = some (g t) := by
    unfold kp_ldR
    rw [hcell]
    show (if 4 = 4 then (if nI t < 0 ∨ m ≤ (nI t).toNatClampNeg then none else some (g (nI t).toNatClampNeg)) else none) = _
    rw [if_pos rfl, q_cl (by omega), if_neg (q_in ht (by omega))]
  have NTc : NT hp c := fun ci fs e => by rw [hcell] at e; cases e
  have NTe : ∀ q, hp.length ≤ q → NT hp q := fun q hq ci fs e => by rw [List.getElem?_eq_none hq] at e; cases e
  have unf : ∀ R : Option kw_H, kp_nu (g t) ((kp_al hp [.inr (2, [.null, .null, .null, .null, .int 0, .int 0, .int 0, .int 0, .int 0, .int 0])]).bind fun hp4 => (X2_init_F hp4 (List.length hp)).bind fun r5 => (kp_stR r5 4 c (nI t) (some (List.length hp)) [2]).bind fun hp6 => X11_keepIn_J31 hp6 0 (List.length hp)) (fun b3 => X11_keepIn_J31 hp 0 b3) = R → X11_keepIn_F hp 0 c (nI t) = R := fun R hR => by
    unfold X11_keepIn_F
    rw [if_neg (fun z => (q_lt0 (by omega)).mp z), elen, Option.bind_some, if_pos ((q_lt (by omega) (by omega)).mpr ht), eld, Option.bind_some]
    exact hR
  cases hg : g t with
  | some a =>
    obtain ⟨a47, v, nm, jb, tu, tm, kc⟩ := hown a hg
    obtain ⟨hp', z1, z2, z3, z4⟩ := KB_become kc hK hs (by omega)
    have hla := KC_lt kc
    refine ⟨hp', a, unf _ ?_, z2, ?_, a47, Or.inl ⟨rfl, z3⟩, fun q hq => z4 q (by omega), fun q hq => ?_⟩
    · rw [hg]
      show X11_keepIn_J31 hp 0 a = some hp'
      unfold X11_keepIn_J31
      rw [e20 hp rfl, Option.bind_some, kc_ob kc, Option.bind_some, z1]
      rfl
    · rw [z4 c (by omega), hcell]
      have : va_up g t (some a) = g := by
        funext k
        unfold va_up
        split
        · rename_i e; rw [e, hg]
        · rfl
      rw [this]
    · rcases hq with rfl | hq | hq
      · exact NTc
      · exact KC_NT kc hq.1 hq.2
      · exact NTe q hq
  | none =>
    obtain ⟨H, n1, n2, n3, n4, n5⟩ := c_newK hl
    have hHc : H[c]? = some (.inl (4, m, .inr (.inr (.inr (.inr g))))) := by rw [n5 c (by omega)]; exact hcell
    obtain ⟨H1, e1⟩ : ∃ H1, H1 = H.set c (.inl (4, m, .inr (.inr (.inr (.inr (va_up g t (some hp.length))))))) := ⟨_, rfl⟩
    have s1 : kp_stR H 4 c (nI t) (some hp.length) [2] = some H1 := by
      rw [e1]
      exact stR_some hHc (by omega) ht n3.1 (by decide)
    have k1 : KC H1 hp.length (fun _ => 0) (fun _ => 0) (fun _ => 0) (fun _ => none) (fun _ => 0) := by rw [e1]; exact KC_o n3 (by omega) _
    have f1 : ∀ q, ¬ (q = c ∨ hp.length ≤ q) → H1[q]? = hp[q]? := fun q hq => by rw [e1, List.getElem?_set_ne (by omega), n5 q (by omega)]
    have k20 : KB H1 20 T := KB_fr (X := fun q => q = c ∨ hp.length ≤ q) f1 (fun q hq => hq.elim (fun e => by rw [e]; exact NTc) (fun e => NTe q e)) (fun k hk => by omega) hK
    obtain ⟨hp', z1, z2, z3, z4⟩ := KB_become k1 k20 hs (by omega)
    refine ⟨hp', hp.length, unf _ ?_, z2, ?_, h47, Or.inr ⟨rfl, rfl, ?_⟩, fun q hq => by rw [z4 q (by omega), f1 q (by omega)], fun q hq => ?_⟩
    · rw [hg]
      show ((kp_al hp [.inr (2, [.null, .null, .null, .null, .int 0, .int 0, .int 0, .int 0, .int 0, .int 0])]).bind fun hp4 => (X2_init_F hp4 (List.length hp)).bind fun r5 => (kp_stR r5 4 c (nI t) (some (List.length hp)) [2]).bind fun hp6 => X11_keepIn_J31 hp6 0 (List.length hp)) = some hp'
      rw [n1, Option.bind_some, n2, Option.bind_some, s1, Option.bind_some]
      unfold X11_keepIn_J31
      rw [e20 H1 (f1 0 (by omega)), Option.bind_some, kc_ob k1, Option.bind_some, z1]
      rfl
    · rw [z4 c (by omega), e1, List.getElem?_set_self (by omega)]
    · rw [z3, e1, List.length_set, n4]
    · rcases hq with rfl | hq | hq
      · exact NTc
      · exact NTe q (by omega)
      · exact NTe q hq
theorem q_ct_one {p p' : Nat → Bool} {s : Nat} (h1 : p s = false) (h2 : p' s = true) : ∀ n, (∀ i, i < n → i ≠ s → p' i = p i) → s < n → q_ct p' n = q_ct p n + 1
  | 0, _, h => by omega
  | n + 1, h, hs => by
    unfold q_ct
    by_cases e : s = n
    · subst e
      rw [q_ct_cg s (fun i hi => h i (by omega) (by omega)), h1, h2]
      rfl
    · rw [q_ct_one h1 h2 n (fun i hi => h i (by omega)) (by omega), h n (by omega) (fun z => e z.symm)]
      omega
theorem own_keep {hp1 : kw_H} {kr1 : Nat → Nat → Option Nat} {s a c : Nat} (i11 : I_own hp kr) (hs : s < 26) (ha : 47 ≤ a) (hd : (OWN kr s = some a ∧ hp1.length = hp.length) ∨ (OWN kr s = none ∧ a = hp.length ∧ hp1.length = hp.length + 5)) (hf : ∀ q, ¬ (q = c ∨ (a ≤ q ∧ q < a + 5) ∨ hp.length ≤ q) → hp1[q]? = hp[q]?) (hc : c < 38) (hK : KB hp1 a T) (hOW : ∀ i, OWN kr1 i = if i = s then some a else OWN kr i) :
    (∀ i b, i < 26 → i ≠ s → OWN kr i = some b → (b + 5 ≤ a ∨ a + 5 ≤ b) ∧ b + 4 < hp.length ∧ 47 ≤ b) ∧ I_own hp1 kr1 ∧ ∀ j, I_len hp kr j → I_len hp1 kr1 j := by
  have key : ∀ i b, i < 26 → i ≠ s → OWN kr i = some b → (b + 5 ≤ a ∨ a + 5 ≤ b) ∧ b + 4 < hp.length ∧ 47 ≤ b := by
    intro i b hi hne hb
    obtain ⟨g1, v, nm, jb, tu, tm, g2⟩ := i11.1 i b hi hb
    have g3 := KC_lt g2
    refine ⟨?_, g3, g1⟩
    rcases hd with ⟨d1, d2⟩ | ⟨d1, d2, d3⟩
    · exact i11.2 i s b a hi hs hne hb d1
    · left; omega
  refine ⟨key, ⟨fun i b hi hb => ?_, fun i j b b' hi hj hij hb hb' => ?_⟩, fun j hj => ?_⟩
  · rw [hOW] at hb
    by_cases e : i = s
    · rw [if_pos e] at hb
      cases hb
      obtain ⟨v, nm, jb, tu, tm, k, -⟩ := hK
      exact ⟨ha, v, nm, jb, tu, tm, k⟩
    · rw [if_neg e] at hb
      obtain ⟨g1, g2, g3⟩ := key i b hi e hb
      obtain ⟨-, v, nm, jb, tu, tm, g4⟩ := i11.1 i b hi hb
      exact ⟨g3, v, nm, jb, tu, tm, KC_fr (X := fun q => q = c ∨ (a ≤ q ∧ q < a + 5) ∨ hp.length ≤ q) hf (fun k hk => by omega) g4⟩
  · rw [hOW] at hb hb'
    by_cases e : i = s
    · rw [if_pos e] at hb
      cases hb
      rw [if_neg (fun z => hij (e.trans z.symm))] at hb'
      have := (key j b' hj (fun z => hij (e.trans z.symm)) hb').1
      omega
    · rw [if_neg e] at hb
      by_cases e' : j = s
      · rw [if_pos e'] at hb'
        cases hb'
        exact (key i b hi e hb).1
      · rw [if_neg e'] at hb'
        exact i11.2 i j b b' hi hj hij hb hb'
  · unfold I_len at *
    rcases hd with ⟨d1, d2⟩ | ⟨d1, d2, d3⟩
    · rw [q_ct_cg (p := fun i => (OWN kr1 i).isSome) (p' := fun i => (OWN kr i).isSome) 26 (fun i hi => by
        show (OWN kr1 i).isSome = (OWN kr i).isSome
        rw [hOW]
        split
        · rename_i e; rw [e, d1]
        · rfl)]
      omega
    · have := q_ct_one (p := fun i => (OWN kr i).isSome) (p' := fun i => (OWN kr1 i).isSome) (s := s) (by show (OWN kr s).isSome = false; rw [d1]; rfl) (by show (OWN kr1 s).isSome = true; rw [hOW, if_pos rfl]; rfl) 26 (fun i hi hne => by
        show (OWN kr1 i).isSome = (OWN kr i).isSome
        rw [hOW, if_neg hne]) hs
      omega
theorem CI_keepJ (h : CI hp ks ka kl kr T n o A B) (hn : n < 24) (hs : tSm T) (h47 : 47 ≤ hp.length) (hl : hp.length ≤ 3800) : ∃ hp' ks' kr', X11_keepAct_J34 hp 0 = some hp' ∧ CI hp' ks' ka kl kr' T (n + 1) o (fun k => if k = n then T else A k) B ∧ (∀ q, 38 ≤ q → q < 47 → hp'[q]? = hp[q]?) ∧ ks' = up2 ks 0 8 (nI (n + 1)) ∧ kr' 37 = kr 37 ∧ kr' 18 = kr 18 ∧ hp.length ≤ hp'.length ∧ ∀ j, I_len hp kr j → I_len hp' kr' j := by
  obtain ⟨i1, t1, ⟨a1, a2, a3, a4, a5⟩, b1, i11, i12⟩ := h
  obtain ⟨s, hse⟩ : ∃ s, s = (o + n) % 24 := ⟨_, rfl⟩
  have hs24 : s < 24 := by omega
  have hOs : ∀ k, k < 24 → OWN kr k = kr 36 k := fun k hk => by unfold OWN; rw [if_pos hk]
  obtain ⟨hp1, a, z1, z2, z3, z4, z5, z6, z7⟩ := c_keepIn i1 t1 hs (cv36 i1) (by omega) (Nat.le_refl _) hs24 h47 hl (fun a ha => i11.1 s a (by omega) (by rw [hOs s hs24]; exact ha))
  have hlen : hp.length ≤ hp1.length := by omega
  have cv1 := CV_36 i1 _ z3 (fun q hq hne => z6 q (by omega))
  obtain ⟨hp2, p1, p2, p3, p4⟩ := c0_p8 cv1 (nI (n + 1))
  have hOW : ∀ i, OWN (fun q => if q = 36 then va_up (kr 36) s (some a) else kr q) i = if i = s then some a else OWN kr i := by
    intro i
    unfold OWN va_up
    by_cases e : i < 24
    · rw [if_pos e, if_pos e]
      rfl
    · rw [if_neg e, if_neg e, if_neg (by omega)]
      rfl
  rw [← hOs s hs24] at z5
  obtain ⟨key, own, len⟩ := own_keep i11 (by omega) z4 z5 z6 (by omega) z2 hOW
  have F : ∀ q, ¬ ((q = 36 ∨ (a ≤ q ∧ q < a + 5) ∨ hp.length ≤ q) ∨ q = 0) → hp2[q]? = hp[q]? := fun q hq => by rw [p4 q (by omega), z6 q (by omega)]
  have FN : ∀ q, ((q = 36 ∨ (a ≤ q ∧ q < a + 5) ∨ hp.length ≤ q) ∨ q = 0) → NT hp q := fun q hq => hq.elim (z7 q) (fun e => CV_NT i1 (by omega))
  have NT0 : NT hp1 0 := CV_NT cv1 (by omega)
  have KO : ∀ i b T', i < 26 → i ≠ s → OWN kr i = some b → KB hp b T' → KB hp2 b T' := fun i b T' hi hne hb hk => by
    obtain ⟨g1, g2, g3⟩ := key i b hi hne hb
    exact KB_fr (X := fun q => (q = 36 ∨ (a ≤ q ∧ q < a + 5) ∨ hp.length ≤ q) ∨ q = 0) F FN (fun k hk => by omega) hk
  refine ⟨hp2, _, _, ?_, ⟨p2, KB_fr (X := fun q => (q = 36 ∨ (a ≤ q ∧ q < a + 5) ∨ hp.length ≤ q) ∨ q = 0) F FN (fun k hk => by omega) t1, ⟨by omega, a2, rfl, a4, fun k hk => ?_⟩, fun k b hk hb => ?_, ⟨fun i b hi hb => ?_, own.2⟩, TV_fr (X := fun q => (q = 36 ∨ (a ≤ q ∧ q < a + 5) ∨ hp.length ≤ q) ∨ q = 0) F FN i12⟩, fun q h1 h2 => F q (by omega), rfl, rfl, rfl, by omega, fun j hj => by have := len j hj; unfold I_len at *; rw [p3]; exact this⟩
  · unfold X11_keepAct_J34
    simp (disch := omega) only [c0_r5 i1, c0_g7 i1, c0_g8 i1, a3, a4, Option.bind_some, nI_add, c_rest, c0_ob i1]
    rw [← hse, z1, Option.bind_some, c0_g8 cv1, Option.bind_some, a3, nI_add, p1]
    rfl
  · by_cases e : k = n
    · subst e
      refine ⟨a, ?_, ?_⟩
      · show va_up (kr 36) s (some a) ((o + k) % 24) = some a
        rw [← hse, up_at]
      · simp only [if_true]
        exact KB_fr (X := fun q => q = 0) (fun q hq => p4 q hq) (fun q hq => by rw [hq]; exact NT0) (fun k hk => by omega) z2
    · obtain ⟨b, c1, c2⟩ := a5 k (by omega)
      have hne : (o + k) % 24 ≠ s := by omega
      refine ⟨b, ?_, ?_⟩
      · show va_up (kr 36) s (some a) ((o + k) % 24) = some b
        rw [up_ne _ _ hne]
        exact c1
      · simp only [e, if_false]
        exact KO _ b _ (by omega) hne (by rw [hOs _ (by omega)]; exact c1) c2
  · exact KO (24 + k) b _ (by omega) (by omega) (by unfold OWN; rw [if_neg (by omega), show 24 + k - 24 = k by omega]; exact hb) (b1 k b hk hb)
  · obtain ⟨g1, v, nm, jb, tu, tm, g2⟩ := own.1 i b hi hb
    exact ⟨g1, v, nm, jb, tu, tm, KC_fr (X := fun q => q = 0) (fun q hq => p4 q hq) (fun k hk => by omega) g2⟩
def aN (n : Nat) : Nat := if n = 24 then 24 else n + 1
def aA (T : Tw) (n : Nat) (A : Nat → Tw) : Nat → Tw := if n = 24 then (fun k => if k = 23 then T else A (k + 1)) else (fun k => if k = n then T else A k)
theorem CI_keepAct (h : CI hp ks ka kl kr T n o A B) (hs : tSm T) (h47 : 47 ≤ hp.length) (hl : hp.length ≤ 3800) : ∃ hp' ks' kr' o', X11_keepAct_F hp 0 = some hp' ∧ CI hp' ks' ka kl kr' T (aN n) o' (aA T n A) B ∧ (∀ q, 38 ≤ q → q < 47 → hp'[q]? = hp[q]?) ∧ (∀ q k, ¬ (q = 0 ∧ (k = 7 ∨ k = 8)) → ks' q k = ks q k) ∧ kr' 37 = kr 37 ∧ kr' 18 = kr 18 ∧ hp.length ≤ hp'.length ∧ ∀ j, I_len hp kr j → I_len hp' kr' j := by
  obtain ⟨i1, t1, ⟨a1, a2, a3, a4, a5⟩, b1, i11, i12⟩ := id h
  unfold aN aA
  by_cases e : n = 24
  · subst e
    obtain ⟨hp1, p1, p2, p3, p4⟩ := c0_p7 i1 (nI ((o + 1) % 24))
    obtain ⟨hp2, r1, r2, r3, r4⟩ := c0_p8 p2 (nI 23)
    have F : ∀ q, ¬ q = 0 → hp2[q]? = hp[q]? := fun q hq => by rw [r4 q hq, p4 q hq]
    have FN : ∀ q, q = 0 → NT hp q := fun q hq => CV_NT i1 (by omega)
    have hC2 : CI hp2 (up2 (up2 ks 0 7 (nI ((o + 1) % 24))) 0 8 (nI 23)) ka kl kr T 23 ((o + 1) % 24) (fun k => A (k + 1)) B := by
      refine ⟨r2, KB_fr (X := fun q => q = 0) F FN (fun k hk => by omega) t1, ⟨by omega, by omega, rfl, rfl, fun k hk => ?_⟩, fun k a hk ha => ?_, ⟨fun i a hi ha => ?_, i11.2⟩, TV_fr (X := fun q => q = 0) F FN i12⟩
      · obtain ⟨a, c1, c2⟩ := a5 (k + 1) (by omega)
        have := own_a i11 (Nat.mod_lt _ (by omega)) c1
        refine ⟨a, ?_, KB_fr (X := fun q => q = 0) F FN (fun k hk => by omega) c2⟩
        rw [show ((o + 1) % 24 + k) % 24 = (o + (k + 1)) % 24 by omega]
        exact c1
      · have := own_i i11 hk ha
        exact KB_fr (X := fun q => q = 0) F FN (fun k hk => by omega) (b1 k a hk ha)
      · obtain ⟨g1, v, nm, jb, tu, tm, g2⟩ := i11.1 i a hi ha
        exact ⟨g1, v, nm, jb, tu, tm, KC_fr (X := fun q => q = 0) F (fun k hk => by omega) g2⟩
    obtain ⟨hp', ks', kr', z1, z2, z3, z4, z5, z6, z7, z8⟩ := CI_keepJ hC2 (by omega) hs (by omega) (by omega)
    refine ⟨hp', ks', kr', _, ?_, z2, fun q g1 g2 => by rw [z3 q g1 g2, F q (by omega)], fun q k hq => ?_, z5, z6, by omega, fun j hj => z8 j (by unfold I_len at *; rw [r3, p3]; exact hj)⟩
    · unfold X11_keepAct_F
      rw [c0_g8 i1, Option.bind_some, a3, if_pos rfl, c0_g7 i1, Option.bind_some, a4, nI_add, c_rest (by omega) (by omega) (by omega), Option.bind_some, p1, Option.bind_some, c0_g8 p2, Option.bind_some]
      rw [show up2 ks 0 7 (nI ((o + 1) % 24)) 0 8 = nI 24 from a3, show nI 24 - nI 1 = nI 23 from q_sub1 23, r1, Option.bind_some]
      exact z1
    · rw [z4]
      unfold up2
      rw [if_neg (by omega), if_neg (by omega), if_neg (by omega)]
  · obtain ⟨hp', ks', kr', z1, z2, z3, z4, z5, z6, z7, z8⟩ := CI_keepJ h (by omega) hs h47 hl
    rw [if_neg e, if_neg e]
    refine ⟨hp', ks', kr', o, ?_, z2, z3, fun q k hq => ?_, z5, z6, z7, z8⟩
    · unfold X11_keepAct_F
      rw [c0_g8 i1, Option.bind_some, a3, if_neg (fun z => e ((q_eq (by omega) (by omega)).mp z))]
      exact z1
    · rw [z4]
      unfold up2
      rw [if_neg (by omega)]
end Keep
section MKeep
variable {C P : kw_H} {sc : Nat → Int32} {ar : Nat → Nat → Int32} {f : Nat → Int32} {T : Tw} {n : Nat} {A : Nat → Tw}
theorem upd_upd (f : Nat → Int32) (k : Nat) (x y : Int32) : upd (upd f k x) k y = upd f k y := by
  funext j
  unfold upd
  split <;> rfl
theorem r_g2 (hC : C.length = 38) : kp_gI (hR C sc ar P f) 38 [11] 2 = some (sc 2) := m_g2 hC
theorem r_p2 (hC : C.length = 38) (x : Int32) : kp_put (hR C sc ar P f) 38 [11] 2 (.int x) = some (hR C (upd sc 2 x) ar P f) := m_p2 hC x
theorem m_kp62 (hC : C.length = 38) {m s0 : Nat} (hm : m < 24) : ∃ f', X12_keepPast_J62 (hR C sc ar P f) 38 (nI s0) (nI (s0 + m)) 38 = some (hR C (upd sc 2 (nI (m + 1))) ar P f') ∧ (∀ k, k < 66 → f' (66 + 66 * m + k) = f k) ∧ ∀ k, k < 66 + 66 * m ∨ 132 + 66 * m ≤ k → f' k = f k := by
  obtain ⟨f', c1, c2, c3⟩ := m_copyTown (C := C) (P := P) (sc := upd sc 2 (nI m)) (ar := ar) (f := f) hC (a := 0) (b := 66 + 66 * m) (by omega) (by omega) (by omega)
  refine ⟨f', ?_, fun k hk => by rw [c2 k hk, Nat.zero_add], fun k hk => c3 k (by omega)⟩
  unfold X12_keepPast_J62
  rw [q_sub, r_p2 hC, Option.bind_some, r_g2 hC, Option.bind_some, pk_us, r_ob hC, Option.bind_some, q_mul, nI_add, c1, Option.bind_some, r_g2 hC, Option.bind_some, pk_us, nI_add, r_p2 hC, Option.bind_some, upd_upd]
theorem m_keepPast (hC : C.length = 38) (h : MI sc f T n A) (hn : n ≤ 24) : ∃ f', X12_keepPast_F (hR C sc ar P f) 38 = some (hR C (upd sc 2 (nI (aN n))) ar P f') ∧ MI (upd sc 2 (nI (aN n))) f' T (aN n) (aA T n A) ∧ ∀ k, 1650 ≤ k → f' k = f k := by
  obtain ⟨h1, h2, h3⟩ := h
  unfold aN aA
  by_cases e : n = 24
  · subst e
    obtain ⟨F, hF⟩ : ∃ F : Nat → Nat → Int32, ∀ i, F i = fun k => if 66 ≤ k ∧ k < 66 + i then f (k + 66) else f k := ⟨_, fun _ => rfl⟩
    obtain ⟨f', c1, c2, c3⟩ := m_kp62 (C := C) (P := P) (sc := sc) (ar := ar) (f := F 1518) hC (m := 23) (s0 := 1) (by omega)
    have e0 : F 0 = f := by rw [hF]; funext k; rw [if_neg (by omega)]
    refine ⟨f', ?_, ⟨fun k hk => ?_, rfl, fun i hi k hk => ?_⟩, fun k hk => ?_⟩
    · unfold X12_keepPast_F
      conv => lhs; rw [← e0]
      refine lp_for (fun i => (nI i, hR C sc ar P (F i))) 1518 _ (fun i hi => ?_) ?_ 2000 (by omega)
      · show X12_keepPast_b2 _ _ _ = some (Sum.inl (nI (i + 1), hR C sc ar P (F (i + 1))))
        unfold X12_keepPast_b2
        rw [if_neg (fun z => by have := (q_le (show 1518 < 2147483648 by decide) (show i < 2147483648 by omega)).mp z; omega), r_g2 hC, Option.bind_some, h2, if_pos rfl]
        simp only [r_r0 hC, Option.bind_some, nI_add, r_ld hC (show 132 + i < 1848 by omega), r_st hC (show 66 + i < 1848 by omega)]
        congr 4
        rw [hF, hF]
        funext k
        unfold upd
        by_cases e : k = 66 + i
        · rw [if_pos e]
          show (if 66 ≤ 132 + i ∧ 132 + i < 66 + i then f (132 + i + 66) else f (132 + i)) = (if 66 ≤ k ∧ k < 66 + (i + 1) then f (k + 66) else f k)
          rw [if_neg (by omega), if_pos (by omega)]
          congr 1
          omega
        · rw [if_neg e]
          show (if 66 ≤ k ∧ k < 66 + i then f (k + 66) else f k) = (if 66 ≤ k ∧ k < 66 + (i + 1) then f (k + 66) else f k)
          by_cases e2 : 66 ≤ k ∧ k < 66 + i
          · rw [if_pos e2, if_pos (by omega)]
          · rw [if_neg e2, if_neg (by omega)]
      · show X12_keepPast_b2 _ _ _ = _
        unfold X12_keepPast_b2
        rw [if_pos ((q_le (by omega) (by omega)).mpr (Nat.le_refl _))]
        unfold X12_keepPast_J43
        rw [r_g2 hC, Option.bind_some, Option.bind_some, h2, if_pos rfl, c1]
        rfl
    · have := c3 k (by omega)
      rw [Nat.zero_add, this, hF]
      show (if 66 ≤ k ∧ k < 66 + 1518 then f (k + 66) else f k) = _
      rw [if_neg (by omega)]
      have := h1 k hk
      rwa [Nat.zero_add] at this
    · have hi : i < 24 := hi
      by_cases e2 : i = 23
      · subst e2
        rw [show 66 + 66 * 23 + k = 66 + 66 * 23 + k from rfl, c2 k hk, hF]
        show (if 66 ≤ k ∧ k < 66 + 1518 then f (k + 66) else f k) = nI ((if 24 = 24 then (fun k => if k = 23 then T else A (k + 1)) else (fun k => if k = 24 then T else A k)) 23 k)
        rw [if_neg (by omega)]
        have := h1 k hk
        rwa [Nat.zero_add] at this
      · rw [c3 _ (by omega), hF]
        show (if 66 ≤ 66 + 66 * i + k ∧ 66 + 66 * i + k < 66 + 1518 then f (66 + 66 * i + k + 66) else f (66 + 66 * i + k)) = nI ((if i = 23 then T else A (i + 1)) k)
        rw [if_pos (by omega), if_neg e2, ← h3 (i + 1) (by omega) k hk]
        congr 1
        omega
    · rw [c3 _ (by omega), hF]
      show (if 66 ≤ k ∧ k < 66 + 1518 then f (k + 66) else f k) = _
      rw [if_neg (by omega)]
  · rw [if_neg e, if_neg e]
    obtain ⟨f', c1, c2, c3⟩ := m_kp62 (C := C) (P := P) (sc := sc) (ar := ar) (f := f) hC (m := n) (s0 := 0) (by omega)
    refine ⟨f', ?_, ⟨fun k hk => ?_, rfl, fun i hi k hk => ?_⟩, fun k hk => c3 k (by omega)⟩
    · unfold X12_keepPast_F
      show kp_lp (X12_keepPast_B2 38) (1999 + 1) (nI 0, hR C sc ar P f) = _
      unfold kp_lp
      have eb : X12_keepPast_B2 38 (nI 0, hR C sc ar P f) = some (.inr (hR C (upd sc 2 (nI (n + 1))) ar P f')) := by
        show X12_keepPast_b2 38 (nI 0) (hR C sc ar P f) = _
        unfold X12_keepPast_b2
        rw [if_neg (by decide), r_g2 hC, Option.bind_some, h2, if_neg (fun z => e ((q_eq (by omega) (by omega)).mp z))]
        unfold X12_keepPast_J43
        rw [r_g2 hC, Option.bind_some, Option.bind_some, h2, if_neg (fun z => e ((q_eq (by omega) (by omega)).mp z))]
        rw [Nat.zero_add] at c1
        rw [c1]
        rfl
      rw [eb]
    · rw [Nat.zero_add, c3 k (by omega)]
      have := h1 k hk
      rwa [Nat.zero_add] at this
    · by_cases e2 : i = n
      · subst e2
        rw [c2 k hk]
        simp only [if_true]
        have := h1 k hk
        rwa [Nat.zero_add] at this
      · rw [c3 _ (by omega)]
        simp only [e2, if_false]
        exact h3 i (by omega) k hk
end MKeep
