/-! ===== kitchen ===== -/
section NT2
variable {b : Nat → Nat} {m1 m2 m : Nat} {kds bys : Nat → Nat}
theorem nT_nm {k : Nat} (hk : k < m1) : nT b m1 m2 m kds bys (6 + k) = nmV (b (1 + k)) := by
  unfold nT
  rw [if_neg (by omega), if_neg (by omega), if_neg (by omega), if_pos (by omega), show 1 + (6 + k - 6) = 1 + k by omega]
theorem nT_jb {k : Nat} (h1 : m1 ≤ 8) (hk : k < m2) : nT b m1 m2 m kds bys (14 + k) = nmV (b (3 + m1 + k)) := by
  unfold nT
  rw [if_neg (by omega), if_neg (by omega), if_neg (by omega), if_neg (by omega), if_pos (by omega), show 3 + m1 + (14 + k - 14) = 3 + m1 + k by omega]
theorem nT_kd {k : Nat} (h1 : m1 ≤ 8) (h2 : m2 ≤ 8) (hk : k < m) : nT b m1 m2 m kds bys (22 + k) = kds k := by
  unfold nT
  rw [if_neg (by omega), if_neg (by omega), if_neg (by omega), if_neg (by omega), if_neg (by omega), if_pos (by omega), show 22 + k - 22 = k by omega]
theorem nT_by {k : Nat} (h1 : m1 ≤ 8) (h2 : m2 ≤ 8) (hm : m ≤ 4) (hk : k < m) : nT b m1 m2 m kds bys (26 + k) = bys k := by
  unfold nT
  rw [if_neg (by omega), if_neg (by omega), if_neg (by omega), if_neg (by omega), if_neg (by omega), if_neg (by omega), if_pos (by omega), show 26 + k - 26 = k by omega]
theorem nT_tm {k : Nat} (h1 : m1 ≤ 8) (h2 : m2 ≤ 8) (hm : m ≤ 4) : nT b m1 m2 m kds bys (30 + k) = 0 := by
  unfold nT
  rw [if_neg (by omega), if_neg (by omega), if_neg (by omega), if_neg (by omega), if_neg (by omega), if_neg (by omega), if_neg (by omega)]
theorem nT_0 : nT b m1 m2 m kds bys 0 = m1 := if_pos rfl
theorem nT_1 : nT b m1 m2 m kds bys 1 = m2 := (if_neg (by omega)).trans (if_pos rfl)
theorem nT_2 : nT b m1 m2 m kds bys 2 = m := (if_neg (by omega)).trans ((if_neg (by omega)).trans (if_pos rfl))
theorem nT_z {q : Nat} (hq : 3 ≤ q) (h6 : q < 6) : nT b m1 m2 m kds bys q = 0 := by
  unfold nT
  rw [if_neg (by omega), if_neg (by omega), if_neg (by omega), if_neg (by omega), if_neg (by omega), if_neg (by omega), if_neg (by omega)]
theorem nT_real {L : Nat} {ps : Nat → Nat} (h : SUC b L m1 m2 m ps kds bys) : tReal (nT b m1 m2 m kds bys) := by
  obtain ⟨h1, h2, hm, hm0, hs, he⟩ := h
  have n1 := h1.2.1.1
  have n2 := h2.2.1.1
  have p1 := h1.2.2.1
  have p2 := h2.2.2.1
  have nv : ∀ k, nmO b L k = true → nmV (b k) ≤ 6 := fun k hk => by
    have := (nmO_b hk).2
    unfold nmV
    split <;> omega
  refine ⟨⟨?_, ?_, ?_, ?_, ?_, ?_, ?_, ?_, ?_, ?_, ?_⟩, ?_⟩
  · rw [nT_0]; omega
  · rw [nT_1]; omega
  · rw [nT_2]; omega
  · rw [nT_z (by omega) (by omega)]; omega
  · rw [nT_z (by omega) (by omega), nT_1]; omega
  · rw [nT_z (by omega) (by omega)]; omega
  · rw [nT_0]
    intro k hk
    rw [nT_nm hk]
    exact nv _ (by have := h1.2.1.2.1 k hk; rw [Nat.zero_add] at this; exact this)
  · rw [nT_1]
    intro k hk
    rw [nT_jb n1 hk]
    exact nv _ (by have := h2.2.1.2.1 k hk; rw [show 2 + m1 + 1 + k = 3 + m1 + k by omega] at this; exact this)
  · rw [nT_2]
    intro k hk
    rw [nT_kd n1 n2 hk]
    obtain ⟨-, g1, g2, -⟩ := hs.2 k hk
    have := kdA_le b L (ps k)
    omega
  · rw [nT_2]
    intro k hk
    rw [nT_by n1 n2 hm hk]
    obtain ⟨-, -, -, -, s, -, g, -⟩ := hs.2 k hk
    exact g
  · intro k hk
    rw [nT_tm n1 n2 hm]
    omega
  · rw [nT_z (by omega) (by omega)]; omega
end NT2
section Kit
variable {j : Nat} {hp hp' : kw_H} {ks ka ks' ka' : Nat → Nat → Int32} {kl kl' : Nat → Nat → Int64} {kr kr' : Nat → Nat → Option Nat} {T : Tw} {n o : Nat} {A B : Nat → Tw}
theorem CI_fr2 {X : Nat → Prop} (h : CI hp ks ka kl kr T n o A B) (hCV : CV hp' ks' ka' kl' kr') (hf : ∀ q, ¬ X q → hp'[q]? = hp[q]?) (hX : ∀ q, X q → NT hp q) (h20 : ∀ k, k < 5 → ¬ X (20 + k)) (hO : ∀ i a, i < 26 → OWN kr i = some a → ∀ k, k < 5 → ¬ X (a + k)) (h36 : kr' 36 = kr 36) (h37 : kr' 37 = kr 37) (h18 : TV hp' (kr' 18)) (h7 : ks' 0 7 = ks 0 7) (h8 : ks' 0 8 = ks 0 8) : CI hp' ks' ka' kl' kr' T n o A B := by
  obtain ⟨i1, t1, ⟨a1, a2, a3, a4, a5⟩, b1, i11, i12⟩ := h
  have hOW : OWN kr' = OWN kr := by funext i; unfold OWN; rw [h36, h37]
  refine ⟨hCV, KB_fr hf hX h20 t1, ⟨a1, a2, by rw [h8]; exact a3, by rw [h7]; exact a4, fun k hk => ?_⟩, fun k a hk ha => ?_, ⟨fun i a hi ha => ?_, fun i j a b => ?_⟩, h18⟩
  · obtain ⟨a, c1, c2⟩ := a5 k hk
    exact ⟨a, by rw [h36]; exact c1, KB_fr hf hX (hO ((o + k) % 24) a (by have := Nat.mod_lt (o + k) (show 0 < 24 by omega); omega) (by unfold OWN; rw [if_pos (Nat.mod_lt _ (by omega))]; exact c1)) c2⟩
  · rw [h37] at ha
    exact KB_fr hf hX (hO (24 + k) a (by omega) (by unfold OWN; rw [if_neg (by omega), show 24 + k - 24 = k by omega]; exact ha)) (b1 k a hk ha)
  · rw [hOW] at ha
    obtain ⟨h1, v, nm, jb, tu, tm, h2⟩ := i11.1 i a hi ha
    exact ⟨h1, v, nm, jb, tu, tm, KC_fr hf (hO i a hi ha) h2⟩
  · rw [hOW]
    exact i11.2 i j a b
/-- the draft, read, is the kitchen told -/
theorem ZP_KB {x H : kw_H} {kds bys b : Nat → Nat} {m1 m2 m : Nat} {p w : Int32} {tu : Nat → Option Nat} (h : ZP x ks ka kl kr kds bys H p w (nI m1) (nI m2) (nI m) (wR (ka 16) b 0 1 m1) (wR (ka 17) b 0 (2 + m1 + 1) m2) tu m) (hd : I_dr ks ka) (h1 : m1 ≤ 8) (h2 : m2 ≤ 8) (hm : m ≤ 4) : KB H 15 (nT b m1 m2 m kds bys) := by
  obtain ⟨d7, d8, d9, d19⟩ := hd
  refine ⟨_, _, _, _, _, CV_KC15 h.1, ⟨fun k hk => ?_, fun k hk => ?_, fun k hk => ?_, fun k hk => ?_⟩, fun k hk => ?_, h.2.1⟩
  · rcases (show k = 0 ∨ k = 1 ∨ k = 2 ∨ k = 3 ∨ k = 4 ∨ k = 5 by omega) with rfl | rfl | rfl | rfl | rfl | rfl
    · rw [nT_0]; rfl
    · rw [nT_1]; rfl
    · rw [nT_2]; rfl
    · rw [nT_z (by omega) (by omega)]; exact d7
    · rw [nT_z (by omega) (by omega)]; exact d8
    · rw [nT_z (by omega) (by omega)]; exact d9
  · rw [nT_0] at hk
    rw [nT_nm hk]
    show wR (ka 16) b 0 1 m1 k = _
    unfold wR
    rw [if_pos (by omega)]
    rfl
  · rw [nT_1] at hk
    rw [nT_jb h1 hk]
    show wR (ka 17) b 0 (2 + m1 + 1) m2 k = _
    unfold wR
    rw [if_pos (by omega), show 2 + m1 + 1 + (k - 0) = 3 + m1 + k by omega]
  · rw [nT_tm h1 h2 hm]
    exact d19 k hk
  · rw [nT_2] at hk
    obtain ⟨a, g1, g2⟩ := h.2.2.1 k (show k < m from hk)
    refine ⟨a, g1, ?_⟩
    rw [nT_kd h1 h2 hk, nT_by h1 h2 hm hk, g2]
    unfold tK
    rw [nT_kd (by omega) (by omega) hk, nT_by (by omega) (by omega) hm hk]
end Kit
theorem RD_self (C : kw_H) (sc : Nat → Int32) (ar : Nat → Nat → Int32) (P : kw_H) : hM C sc ar P = RD C sc ar P (ar 0) (sc 13) (sc 14) (sc 15) := by
  have e : sP sc (sc 13) (sc 14) (sc 15) = sc := by
    funext i
    unfold sP
    by_cases e1 : i = 13
    · rw [if_pos e1, e1]
    · rw [if_neg e1]
      by_cases e2 : i = 14
      · rw [if_pos e2, e2]
      · rw [if_neg e2]
        by_cases e3 : i = 15
        · rw [if_pos e3, e3]
        · rw [if_neg e3]
  unfold RD
  rw [e]
  exact hR_self C sc ar P
