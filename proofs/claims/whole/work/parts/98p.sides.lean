/-! ===== the class's side of the invariant, the reference's side ===== -/
def CI (hp : kw_H) (ks ka : Nat → Nat → Int32) (kl : Nat → Nat → Int64) (kr : Nat → Nat → Option Nat) (T : Tw) (n o : Nat) (A B : Nat → Tw) : Prop :=
  CV hp ks ka kl kr ∧ KB hp 20 T ∧ (n ≤ 24 ∧ o < 24 ∧ ks 0 8 = nI n ∧ ks 0 7 = nI o ∧ ∀ k, k < n → ∃ a, kr 36 ((o + k) % 24) = some a ∧ KB hp a (A k)) ∧ (∀ k a, k < 2 → kr 37 k = some a → KB hp a (B k)) ∧ I_own hp kr ∧ TV hp (kr 18)
def MI (sc f : Nat → Int32) (T : Tw) (n : Nat) (A : Nat → Tw) : Prop := tA f 0 T ∧ sc 2 = nI n ∧ ∀ k, k < n → tA f (66 + 66 * k) (A k)
def II (kr : Nat → Nat → Option Nat) (ar : Nat → Nat → Int32) (B : Nat → Tw) : Prop := ∀ k, k < 2 → (kr 37 k = none ∧ ar 1 k = nI 0) ∨ ((∃ a, kr 37 k = some a) ∧ ar 1 k = nI 1 ∧ tReal (B k) ∧ tA (ar 0) (1650 + 66 * k) (B k))
section CIs
variable {j : Nat} {hp hp' : kw_H} {ks ka ks' ka' : Nat → Nat → Int32} {kl kl' : Nat → Nat → Int64} {kr kr' : Nat → Nat → Option Nat} {sc : Nat → Int32} {ar : Nat → Nat → Int32} {T T' : Tw} {n o : Nat} {A B : Nat → Tw}
theorem IV_split (h : IV j hp ks ka kl kr sc ar T n o A) : ∃ B, CI hp ks ka kl kr T n o A B ∧ MI sc (ar 0) T n A ∧ II kr ar B ∧ ∀ k, k < n → tReal (A k) := by
  obtain ⟨i1, i2, i3, i4, i5, i6, i7, ⟨t1, t2, t3⟩, ⟨a1, a2, a3, a4, a5, a6, a7⟩, i10, i11, i12⟩ := h
  have key : ∀ k, ∃ T' : Tw, k < 2 → ∀ a, kr 37 k = some a → KB hp a T' ∧ tReal T' ∧ tA (ar 0) (1650 + 66 * k) T' ∧ ar 1 k = nI 1 := by
    intro k
    by_cases hk : k < 2
    · rcases i10 k hk with ⟨b1, b2⟩ | ⟨a, T', b1, b2⟩
      · exact ⟨fun _ => 0, fun _ a ha => by rw [b1] at ha; cases ha⟩
      · exact ⟨T', fun _ a' ha => by rw [b1] at ha; cases ha; exact b2⟩
    · exact ⟨fun _ => 0, fun h => absurd h hk⟩
  obtain ⟨B, hB⟩ := Classical.axiomOfChoice key
  refine ⟨B, ⟨i1, t1, ⟨a1, a2, a3, a4, fun k hk => ?_⟩, fun k a hk ha => (hB k hk a ha).1, i11, i12⟩, ⟨t2, a5, fun k hk => ?_⟩, fun k hk => ?_, fun k hk => ?_⟩
  · obtain ⟨a, b1, b2, b3, b4⟩ := a7 k hk
    exact ⟨a, b1, b2⟩
  · obtain ⟨a, b1, b2, b3, b4⟩ := a7 k hk
    exact b4
  · rcases i10 k hk with hh | ⟨a, T', b1, b2⟩
    · exact Or.inl hh
    · obtain ⟨c1, c2, c3, c4⟩ := hB k hk a b1
      exact Or.inr ⟨⟨a, b1⟩, c4, c2, c3⟩
  · obtain ⟨a, b1, b2, b3, b4⟩ := a7 k hk
    exact b3
theorem IV_join (hc : CI hp ks ka kl kr T n o A B) (hm : MV hp sc ar) (hl : I_len hp kr j) (h1 : I_rows ka ar) (h2 : I_tape ks ka sc ar) (h3 : I_misc ks sc) (h4 : I_trace ks ka sc ar) (h5 : MI sc (ar 0) T n A) (h6 : II kr ar B) (h7 : ∀ k, k < n → tReal (A k)) (h8 : (tReal T ∧ sc 1 = nI 1) ∨ (T = (fun _ => 0) ∧ sc 1 = nI 0)) (h9 : (0 < n ∨ ∃ k a, k < 2 ∧ kr 37 k = some a) → sc 1 = nI 1) : IV j hp ks ka kl kr sc ar T n o A := by
  obtain ⟨i1, t1, ⟨a1, a2, a3, a4, a5⟩, b1, i11, i12⟩ := hc
  refine ⟨i1, hm, hl, h1, h2, h3, h4, ⟨t1, h5.1, h8⟩, ⟨a1, a2, a3, a4, h5.2.1, h9, fun k hk => ?_⟩, fun k hk => ?_, i11, i12⟩
  · obtain ⟨a, c1, c2⟩ := a5 k hk
    exact ⟨a, c1, c2, h7 k hk, h5.2.2 k hk⟩
  · rcases h6 k hk with hh | ⟨⟨a, c1⟩, c2, c3, c4⟩
    · exact Or.inl hh
    · exact Or.inr ⟨a, B k, c1, b1 k a hk c1, c3, c4, c2⟩
theorem own_a (h : I_own hp kr) {k a : Nat} (hk : k < 24) (ha : kr 36 k = some a) : 47 ≤ a := (h.1 k a (by omega) (by unfold OWN; rw [if_pos hk]; exact ha)).1
theorem own_i (h : I_own hp kr) {k a : Nat} (hk : k < 2) (ha : kr 37 k = some a) : 47 ≤ a := (h.1 (24 + k) a (by omega) (by unfold OWN; rw [if_neg (by omega), show 24 + k - 24 = k by omega]; exact ha)).1
/-- cells change that are no turners, none of the kitchen's and none of the kept ones' -/
theorem CI_fr {X : Nat → Prop} (h : CI hp ks ka kl kr T n o A B) (hCV : CV hp' ks' ka' kl' kr') (hf : ∀ q, ¬ X q → hp'[q]? = hp[q]?) (hX : ∀ q, X q → NT hp q) (h20 : ∀ k, k < 5 → ¬ X (20 + k)) (hO : ∀ i a, i < 26 → OWN kr i = some a → ∀ k, k < 5 → ¬ X (a + k)) (h36 : kr' 36 = kr 36) (h37 : kr' 37 = kr 37) (h18 : TV hp (kr' 18)) (h7 : ks' 0 7 = ks 0 7) (h8 : ks' 0 8 = ks 0 8) : CI hp' ks' ka' kl' kr' T n o A B := by
  obtain ⟨i1, t1, ⟨a1, a2, a3, a4, a5⟩, b1, i11, i12⟩ := h
  have hOW : OWN kr' = OWN kr := by funext i; unfold OWN; rw [h36, h37]
  refine ⟨hCV, KB_fr hf hX h20 t1, ⟨a1, a2, by rw [h8]; exact a3, by rw [h7]; exact a4, fun k hk => ?_⟩, fun k a hk ha => ?_, ⟨fun i a hi ha => ?_, fun i j a b => ?_⟩, TV_fr hf hX h18⟩
  · obtain ⟨a, c1, c2⟩ := a5 k hk
    exact ⟨a, by rw [h36]; exact c1, KB_fr hf hX (hO ((o + k) % 24) a (by have := Nat.mod_lt (o + k) (show 0 < 24 by omega); omega) (by unfold OWN; rw [if_pos (Nat.mod_lt _ (by omega))]; exact c1)) c2⟩
  · rw [h37] at ha
    exact KB_fr hf hX (hO (24 + k) a (by omega) (by unfold OWN; rw [if_neg (by omega), show 24 + k - 24 = k by omega]; exact ha)) (b1 k a hk ha)
  · rw [hOW] at ha
    obtain ⟨h1, v, nm, jb, tu, tm, h2⟩ := i11.1 i a hi ha
    exact ⟨h1, v, nm, jb, tu, tm, KC_fr hf (hO i a hi ha) h2⟩
  · rw [hOW]
    exact i11.2 i j a b
/-- the kitchen itself changes -/
theorem CI_now (h : CI hp ks ka kl kr T n o A B) (hCV : CV hp' ks' ka' kl' kr') (hK : KB hp' 20 T') (hf : ∀ q, q < 20 ∨ 25 ≤ q → hp'[q]? = hp[q]?) (h36 : kr' 36 = kr 36) (h37 : kr' 37 = kr 37) (h18 : kr' 18 = kr 18) (h7 : ks' 0 7 = ks 0 7) (h8 : ks' 0 8 = ks 0 8) : CI hp' ks' ka' kl' kr' T' n o A B := by
  obtain ⟨i1, t1, ⟨a1, a2, a3, a4, a5⟩, b1, i11, i12⟩ := h
  have hOW : OWN kr' = OWN kr := by funext i; unfold OWN; rw [h36, h37]
  have hf' : ∀ q, ¬ (20 ≤ q ∧ q < 25) → hp'[q]? = hp[q]? := fun q hq => hf q (by omega)
  have hX : ∀ q, (20 ≤ q ∧ q < 25) → NT hp q := fun q hq => CV_NT i1 (by omega)
  refine ⟨hCV, hK, ⟨a1, a2, by rw [h8]; exact a3, by rw [h7]; exact a4, fun k hk => ?_⟩, fun k a hk ha => ?_, ⟨fun i a hi ha => ?_, fun i j a b => ?_⟩, by rw [h18]; exact TV_fr (X := fun q => 20 ≤ q ∧ q < 25) hf' hX i12⟩
  · obtain ⟨a, c1, c2⟩ := a5 k hk
    have := own_a i11 (Nat.mod_lt _ (by omega)) c1
    exact ⟨a, by rw [h36]; exact c1, KB_fr (X := fun q => 20 ≤ q ∧ q < 25) hf' hX (fun k hk => by omega) c2⟩
  · rw [h37] at ha
    have := own_i i11 hk ha
    exact KB_fr (X := fun q => 20 ≤ q ∧ q < 25) hf' hX (fun k hk => by omega) (b1 k a hk ha)
  · rw [hOW] at ha
    obtain ⟨h1, v, nm, jb, tu, tm, h2⟩ := i11.1 i a hi ha
    exact ⟨h1, v, nm, jb, tu, tm, KC_fr (X := fun q => 20 ≤ q ∧ q < 25) hf' (fun k hk => by omega) h2⟩
  · rw [hOW]
    exact i11.2 i j a b
end CIs
theorem CI_hM {C P : kw_H} {sc sc' : Nat → Int32} {ar ar' : Nat → Nat → Int32} {ks ka : Nat → Nat → Int32} {kl : Nat → Nat → Int64} {kr : Nat → Nat → Option Nat} {T : Tw} {n o : Nat} {A B : Nat → Tw} (hC : C.length = 38) (h : CI (hM C sc ar P) ks ka kl kr T n o A B) : CI (hM C sc' ar' P) ks ka kl kr T n o A B :=
  CI_fr (X := fun q => 38 ≤ q ∧ q < 47) h (CV_hM hC h.1) (fun q hq => hM_off hC (by omega)) (fun q hq => MV_NT (hM_MV hC) hq.1 hq.2) (fun k hk => by omega) (fun i a hi ha k hk => by
    have := (h.2.2.2.2.1.1 i a hi ha).1
    omega) rfl rfl h.2.2.2.2.2 rfl rfl
section CVk
variable {hp hp' : kw_H} {ks ka : Nat → Nat → Int32} {kl : Nat → Nat → Int64} {kr : Nat → Nat → Option Nat} {v nm jb tm : Nat → Int32} {tu : Nat → Option Nat}
theorem CV_dr (h : CV hp ks ka kl kr) (k : KC hp' 15 v nm jb tu tm) (hf : ∀ q, q < 15 ∨ 20 ≤ q → hp'[q]? = hp[q]?) : CV hp' (fun q k => if q = 15 then v (k - 4) else ks q k) (fun q => if q = 16 then nm else if q = 17 then jb else if q = 19 then tm else ka q) kl (fun q => if q = 18 then tu else kr q) := by
  intro q hq
  rcases (show q = 0 ∨ q = 1 ∨ q = 2 ∨ q = 3 ∨ q = 4 ∨ q = 5 ∨ q = 6 ∨ q = 7 ∨ q = 8 ∨ q = 9 ∨ q = 10 ∨ q = 11 ∨ q = 12 ∨ q = 13 ∨ q = 14 ∨ q = 15 ∨ q = 16 ∨ q = 17 ∨ q = 18 ∨ q = 19 ∨ q = 20 ∨ q = 21 ∨ q = 22 ∨ q = 23 ∨ q = 24 ∨ q = 25 ∨ q = 26 ∨ q = 27 ∨ q = 28 ∨ q = 29 ∨ q = 30 ∨ q = 31 ∨ q = 32 ∨ q = 33 ∨ q = 34 ∨ q = 35 ∨ q = 36 ∨ q = 37 by omega) with rfl | rfl | rfl | rfl | rfl | rfl | rfl | rfl | rfl | rfl | rfl | rfl | rfl | rfl | rfl | rfl | rfl | rfl | rfl | rfl | rfl | rfl | rfl | rfl | rfl | rfl | rfl | rfl | rfl | rfl | rfl | rfl | rfl | rfl | rfl | rfl | rfl | rfl
  · exact (hf 0 (by omega)).trans (h 0 (by omega))
  · exact (hf 1 (by omega)).trans (h 1 (by omega))
  · exact (hf 2 (by omega)).trans (h 2 (by omega))
  · exact (hf 3 (by omega)).trans (h 3 (by omega))
  · exact (hf 4 (by omega)).trans (h 4 (by omega))
  · exact (hf 5 (by omega)).trans (h 5 (by omega))
  · exact (hf 6 (by omega)).trans (h 6 (by omega))
  · exact (hf 7 (by omega)).trans (h 7 (by omega))
  · exact (hf 8 (by omega)).trans (h 8 (by omega))
  · exact (hf 9 (by omega)).trans (h 9 (by omega))
  · exact (hf 10 (by omega)).trans (h 10 (by omega))
  · exact (hf 11 (by omega)).trans (h 11 (by omega))
  · exact (hf 12 (by omega)).trans (h 12 (by omega))
  · exact (hf 13 (by omega)).trans (h 13 (by omega))
  · exact (hf 14 (by omega)).trans (h 14 (by omega))
  · exact k.1
  · exact k.2.1
  · exact k.2.2.1
  · exact k.2.2.2.1
  · exact k.2.2.2.2
  · exact (hf 20 (by omega)).trans (h 20 (by omega))
  · exact (hf 21 (by omega)).trans (h 21 (by omega))
  · exact (hf 22 (by omega)).trans (h 22 (by omega))
  · exact (hf 23 (by omega)).trans (h 23 (by omega))
  · exact (hf 24 (by omega)).trans (h 24 (by omega))
  · exact (hf 25 (by omega)).trans (h 25 (by omega))
  · exact (hf 26 (by omega)).trans (h 26 (by omega))
  · exact (hf 27 (by omega)).trans (h 27 (by omega))
  · exact (hf 28 (by omega)).trans (h 28 (by omega))
  · exact (hf 29 (by omega)).trans (h 29 (by omega))
  · exact (hf 30 (by omega)).trans (h 30 (by omega))
  · exact (hf 31 (by omega)).trans (h 31 (by omega))
  · exact (hf 32 (by omega)).trans (h 32 (by omega))
  · exact (hf 33 (by omega)).trans (h 33 (by omega))
  · exact (hf 34 (by omega)).trans (h 34 (by omega))
  · exact (hf 35 (by omega)).trans (h 35 (by omega))
  · exact (hf 36 (by omega)).trans (h 36 (by omega))
  · exact (hf 37 (by omega)).trans (h 37 (by omega))
theorem CV_now (h : CV hp ks ka kl kr) (k : KC hp' 20 v nm jb tu tm) (hf : ∀ q, q < 20 ∨ 25 ≤ q → hp'[q]? = hp[q]?) : CV hp' (fun q k => if q = 20 then v (k - 4) else ks q k) (fun q => if q = 21 then nm else if q = 22 then jb else if q = 24 then tm else ka q) kl (fun q => if q = 23 then tu else kr q) := by
  intro q hq
  rcases (show q = 0 ∨ q = 1 ∨ q = 2 ∨ q = 3 ∨ q = 4 ∨ q = 5 ∨ q = 6 ∨ q = 7 ∨ q = 8 ∨ q = 9 ∨ q = 10 ∨ q = 11 ∨ q = 12 ∨ q = 13 ∨ q = 14 ∨ q = 15 ∨ q = 16 ∨ q = 17 ∨ q = 18 ∨ q = 19 ∨ q = 20 ∨ q = 21 ∨ q = 22 ∨ q = 23 ∨ q = 24 ∨ q = 25 ∨ q = 26 ∨ q = 27 ∨ q = 28 ∨ q = 29 ∨ q = 30 ∨ q = 31 ∨ q = 32 ∨ q = 33 ∨ q = 34 ∨ q = 35 ∨ q = 36 ∨ q = 37 by omega) with rfl | rfl | rfl | rfl | rfl | rfl | rfl | rfl | rfl | rfl | rfl | rfl | rfl | rfl | rfl | rfl | rfl | rfl | rfl | rfl | rfl | rfl | rfl | rfl | rfl | rfl | rfl | rfl | rfl | rfl | rfl | rfl | rfl | rfl | rfl | rfl | rfl | rfl
  · exact (hf 0 (by omega)).trans (h 0 (by omega))
  · exact (hf 1 (by omega)).trans (h 1 (by omega))
  · exact (hf 2 (by omega)).trans (h 2 (by omega))
  · exact (hf 3 (by omega)).trans (h 3 (by omega))
  · exact (hf 4 (by omega)).trans (h 4 (by omega))
  · exact (hf 5 (by omega)).trans (h 5 (by omega))
  · exact (hf 6 (by omega)).trans (h 6 (by omega))
  · exact (hf 7 (by omega)).trans (h 7 (by omega))
  · exact (hf 8 (by omega)).trans (h 8 (by omega))
  · exact (hf 9 (by omega)).trans (h 9 (by omega))
  · exact (hf 10 (by omega)).trans (h 10 (by omega))
  · exact (hf 11 (by omega)).trans (h 11 (by omega))
  · exact (hf 12 (by omega)).trans (h 12 (by omega))
  · exact (hf 13 (by omega)).trans (h 13 (by omega))
  · exact (hf 14 (by omega)).trans (h 14 (by omega))
  · exact (hf 15 (by omega)).trans (h 15 (by omega))
  · exact (hf 16 (by omega)).trans (h 16 (by omega))
  · exact (hf 17 (by omega)).trans (h 17 (by omega))
  · exact (hf 18 (by omega)).trans (h 18 (by omega))
  · exact (hf 19 (by omega)).trans (h 19 (by omega))
  · exact k.1
  · exact k.2.1
  · exact k.2.2.1
  · exact k.2.2.2.1
  · exact k.2.2.2.2
  · exact (hf 25 (by omega)).trans (h 25 (by omega))
  · exact (hf 26 (by omega)).trans (h 26 (by omega))
  · exact (hf 27 (by omega)).trans (h 27 (by omega))
  · exact (hf 28 (by omega)).trans (h 28 (by omega))
  · exact (hf 29 (by omega)).trans (h 29 (by omega))
  · exact (hf 30 (by omega)).trans (h 30 (by omega))
  · exact (hf 31 (by omega)).trans (h 31 (by omega))
  · exact (hf 32 (by omega)).trans (h 32 (by omega))
  · exact (hf 33 (by omega)).trans (h 33 (by omega))
  · exact (hf 34 (by omega)).trans (h 34 (by omega))
  · exact (hf 35 (by omega)).trans (h 35 (by omega))
  · exact (hf 36 (by omega)).trans (h 36 (by omega))
  · exact (hf 37 (by omega)).trans (h 37 (by omega))
theorem CV_tri (h : CV hp ks ka kl kr) (k : KC hp' 26 v nm jb tu tm) (hf : ∀ q, q < 26 ∨ 31 ≤ q → hp'[q]? = hp[q]?) : CV hp' (fun q k => if q = 26 then v (k - 4) else ks q k) (fun q => if q = 27 then nm else if q = 28 then jb else if q = 30 then tm else ka q) kl (fun q => if q = 29 then tu else kr q) := by
  intro q hq
  rcases (show q = 0 ∨ q = 1 ∨ q = 2 ∨ q = 3 ∨ q = 4 ∨ q = 5 ∨ q = 6 ∨ q = 7 ∨ q = 8 ∨ q = 9 ∨ q = 10 ∨ q = 11 ∨ q = 12 ∨ q = 13 ∨ q = 14 ∨ q = 15 ∨ q = 16 ∨ q = 17 ∨ q = 18 ∨ q = 19 ∨ q = 20 ∨ q = 21 ∨ q = 22 ∨ q = 23 ∨ q = 24 ∨ q = 25 ∨ q = 26 ∨ q = 27 ∨ q = 28 ∨ q = 29 ∨ q = 30 ∨ q = 31 ∨ q = 32 ∨ q = 33 ∨ q = 34 ∨ q = 35 ∨ q = 36 ∨ q = 37 by omega) with rfl | rfl | rfl | rfl | rfl | rfl | rfl | rfl | rfl | rfl | rfl | rfl | rfl | rfl | rfl | rfl | rfl | rfl | rfl | rfl | rfl | rfl | rfl | rfl | rfl | rfl | rfl | rfl | rfl | rfl | rfl | rfl | rfl | rfl | rfl | rfl | rfl | rfl
  · exact (hf 0 (by omega)).trans (h 0 (by omega))
  · exact (hf 1 (by omega)).trans (h 1 (by omega))
  · exact (hf 2 (by omega)).trans (h 2 (by omega))
  · exact (hf 3 (by omega)).trans (h 3 (by omega))
  · exact (hf 4 (by omega)).trans (h 4 (by omega))
  · exact (hf 5 (by omega)).trans (h 5 (by omega))
  · exact (hf 6 (by omega)).trans (h 6 (by omega))
  · exact (hf 7 (by omega)).trans (h 7 (by omega))
  · exact (hf 8 (by omega)).trans (h 8 (by omega))
  · exact (hf 9 (by omega)).trans (h 9 (by omega))
  · exact (hf 10 (by omega)).trans (h 10 (by omega))
  · exact (hf 11 (by omega)).trans (h 11 (by omega))
  · exact (hf 12 (by omega)).trans (h 12 (by omega))
  · exact (hf 13 (by omega)).trans (h 13 (by omega))
  · exact (hf 14 (by omega)).trans (h 14 (by omega))
  · exact (hf 15 (by omega)).trans (h 15 (by omega))
  · exact (hf 16 (by omega)).trans (h 16 (by omega))
  · exact (hf 17 (by omega)).trans (h 17 (by omega))
  · exact (hf 18 (by omega)).trans (h 18 (by omega))
  · exact (hf 19 (by omega)).trans (h 19 (by omega))
  · exact (hf 20 (by omega)).trans (h 20 (by omega))
  · exact (hf 21 (by omega)).trans (h 21 (by omega))
  · exact (hf 22 (by omega)).trans (h 22 (by omega))
  · exact (hf 23 (by omega)).trans (h 23 (by omega))
  · exact (hf 24 (by omega)).trans (h 24 (by omega))
  · exact (hf 25 (by omega)).trans (h 25 (by omega))
  · exact k.1
  · exact k.2.1
  · exact k.2.2.1
  · exact k.2.2.2.1
  · exact k.2.2.2.2
  · exact (hf 31 (by omega)).trans (h 31 (by omega))
  · exact (hf 32 (by omega)).trans (h 32 (by omega))
  · exact (hf 33 (by omega)).trans (h 33 (by omega))
  · exact (hf 34 (by omega)).trans (h 34 (by omega))
  · exact (hf 35 (by omega)).trans (h 35 (by omega))
  · exact (hf 36 (by omega)).trans (h 36 (by omega))
  · exact (hf 37 (by omega)).trans (h 37 (by omega))
theorem CV_36 (h : CV hp ks ka kl kr) (f : Nat → Option Nat) (hq36 : hp'[36]? = some (.inl (4, 24, .inr (.inr (.inr (.inr f)))))) (hf : ∀ q, q < 38 → q ≠ 36 → hp'[q]? = hp[q]?) : CV hp' ks ka kl (fun q => if q = 36 then f else kr q) := by
  intro q hq
  rcases (show q = 0 ∨ q = 1 ∨ q = 2 ∨ q = 3 ∨ q = 4 ∨ q = 5 ∨ q = 6 ∨ q = 7 ∨ q = 8 ∨ q = 9 ∨ q = 10 ∨ q = 11 ∨ q = 12 ∨ q = 13 ∨ q = 14 ∨ q = 15 ∨ q = 16 ∨ q = 17 ∨ q = 18 ∨ q = 19 ∨ q = 20 ∨ q = 21 ∨ q = 22 ∨ q = 23 ∨ q = 24 ∨ q = 25 ∨ q = 26 ∨ q = 27 ∨ q = 28 ∨ q = 29 ∨ q = 30 ∨ q = 31 ∨ q = 32 ∨ q = 33 ∨ q = 34 ∨ q = 35 ∨ q = 36 ∨ q = 37 by omega) with rfl | rfl | rfl | rfl | rfl | rfl | rfl | rfl | rfl | rfl | rfl | rfl | rfl | rfl | rfl | rfl | rfl | rfl | rfl | rfl | rfl | rfl | rfl | rfl | rfl | rfl | rfl | rfl | rfl | rfl | rfl | rfl | rfl | rfl | rfl | rfl | rfl | rfl
  · exact (hf 0 (by omega) (by omega)).trans (h 0 (by omega))
  · exact (hf 1 (by omega) (by omega)).trans (h 1 (by omega))
  · exact (hf 2 (by omega) (by omega)).trans (h 2 (by omega))
  · exact (hf 3 (by omega) (by omega)).trans (h 3 (by omega))
  · exact (hf 4 (by omega) (by omega)).trans (h 4 (by omega))
  · exact (hf 5 (by omega) (by omega)).trans (h 5 (by omega))
  · exact (hf 6 (by omega) (by omega)).trans (h 6 (by omega))
  · exact (hf 7 (by omega) (by omega)).trans (h 7 (by omega))
  · exact (hf 8 (by omega) (by omega)).trans (h 8 (by omega))
  · exact (hf 9 (by omega) (by omega)).trans (h 9 (by omega))
  · exact (hf 10 (by omega) (by omega)).trans (h 10 (by omega))
  · exact (hf 11 (by omega) (by omega)).trans (h 11 (by omega))
  · exact (hf 12 (by omega) (by omega)).trans (h 12 (by omega))
  · exact (hf 13 (by omega) (by omega)).trans (h 13 (by omega))
  · exact (hf 14 (by omega) (by omega)).trans (h 14 (by omega))
  · exact (hf 15 (by omega) (by omega)).trans (h 15 (by omega))
  · exact (hf 16 (by omega) (by omega)).trans (h 16 (by omega))
  · exact (hf 17 (by omega) (by omega)).trans (h 17 (by omega))
  · exact (hf 18 (by omega) (by omega)).trans (h 18 (by omega))
  · exact (hf 19 (by omega) (by omega)).trans (h 19 (by omega))
  · exact (hf 20 (by omega) (by omega)).trans (h 20 (by omega))
  · exact (hf 21 (by omega) (by omega)).trans (h 21 (by omega))
  · exact (hf 22 (by omega) (by omega)).trans (h 22 (by omega))
  · exact (hf 23 (by omega) (by omega)).trans (h 23 (by omega))
  · exact (hf 24 (by omega) (by omega)).trans (h 24 (by omega))
  · exact (hf 25 (by omega) (by omega)).trans (h 25 (by omega))
  · exact (hf 26 (by omega) (by omega)).trans (h 26 (by omega))
  · exact (hf 27 (by omega) (by omega)).trans (h 27 (by omega))
  · exact (hf 28 (by omega) (by omega)).trans (h 28 (by omega))
  · exact (hf 29 (by omega) (by omega)).trans (h 29 (by omega))
  · exact (hf 30 (by omega) (by omega)).trans (h 30 (by omega))
  · exact (hf 31 (by omega) (by omega)).trans (h 31 (by omega))
  · exact (hf 32 (by omega) (by omega)).trans (h 32 (by omega))
  · exact (hf 33 (by omega) (by omega)).trans (h 33 (by omega))
  · exact (hf 34 (by omega) (by omega)).trans (h 34 (by omega))
  · exact (hf 35 (by omega) (by omega)).trans (h 35 (by omega))
  · exact hq36
  · exact (hf 37 (by omega) (by omega)).trans (h 37 (by omega))
theorem CV_37 (h : CV hp ks ka kl kr) (f : Nat → Option Nat) (hq37 : hp'[37]? = some (.inl (4, 2, .inr (.inr (.inr (.inr f)))))) (hf : ∀ q, q < 38 → q ≠ 37 → hp'[q]? = hp[q]?) : CV hp' ks ka kl (fun q => if q = 37 then f else kr q) := by
  intro q hq
  rcases (show q = 0 ∨ q = 1 ∨ q = 2 ∨ q = 3 ∨ q = 4 ∨ q = 5 ∨ q = 6 ∨ q = 7 ∨ q = 8 ∨ q = 9 ∨ q = 10 ∨ q = 11 ∨ q = 12 ∨ q = 13 ∨ q = 14 ∨ q = 15 ∨ q = 16 ∨ q = 17 ∨ q = 18 ∨ q = 19 ∨ q = 20 ∨ q = 21 ∨ q = 22 ∨ q = 23 ∨ q = 24 ∨ q = 25 ∨ q = 26 ∨ q = 27 ∨ q = 28 ∨ q = 29 ∨ q = 30 ∨ q = 31 ∨ q = 32 ∨ q = 33 ∨ q = 34 ∨ q = 35 ∨ q = 36 ∨ q = 37 by omega) with rfl | rfl | rfl | rfl | rfl | rfl | rfl | rfl | rfl | rfl | rfl | rfl | rfl | rfl | rfl | rfl | rfl | rfl | rfl | rfl | rfl | rfl | rfl | rfl | rfl | rfl | rfl | rfl | rfl | rfl | rfl | rfl | rfl | rfl | rfl | rfl | rfl | rfl
  · exact (hf 0 (by omega) (by omega)).trans (h 0 (by omega))
  · exact (hf 1 (by omega) (by omega)).trans (h 1 (by omega))
  · exact (hf 2 (by omega) (by omega)).trans (h 2 (by omega))
  · exact (hf 3 (by omega) (by omega)).trans (h 3 (by omega))
  · exact (hf 4 (by omega) (by omega)).trans (h 4 (by omega))
  · exact (hf 5 (by omega) (by omega)).trans (h 5 (by omega))
  · exact (hf 6 (by omega) (by omega)).trans (h 6 (by omega))
  · exact (hf 7 (by omega) (by omega)).trans (h 7 (by omega))
  · exact (hf 8 (by omega) (by omega)).trans (h 8 (by omega))
  · exact (hf 9 (by omega) (by omega)).trans (h 9 (by omega))
  · exact (hf 10 (by omega) (by omega)).trans (h 10 (by omega))
  · exact (hf 11 (by omega) (by omega)).trans (h 11 (by omega))
  · exact (hf 12 (by omega) (by omega)).trans (h 12 (by omega))
  · exact (hf 13 (by omega) (by omega)).trans (h 13 (by omega))
  · exact (hf 14 (by omega) (by omega)).trans (h 14 (by omega))
  · exact (hf 15 (by omega) (by omega)).trans (h 15 (by omega))
  · exact (hf 16 (by omega) (by omega)).trans (h 16 (by omega))
  · exact (hf 17 (by omega) (by omega)).trans (h 17 (by omega))
  · exact (hf 18 (by omega) (by omega)).trans (h 18 (by omega))
  · exact (hf 19 (by omega) (by omega)).trans (h 19 (by omega))
  · exact (hf 20 (by omega) (by omega)).trans (h 20 (by omega))
  · exact (hf 21 (by omega) (by omega)).trans (h 21 (by omega))
  · exact (hf 22 (by omega) (by omega)).trans (h 22 (by omega))
  · exact (hf 23 (by omega) (by omega)).trans (h 23 (by omega))
  · exact (hf 24 (by omega) (by omega)).trans (h 24 (by omega))
  · exact (hf 25 (by omega) (by omega)).trans (h 25 (by omega))
  · exact (hf 26 (by omega) (by omega)).trans (h 26 (by omega))
  · exact (hf 27 (by omega) (by omega)).trans (h 27 (by omega))
  · exact (hf 28 (by omega) (by omega)).trans (h 28 (by omega))
  · exact (hf 29 (by omega) (by omega)).trans (h 29 (by omega))
  · exact (hf 30 (by omega) (by omega)).trans (h 30 (by omega))
  · exact (hf 31 (by omega) (by omega)).trans (h 31 (by omega))
  · exact (hf 32 (by omega) (by omega)).trans (h 32 (by omega))
  · exact (hf 33 (by omega) (by omega)).trans (h 33 (by omega))
  · exact (hf 34 (by omega) (by omega)).trans (h 34 (by omega))
  · exact (hf 35 (by omega) (by omega)).trans (h 35 (by omega))
  · exact (hf 36 (by omega) (by omega)).trans (h 36 (by omega))
  · exact hq37
theorem CV_fr (h : CV hp ks ka kl kr) (hf : ∀ q, q < 38 → hp'[q]? = hp[q]?) : CV hp' ks ka kl kr := fun q hq => (hf q hq).trans (h q hq)
end CVk
