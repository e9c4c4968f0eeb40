/-! ===== what stays when cells of the fixed part change ===== -/
def NT (hp : kw_H) (q : Nat) : Prop := ∀ ci fs, hp[q]? = some (.inr (ci, fs)) → ci ∉ [0, 3, 4, 5, 7]
theorem CV_NT {hp : kw_H} {ks ka : Nat → Nat → Int32} {kl : Nat → Nat → Int64} {kr : Nat → Nat → Option Nat} (h : CV hp ks ka kl kr) {q : Nat} (hq : q < 38) : NT hp q := by
  intro ci fs e
  rw [h q hq] at e
  have key : ∀ q, q < 38 → ∀ ci fs, (ccells ks ka kl kr)[q]? = some (.inr (ci, fs)) → ci ∉ [0, 3, 4, 5, 7] := by
    intro q hq ci fs e
    rcases (show q = 0 ∨ q = 1 ∨ q = 2 ∨ q = 3 ∨ q = 4 ∨ q = 5 ∨ q = 6 ∨ q = 7 ∨ q = 8 ∨ q = 9 ∨ q = 10 ∨ q = 11 ∨ q = 12 ∨ q = 13 ∨ q = 14 ∨ q = 15 ∨ q = 16 ∨ q = 17 ∨ q = 18 ∨ q = 19 ∨ q = 20 ∨ q = 21 ∨ q = 22 ∨ q = 23 ∨ q = 24 ∨ q = 25 ∨ q = 26 ∨ q = 27 ∨ q = 28 ∨ q = 29 ∨ q = 30 ∨ q = 31 ∨ q = 32 ∨ q = 33 ∨ q = 34 ∨ q = 35 ∨ q = 36 ∨ q = 37 by omega) with rfl | rfl | rfl | rfl | rfl | rfl | rfl | rfl | rfl | rfl | rfl | rfl | rfl | rfl | rfl | rfl | rfl | rfl | rfl | rfl | rfl | rfl | rfl | rfl | rfl | rfl | rfl | rfl | rfl | rfl | rfl | rfl | rfl | rfl | rfl | rfl | rfl | rfl <;> cases e <;> decide
  exact key q hq ci fs e
theorem MV_NT {hp : kw_H} {sc : Nat → Int32} {ar : Nat → Nat → Int32} (h : MV hp sc ar) {q : Nat} (h1 : 38 ≤ q) (h2 : q < 47) : NT hp q := by
  intro ci fs e
  have h3 := h (q - 38) (by omega)
  rw [show 38 + (q - 38) = q by omega] at h3
  rw [h3] at e
  rcases (show q = 38 ∨ q = 39 ∨ q = 40 ∨ q = 41 ∨ q = 42 ∨ q = 43 ∨ q = 44 ∨ q = 45 ∨ q = 46 by omega) with rfl | rfl | rfl | rfl | rfl | rfl | rfl | rfl | rfl <;> cases e <;> decide
section KFr
variable {hp hp' : kw_H} {X : Nat → Prop} {i : Nat} {T : Tw}
theorem kcn_in {kd : Nat} : kcn kd ∈ [0, 3, 4, 5, 7] := by
  unfold kcn
  repeat' split
  all_goals decide
theorem TV_fr {tu : Nat → Option Nat} (hf : ∀ q, ¬ X q → hp'[q]? = hp[q]?) (hX : ∀ q, X q → NT hp q) (h : TV hp tu) : TV hp' tu := fun k a hk ha => by
  obtain ⟨ci, fs, h1, h2⟩ := h k a hk ha
  exact ⟨ci, fs, by rw [hf a (fun z => hX a z ci fs h1 h2)]; exact h1, h2⟩
theorem TU_fr {tu : Nat → Option Nat} (hf : ∀ q, ¬ X q → hp'[q]? = hp[q]?) (hX : ∀ q, X q → NT hp q) (h : TU hp tu T) : TU hp' tu T := fun k hk => by
  obtain ⟨a, h1, h2⟩ := h k hk
  exact ⟨a, h1, by rw [hf a (fun z => hX a z _ _ h2 kcn_in)]; exact h2⟩
theorem KC_fr {v nm jb tm : Nat → Int32} {tu : Nat → Option Nat} (hf : ∀ q, ¬ X q → hp'[q]? = hp[q]?) (hi : ∀ k, k < 5 → ¬ X (i + k)) (h : KC hp i v nm jb tu tm) : KC hp' i v nm jb tu tm :=
  ⟨by rw [hf i (hi 0 (by omega))]; exact h.1, by rw [hf (i + 1) (hi 1 (by omega))]; exact h.2.1, by rw [hf (i + 2) (hi 2 (by omega))]; exact h.2.2.1, by rw [hf (i + 3) (hi 3 (by omega))]; exact h.2.2.2.1, by rw [hf (i + 4) (hi 4 (by omega))]; exact h.2.2.2.2⟩
theorem KB_fr (hf : ∀ q, ¬ X q → hp'[q]? = hp[q]?) (hX : ∀ q, X q → NT hp q) (hi : ∀ k, k < 5 → ¬ X (i + k)) (h : KB hp i T) : KB hp' i T := by
  obtain ⟨v, nm, jb, tu, tm, h1, h2, h3, h4⟩ := h
  exact ⟨v, nm, jb, tu, tm, KC_fr hf hi h1, h2, TU_fr hf hX h3, TV_fr hf hX h4⟩
end KFr
theorem MV_ex {hp : kw_H} {sc : Nat → Int32} {ar : Nat → Nat → Int32} (h : MV hp sc ar) : ∃ C P, C.length = 38 ∧ hp = hM C sc ar P := ⟨_, _, (MV_form h).2, (MV_form h).1⟩
theorem hM_len {C P : kw_H} {sc sc' : Nat → Int32} {ar ar' : Nat → Nat → Int32} : (hM C sc ar P).length = (hM C sc' ar' P).length := by
  simp [hM, mcells]
theorem CV_hM {C P : kw_H} {sc sc' : Nat → Int32} {ar ar' : Nat → Nat → Int32} {ks ka : Nat → Nat → Int32} {kl : Nat → Nat → Int64} {kr : Nat → Nat → Option Nat} (hC : C.length = 38) (h : CV (hM C sc ar P) ks ka kl kr) : CV (hM C sc' ar' P) ks ka kl kr := fun q hq => by
  rw [hM_off hC (Or.inl hq) (sc' := sc) (ar' := ar)]
  exact h q hq
/-! the reference's cells change: what is the class's stays -/
section MFr
variable {C P : kw_H} {sc sc' : Nat → Int32} {ar ar' : Nat → Nat → Int32} {i : Nat} {T : Tw}
theorem KB_hM (hC : C.length = 38) (hi : i + 5 ≤ 38 ∨ 47 ≤ i) (h : KB (hM C sc ar P) i T) : KB (hM C sc' ar' P) i T :=
  KB_fr (X := fun q => 38 ≤ q ∧ q < 47) (fun q hq => hM_off hC (by omega)) (fun q hq => MV_NT (hM_MV hC) hq.1 hq.2) (fun k hk => by omega) h
theorem TV_hM {tu : Nat → Option Nat} (hC : C.length = 38) (h : TV (hM C sc ar P) tu) : TV (hM C sc' ar' P) tu :=
  TV_fr (X := fun q => 38 ≤ q ∧ q < 47) (fun q hq => hM_off hC (by omega)) (fun q hq => MV_NT (hM_MV hC) hq.1 hq.2) h
theorem I_own_hM {kr : Nat → Nat → Option Nat} (hC : C.length = 38) (h : I_own (hM C sc ar P) kr) : I_own (hM C sc' ar' P) kr := by
  refine ⟨fun i a hi ha => ?_, h.2⟩
  obtain ⟨h1, v, nm, jb, tu, tm, h2⟩ := h.1 i a hi ha
  exact ⟨h1, v, nm, jb, tu, tm, KC_fr (X := fun q => 38 ≤ q ∧ q < 47) (fun q hq => hM_off hC (by omega)) (fun k hk => by omega) h2⟩
/-- the reference's own numbers and arrays change, its row and what ties it to the class aside -/
theorem IV_hM' {j : Nat} {ks ka : Nat → Nat → Int32} {kl : Nat → Nat → Int64} {kr : Nat → Nat → Option Nat} {n o : Nat} {A : Nat → Tw} (hC : C.length = 38) (i1 : CV (hM C sc ar P) ks ka kl kr) (i3 : I_len (hM C sc ar P) kr j) (i8 : I_town (hM C sc ar P) sc ar T) (i9 : I_acts (hM C sc ar P) ks kr sc ar n o A) (i10 : I_img (hM C sc ar P) kr ar) (i11 : I_own (hM C sc ar P) kr) (i12 : TV (hM C sc ar P) (kr 18)) (hrow : I_rows ka ar') (htape : I_tape ks ka sc' ar') (hmisc : I_misc ks sc') (htr : I_trace ks ka sc' ar') (h0 : ∀ k, k < 1782 → ar' 0 k = ar 0 k) (h1 : ∀ k, k < 2 → ar' 1 k = ar 1 k) (hs1 : sc' 1 = sc 1) (hs2 : sc' 2 = sc 2) : IV (j + 1) (hM C sc' ar' P) ks ka kl kr sc' ar' T n o A := by
  obtain ⟨t1, t2, t3⟩ := i8
  obtain ⟨a1, a2, a3, a4, a5, a6, a7⟩ := i9
  refine ⟨CV_hM hC i1, hM_MV hC, ?_, hrow, htape, hmisc, htr, ⟨KB_hM hC (by omega) t1, fun k hk => ?_, ?_⟩, ⟨a1, a2, a3, a4, by rw [hs2]; exact a5, by rw [hs1]; exact a6, fun k hk => ?_⟩, fun k hk => ?_, I_own_hM hC i11, TV_hM hC i12⟩
  · unfold I_len at *
    rw [hM_len (sc' := sc) (ar' := ar)]
    omega
  · rw [h0 _ (by omega)]; exact t2 k hk
  · rw [hs1]; exact t3
  · obtain ⟨a, b1, b2, b3, b4⟩ := a7 k hk
    have : 47 ≤ a := (i11.1 ((o + k) % 24) a (by have := Nat.mod_lt (o + k) (show 0 < 24 by omega); omega) (by unfold OWN; rw [if_pos (Nat.mod_lt _ (by omega))]; exact b1)).1
    exact ⟨a, b1, KB_hM hC (Or.inr this) b2, b3, fun q hq => by rw [h0 _ (by omega)]; exact b4 q hq⟩
  · rcases i10 k hk with ⟨b1, b2⟩ | ⟨a, T', b1, b2, b3, b4, b5⟩
    · exact Or.inl ⟨b1, by rw [h1 k hk]; exact b2⟩
    · have : 47 ≤ a := (i11.1 (24 + k) a (by omega) (by unfold OWN; rw [if_neg (by omega), show 24 + k - 24 = k by omega]; exact b1)).1
      exact Or.inr ⟨a, T', b1, KB_hM hC (Or.inr this) b2, b3, fun q hq => by rw [h0 _ (by omega)]; exact b4 q hq, by rw [h1 k hk]; exact b5⟩
theorem IV_hM {j : Nat} {ks ka : Nat → Nat → Int32} {kl : Nat → Nat → Int64} {kr : Nat → Nat → Option Nat} {n o : Nat} {A : Nat → Tw} (hC : C.length = 38) (h : IV j (hM C sc ar P) ks ka kl kr sc ar T n o A) (hrow : I_rows ka ar') (htape : I_tape ks ka sc' ar') (hmisc : I_misc ks sc') (htr : I_trace ks ka sc' ar') (h0 : ∀ k, k < 1782 → ar' 0 k = ar 0 k) (h1 : ∀ k, k < 2 → ar' 1 k = ar 1 k) (hs1 : sc' 1 = sc 1) (hs2 : sc' 2 = sc 2) : IV (j + 1) (hM C sc' ar' P) ks ka kl kr sc' ar' T n o A :=
  IV_hM' hC h.1 h.2.2.1 h.2.2.2.2.2.2.2.1 h.2.2.2.2.2.2.2.2.1 h.2.2.2.2.2.2.2.2.2.1 h.2.2.2.2.2.2.2.2.2.2.1 h.2.2.2.2.2.2.2.2.2.2.2 hrow htape hmisc htr h0 h1 hs1 hs2
end MFr
/-- cells of the class change, its kitchen and its kept ones aside -/
theorem IV_C {j : Nat} {hp hp' : kw_H} {ks ka ks' ka' : Nat → Nat → Int32} {kl kl' : Nat → Nat → Int64} {kr kr' : Nat → Nat → Option Nat} {sc : Nat → Int32} {ar : Nat → Nat → Int32} {T : Tw} {n o : Nat} {A : Nat → Tw} (h : IV j hp ks ka kl kr sc ar T n o A) (hCV : CV hp' ks' ka' kl' kr') (hl : hp'.length = hp.length) (hf : ∀ q, (20 ≤ q ∧ q < 25) ∨ 38 ≤ q → hp'[q]? = hp[q]?) (h36 : kr' 36 = kr 36) (h37 : kr' 37 = kr 37) (h18 : TV hp (kr' 18)) (h7 : ks' 0 7 = ks 0 7) (h8 : ks' 0 8 = ks 0 8) :
    MV hp' sc ar ∧ I_len hp' kr' j ∧ I_town hp' sc ar T ∧ I_acts hp' ks' kr' sc ar n o A ∧ I_img hp' kr' ar ∧ I_own hp' kr' ∧ TV hp' (kr' 18) := by
  obtain ⟨i1, i2, i3, i4, i5, i6, i7, ⟨t1, t2, t3⟩, ⟨a1, a2, a3, a4, a5, a6, a7⟩, i10, i11, i12⟩ := h
  have hX : ∀ q, ¬ ((20 ≤ q ∧ q < 25) ∨ 38 ≤ q) → NT hp q := fun q hq => CV_NT i1 (by omega)
  have hf' : ∀ q, ¬ ¬ ((20 ≤ q ∧ q < 25) ∨ 38 ≤ q) → hp'[q]? = hp[q]? := fun q hq => hf q (Classical.not_not.mp hq)
  have hOW : OWN kr' = OWN kr := by funext i; unfold OWN; rw [h36, h37]
  have hKB : ∀ a T, 47 ≤ a → KB hp a T → KB hp' a T := fun a T ha hk => KB_fr (X := fun q => ¬ ((20 ≤ q ∧ q < 25) ∨ 38 ≤ q)) hf' hX (fun k hk z => z (by omega)) hk
  refine ⟨fun q hq => by rw [hf _ (by omega)]; exact i2 q hq, ?_, ⟨KB_fr (X := fun q => ¬ ((20 ≤ q ∧ q < 25) ∨ 38 ≤ q)) hf' hX (fun k hk z => z (by omega)) t1, t2, t3⟩, ⟨a1, a2, by rw [h8]; exact a3, by rw [h7]; exact a4, a5, by rw [h37]; exact a6, fun k hk => ?_⟩, fun k hk => ?_, ⟨fun i a hi ha => ?_, fun i j a b => ?_⟩, TV_fr (X := fun q => ¬ ((20 ≤ q ∧ q < 25) ∨ 38 ≤ q)) hf' hX h18⟩
  · unfold I_len
    rw [hOW, hl]
    exact i3
  · obtain ⟨a, b1, b2, b3, b4⟩ := a7 k hk
    have : 47 ≤ a := (i11.1 ((o + k) % 24) a (by have := Nat.mod_lt (o + k) (show 0 < 24 by omega); omega) (by unfold OWN; rw [if_pos (Nat.mod_lt _ (by omega))]; exact b1)).1
    exact ⟨a, by rw [h36]; exact b1, hKB a _ this b2, b3, b4⟩
  · rw [h37]
    rcases i10 k hk with hh | ⟨a, T', b1, b2, b3, b4, b5⟩
    · exact Or.inl hh
    · have : 47 ≤ a := (i11.1 (24 + k) a (by omega) (by unfold OWN; rw [if_neg (by omega), show 24 + k - 24 = k by omega]; exact b1)).1
      exact Or.inr ⟨a, T', b1, hKB a _ this b2, b3, b4, b5⟩
  · rw [hOW] at ha
    obtain ⟨h1, v, nm, jb, tu, tm, h2⟩ := i11.1 i a hi ha
    exact ⟨h1, v, nm, jb, tu, tm, KC_fr (X := fun q => ¬ ((20 ≤ q ∧ q < 25) ∨ 38 ≤ q)) hf' (fun k hk z => z (by omega)) h2⟩
  · rw [hOW]
    exact i11.2 i j a b
