/-! ===== the start: the invariant holds ===== -/
theorem init_all : lx_init Inv := by
  obtain ⟨hp1, e1, f, rfl, hf⟩ := init1
  obtain ⟨C, hCe⟩ : ∃ C, C = ccells (fun _ _ => 0) (fun q => if q = 12 then f else fun _ => 0) (fun _ _ => 0) (fun _ _ => none) := ⟨_, rfl⟩
  have hC : C.length = 38 := by rw [hCe]; rfl
  have e2 := init2a hC
  rw [← hCe] at e1
  obtain ⟨g, hg⟩ : ∃ g, g = (upd (upd (upd (upd (upd (upd (upd (upd (fun _ => 0) 0 (-1)) 1 (-1)) 2 (-1)) 3 (-1)) 4 (-1)) 5 (-1)) 6 (-1)) 7 (-1) : Nat → Int32) := ⟨_, rfl⟩
  rw [← hg] at e2
  have hg8 : ∀ k, k < 8 → g k = (-1) := by
    intro k hk
    rw [hg]
    unfold upd
    repeat' split
    all_goals first | rfl | omega
  clear hg
  refine ⟨_, _, e1, hC, e2, fun _ _ => 0, fun q => if q = 12 then f else fun _ => 0, fun _ _ => 0, fun _ _ => none, fun _ => 0, fun q => if q = 3 then g else fun _ => 0, fun _ => 0, 0, 0, fun _ _ => 0, ?_⟩
  have hCV : CV (C ++ [.inr (11, [.ref 39, .int 0, .int 0, .ref 40, .ref 41, .ref 42, .ref 43, .ref 44, .int 0, .int 0, .int 0, .ref 45, .int 0, .int 0, .int 0, .int 0, .ref 46]), .inl (0, 1848, .inl (fun _ => 0)), .inl (2, 2, .inl (fun _ => 0)), .inl (0, 8, .inl (fun _ => 0)), .inl (0, 8, .inl g), .inl (0, 320, .inl (fun _ => 0)), .inl (0, 80, .inl (fun _ => 0)), .inl (0, 16, .inl (fun _ => 0)), .inl (0, 360, .inl (fun _ => 0))]) (fun _ _ => 0) (fun q => if q = 12 then f else fun _ => 0) (fun _ _ => 0) (fun _ _ => none) := fun q hq => by
    rw [List.getElem?_append_left (by rw [hC]; exact hq), hCe]
  refine ⟨hCV, fun q hq => ?_, ?_, ?_, ?_, ⟨rfl, rfl⟩, ?_, ?_, ?_, ?_, ?_, ?_⟩
  · rw [List.getElem?_append_right (by omega), hC, show 38 + q - 38 = q by omega]
    rcases (show q = 0 ∨ q = 1 ∨ q = 2 ∨ q = 3 ∨ q = 4 ∨ q = 5 ∨ q = 6 ∨ q = 7 ∨ q = 8 by omega) with rfl | rfl | rfl | rfl | rfl | rfl | rfl | rfl | rfl <;> rfl
  · have e : q_ct (fun i => (OWN (fun _ _ => none) i).isSome) 26 = 0 := by decide
    unfold I_len
    rw [e, List.length_append, hC]
    exact Nat.le_refl 47
  · intro r hr
    refine ⟨?_, rfl, Or.inl ?_, ⟨0, by omega, rfl⟩, fun i hi => ?_⟩
    · show g r = f r
      rw [hf r hr, hg8 r hr]
    · exact hf r hr
    · show (0 : Int32) = (if 3 + r = 12 then f else fun _ => 0) i
      rw [if_neg (by omega)]
  · exact ⟨0, by omega, rfl, rfl, fun k hk => by omega⟩
  · exact ⟨⟨0, by omega, rfl, rfl, fun k hk => by omega⟩, rfl, rfl, rfl, fun k hk => rfl⟩
  · refine ⟨⟨_, _, _, _, _, CV_KC hCV, ⟨fun k hk => rfl, fun k hk => absurd hk (Nat.not_lt_zero k), fun k hk => absurd hk (Nat.not_lt_zero k), fun k hk => rfl⟩, fun k hk => absurd hk (Nat.not_lt_zero k), fun k a hk h => by cases h⟩, fun k hk => rfl, Or.inr ⟨rfl, rfl⟩⟩
  · exact ⟨by omega, by omega, rfl, rfl, rfl, fun h => h.elim (fun h => absurd h (Nat.lt_irrefl 0)) (fun ⟨k, a, _, h⟩ => by cases h), fun k hk => by omega⟩
  · exact fun k hk => Or.inl ⟨rfl, rfl⟩
  · refine ⟨fun i a hi h => ?_, fun i j a b hi hj hij h => ?_⟩
    · unfold OWN at h
      split at h <;> cases h
    · unfold OWN at h
      split at h <;> cases h
  · exact fun k a hk h => by cases h
