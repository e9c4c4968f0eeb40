/-! ===== kitchen: the class reads a turner, and the whole text ===== -/
def fv (b : Nat → Nat) (k : Nat) : Nat → Nat
  | 0 => 0
  | i + 1 => fv b k i * 10 + (b (k + i) - 48)
theorem q_nz {a : Nat} (ha : a < 2147483648) (h : a ≠ 0) : ¬ nI a = 0 := fun z => h ((q_eq ha (show 0 < 2147483648 by omega)).mp z)
section Zt
variable {x H H' : kw_H} {ks ka : Nat → Nat → Int32} {kl : Nat → Nat → Int64} {kr : Nat → Nat → Option Nat} {kds bys b : Nat → Nat} {L : Nat} {p w a4 a5 a6 p' w' a4' a5' a6' : Int32} {nm jb nm' jb' : Nat → Int32} {tu : Nat → Option Nat} {i : Nat}
theorem by_step (hT : TB ks ka b L) {k j : Nat} (h : ZP x ks ka kl kr kds bys H (nI k) w a4 a5 a6 nm jb tu i) (hk : k ≤ 150) (hj : j ≤ 2) (hf : fig b L (k + j) = true) : X8_readBy_b4 H 13 (nI j) (nI (fv b k j)) = some (.inl (nI (j + 1), nI (fv b k (j + 1)))) := by
  obtain ⟨g1, g2, g3⟩ := fig_b hf
  have ev : nI (fv b k j) * nI 10 + nI (b (k + j)) - nI 48 = nI (fv b k (j + 1)) := by
    rw [q_mul, nI_add]
    have := q_sub 48 (fv b k j * 10 + (b (k + j) - 48))
    rw [show 48 + (fv b k j * 10 + (b (k + j) - 48)) = fv b k j * 10 + b (k + j) by omega] at this
    exact this
  have eb : bv b L (k + j) = nI (b (k + j)) := if_pos g1
  unfold X8_readBy_b4
  rw [if_neg (fun z => by have := (q_lt (show 2 < 2147483648 by decide) (show j < 2147483648 by omega)).mp z; omega), z_g4 h, Option.bind_some, z_ob h, Option.bind_some, nI_add, z_by h hT (by omega), Option.bind_some, bv_fig hT, Option.bind_some, hf, if_neg (show ¬ nI (b2 true) = 0 from e10), Option.bind_some, Option.bind_some, nI_add, z_by h hT (by omega), Option.bind_some, eb, ev, nI_add]
theorem by_end (hT : TB ks ka b L) {k j : Nat} {v : Int32} (h : ZP x ks ka kl kr kds bys H (nI k) w a4 a5 a6 nm jb tu i) (hk : k ≤ 150) (hj : j = 3 ∨ (j ≤ 2 ∧ fig b L (k + j) = false)) {R : Int32 × kw_H} (hR : X8_readBy_J54 H 13 (nI j) v = some R) : X8_readBy_b4 H 13 (nI j) v = some (.inr R) := by
  unfold X8_readBy_b4
  rcases hj with rfl | ⟨hj, hf⟩
  · rw [if_pos (by decide), hR]
    rfl
  · rw [if_neg (fun z => by have := (q_lt (show 2 < 2147483648 by decide) (show j < 2147483648 by omega)).mp z; omega), z_g4 h, Option.bind_some, z_ob h, Option.bind_some, nI_add, z_by h hT (by omega), Option.bind_some, bv_fig hT, Option.bind_some, hf, if_pos (show nI (b2 false) = 0 from e00), hR]
    rfl
theorem by_run (hT : TB ks ka b L) {k j : Nat} (h : ZP x ks ka kl kr kds bys H (nI k) w a4 a5 a6 nm jb tu i) (hk : k ≤ 150) (hs : ∀ t, t < j → fig b L (k + t) = true) (hj : j = 3 ∨ (j ≤ 2 ∧ fig b L (k + j) = false)) {R : Int32 × kw_H} (hR : X8_readBy_J54 H 13 (nI j) (nI (fv b k j)) = some R) : X8_readBy_F H 13 = some R := by
  unfold X8_readBy_F
  refine lp_for (fun t => (nI t, nI (fv b k t))) j _ (fun t ht => by_step hT h hk (by omega) (hs t ht)) (by_end hT h hk hj hR) 2000 (by omega)
theorem z_byO (hT : TB ks ka b L) {k v s : Nat} (h : ZP x ks ka kl kr kds bys H (nI k) w a4 a5 a6 nm jb tu i) (hk : k ≤ 150) (hN : NO b L k v s) : if v ≤ 9 then ∃ H', X8_readBy_F H 13 = some (nI v, H') ∧ ZP x ks ka kl kr kds bys H' (nI (k + s)) w a4 a5 a6 nm jb tu i else ∃ r H', X8_readBy_F H 13 = some (r, H') ∧ ZP x ks ka kl kr kds bys H' (nI k) (nI 2) a4 a5 a6 nm jb tu i := by
  have key : (s = 1 ∨ s = 2) ∧ (∀ t, t < s → fig b L (k + t) = true) ∧ fig b L (k + s) = false ∧ fv b k s = v ∧ v < 256 := by
    rcases hN with ⟨rfl, f1, f2, rfl⟩ | ⟨rfl, f1, f2, f3, rfl⟩
    · have := fig_b f1
      refine ⟨Or.inl rfl, fun t ht => by rw [show k + t = k by omega]; exact f1, f2, ?_, by omega⟩
      show 0 * 10 + (b (k + 0) - 48) = _
      rw [Nat.add_zero]
      omega
    · have := fig_b f1
      have := fig_b f2
      refine ⟨Or.inr rfl, fun t ht => ?_, f3, ?_, by omega⟩
      · by_cases e : t = 0
        · rw [e]; exact f1
        · rw [show t = 1 by omega]; exact f2
      · show (0 * 10 + (b (k + 0) - 48)) * 10 + (b (k + 1) - 48) = _
        rw [Nat.add_zero]
        omega
  obtain ⟨k1, k2, k3, k4, k5⟩ := key
  have nz : ¬ nI s = 0 := fun z => by have := (q_eq (show s < 2147483648 by omega) (show 0 < 2147483648 by omega)).mp z; omega
  by_cases e : v ≤ 9
  · rw [if_pos e]
    obtain ⟨H1, e1, e2⟩ := z_p4 h (nI (k + s))
    refine ⟨H1, by_run hT h hk k2 (Or.inr ⟨by omega, k3⟩) ?_, e2⟩
    unfold X8_readBy_J54
    rw [k4, if_neg nz, if_pos ((q_le (by omega) (by omega)).mpr (by omega)), if_pos ((q_le (by omega) (by omega)).mpr e), z_g4 h, Option.bind_some, nI_add, e1]
    rfl
  · rw [if_neg e]
    obtain ⟨H1, e1, e2⟩ := z_p3 h (nI 2)
    refine ⟨nI v, H1, by_run hT h hk k2 (Or.inr ⟨by omega, k3⟩) ?_, e2⟩
    unfold X8_readBy_J54
    rw [k4, if_neg nz, if_pos ((q_le (by omega) (by omega)).mpr (by omega)), if_neg (fun z => e ((q_le (by omega) (by omega)).mp z)), e1]
    rfl
theorem z_byF (hT : TB ks ka b L) {k w' : Nat} (h : ZP x ks ka kl kr kds bys H (nI k) w a4 a5 a6 nm jb tu i) (hk : k ≤ 150) (hN : NF b L k w') : ∃ r H', X8_readBy_F H 13 = some (r, H') ∧ ZP x ks ka kl kr kds bys H' (nI k) (nI w') a4 a5 a6 nm jb tu i := by
  rcases hN with ⟨rfl, h1⟩ | ⟨rfl, v, s, h1, h9⟩
  · obtain ⟨H1, e1, e2⟩ := z_p3 h (nI 1)
    rcases h1 with h1 | ⟨f1, f2, f3⟩
    · refine ⟨nI 0, H1, by_run (j := 0) hT h hk (fun t ht => by omega) (Or.inr ⟨by omega, h1⟩) ?_, e2⟩
      unfold X8_readBy_J54
      rw [if_pos e00, e1]
      rfl
    · refine ⟨nI (fv b k 3), H1, by_run (j := 3) hT h hk (fun t ht => ?_) (Or.inl rfl) ?_, e2⟩
      · rcases (show t = 0 ∨ t = 1 ∨ t = 2 by omega) with rfl | rfl | rfl
        · exact f1
        · exact f2
        · exact f3
      · unfold X8_readBy_J54
        rw [if_neg (by decide), if_neg (by decide), e1]
        rfl
  · have := z_byO hT h hk h1
    rw [if_neg (by omega)] at this
    exact this
theorem tK_s (j q : Nat) (hj : j < 4) : tK kds bys (j + 1) q = if q = 2 then j + 1 else if q = 22 + j then kds j else if q = 26 + j then bys j else tK kds bys j q := nT_s (by omega) (by omega) hj q
theorem z_turn (h : ZP x ks ka kl kr kds bys H p w a4 a5 a6 nm jb tu i) (hi : i < 4) (hl : H.length ≤ 3890) (hx : 47 ≤ x.length) (hkd : 1 ≤ kds i ∧ kds i ≤ 5) : ∃ H1 H2 tu', X10_made_F H (nI (kds i)) (nI i) (nI (bys i)) = some (some H.length, H ++ [.inr (kcn (kds i), [.int (nI i), .int (nI (bys i))])]) ∧ kp_stR (H ++ [.inr (kcn (kds i), [.int (nI i), .int (nI (bys i))])]) 3 18 (nI i) (some H.length) [0, 3, 4, 5, 7] = some H1 ∧ kp_gR H1 13 [8] 2 = some 15 ∧ kp_put H1 15 [2] 6 (.int (nI (i + 1))) = some H2 ∧ ZP x ks ka kl kr kds bys H2 p w a4 a5 (nI (i + 1)) nm jb tu' (i + 1) := by
  obtain ⟨h1, h2, h3, h4, h5⟩ := h
  obtain ⟨c, hc⟩ : ∃ c : kw_E, c = .inr (kcn (kds i), [.int (nI i), .int (nI (bys i))]) := ⟨_, rfl⟩
  rw [← hc]
  have hA : ∀ q, q < H.length → (H ++ [c])[q]? = H[q]? := fun q hq => List.getElem?_append_left hq
  have hN : (H ++ [c])[H.length]? = some c := by rw [List.getElem?_append_right (Nat.le_refl _), Nat.sub_self]; rfl
  have c18 : (H ++ [c])[18]? = some (.inl (3, 4, .inr (.inr (.inr (.inr tu))))) := (hA 18 (by omega)).trans (cv18 h1)
  obtain ⟨y, hy⟩ : ∃ y, y = (H ++ [c]).set 18 (.inl (3, 4, .inr (.inr (.inr (.inr (va_up tu i (some H.length))))))) := ⟨_, rfl⟩
  have hst : kp_stR (H ++ [c]) 3 18 (nI i) (some H.length) [0, 3, 4, 5, 7] = some y := by
    rw [hy]
    exact stR_some c18 (by decide) hi (by rw [hN, hc]) kcn_in
  have ly : y.length = H.length + 1 := by rw [hy]; simp
  have fY : ∀ q, q ≠ 18 → q < H.length → y[q]? = H[q]? := fun q h1 h2 => by rw [hy, List.getElem?_set_ne (Ne.symm h1), hA q h2]
  have nY : y[H.length]? = some (.inr (kcn (kds i), [.int (nI i), .int (nI (bys i))])) := by rw [hy, List.getElem?_set_ne (by omega), hN, hc]
  have cvY : CV y (zs ks p w a4 a5 a6) (za ka nm jb) kl (fun q => if q = 18 then va_up tu i (some H.length) else kr q) := CV_18 h1 (by rw [hy, List.getElem?_set_self (by simp; omega)]) (fun q hq hne => fY q hne (by omega))
  have NT3 : ∀ a ci fs, H[a]? = some (.inr (ci, fs)) → a ≠ 18 ∧ a < H.length := fun a ci fs e => ⟨fun z => (by rw [z, cv18 h1] at e; cases e), (List.getElem?_eq_some_iff.mp e).1⟩
  have tvY : TV y (va_up tu i (some H.length)) := fun q a hq ha => by
    by_cases e : q = i
    · subst e
      rw [up_at] at ha
      cases ha
      exact ⟨_, _, nY, kcn_in⟩
    · rw [up_ne _ _ e] at ha
      obtain ⟨ci, fs, g1, g2⟩ := h2 q a hq ha
      obtain ⟨n1, n2⟩ := NT3 a _ _ g1
      exact ⟨ci, fs, by rw [fY a n1 n2]; exact g1, g2⟩
  have tuY : TU y (va_up tu i (some H.length)) (tK kds bys (i + 1)) := fun q hq => by
    have hq : q < i + 1 := hq
    rw [tK_s i _ hi, tK_s i _ hi]
    by_cases e : q = i
    · subst e
      rw [if_neg (by omega), if_pos rfl, if_neg (by omega), if_neg (by omega), if_pos rfl]
      exact ⟨H.length, up_at _ _ _, nY⟩
    · rw [if_neg (by omega), if_neg (by omega), if_neg (by omega), if_neg (by omega), if_neg (by omega), if_neg (by omega)]
      obtain ⟨a, b1, b2⟩ := h3 q (show q < i by omega)
      obtain ⟨n1, n2⟩ := NT3 a _ _ b2
      exact ⟨a, by rw [up_ne _ _ e]; exact b1, by rw [fY a n1 n2]; exact b2⟩
  have zY : ZP x ks ka kl kr kds bys y p w a4 a5 a6 nm jb (va_up tu i (some H.length)) (i + 1) := ⟨cvY, tvY, tuY, fun q hq hq2 => by rw [fY q (by omega) (by omega)]; exact h4 q hq hq2, by omega⟩
  obtain ⟨H2, e1, e2⟩ := z_n6 zY (nI (i + 1))
  exact ⟨y, H2, _, by rw [hc]; exact c_made hl hkd _ _, hst, z_r2 zY, e1, e2⟩
theorem z_tF (hT : TB ks ka b L) {k y w' : Nat} (h : ZP x ks ka kl kr kds bys H (nI k) (nI 0) a4 a5 a6 nm jb tu i) (hk : k ≤ 100) (hi : i ≤ 4) (hw : 1 ≤ w' ∧ w' ≤ 3) (hF : TF b L i k y w') : ∃ H', X8_readTurner_F H 13 (nI i) = some H' ∧ ZP x ks ka kl kr kds bys H' (nI y) (nI w') a4 a5 a6 nm jb tu i := by
  have hkd := kdA_le b L k
  unfold X8_readTurner_F
  rw [z_g4 h, Option.bind_some, z_ob h, Option.bind_some, z_by h hT (by omega), Option.bind_some, bv_kd hT, Option.bind_some]
  rcases hF with ⟨h0, rfl, rfl⟩ | ⟨h0, rfl, rfl, rfl⟩ | ⟨h0, hi4, hN, rfl⟩ | ⟨h0, hi4, v, s, h2, h9, h4, rfl, rfl⟩
  · obtain ⟨H1, e1, e2⟩ := z_p3 h (nI 1)
    refine ⟨H1, ?_, e2⟩
    rw [h0, if_pos e00, e1]
    rfl
  · obtain ⟨H1, e1, e2⟩ := z_p3 h (nI 3)
    refine ⟨H1, ?_, e2⟩
    rw [if_neg (q_nz (by omega) h0), if_neg (by decide), if_neg (by decide), e1]
    rfl
  · obtain ⟨H1, e1, e2⟩ := z_p4 h (nI (k + 1))
    obtain ⟨r, H2, e3, e4⟩ := z_byF hT e2 (by omega) hN
    refine ⟨H2, ?_, e4⟩
    rw [if_neg (q_nz (by omega) h0), if_neg (fun z => (q_lt0 (by omega)).mp z), if_pos ((q_lt (by omega) (by omega)).mpr hi4), Option.bind_some, nI_add, e1, Option.bind_some, z_ob e2, Option.bind_some, e3, Option.bind_some]
    show ((kp_gI H2 13 [8] 3).bind fun v8 => _) = _
    rw [z_g3 e4, Option.bind_some, if_neg (fun z => by have := (q_eq (show w' < 2147483648 by omega) (show 0 < 2147483648 by omega)).mp z; omega)]
  · obtain ⟨H1, e1, e2⟩ := z_p4 h (nI (k + 1))
    have e34 := z_byO hT e2 (by omega) h2
    rw [if_pos h9] at e34
    obtain ⟨H2, e3, e4⟩ := e34
    have hs : s ≤ 2 := by rcases h2 with h | h <;> omega
    obtain ⟨H3, e5, e6⟩ := (z_pass hT e4 (show k + 1 + s ≤ 200 by omega) (show 59 < 256 by omega)).2 h4
    refine ⟨H3, ?_, e6⟩
    rw [if_neg (q_nz (by omega) h0), if_neg (fun z => (q_lt0 (by omega)).mp z), if_pos ((q_lt (by omega) (by omega)).mpr hi4), Option.bind_some, nI_add, e1, Option.bind_some, z_ob e2, Option.bind_some, e3, Option.bind_some]
    show ((kp_gI H2 13 [8] 3).bind fun v8 => if v8 = 0 then ((kp_ob H2 13 8).bind fun _ => X8_passes_F H2 13 (nI 59)).bind fun r9 => if r9.1 = 0 then some r9.2 else _ else _) = _
    rw [z_g3 e4, Option.bind_some, if_pos e00, z_ob e4, Option.bind_some, e5, Option.bind_some]
    exact if_pos e00
theorem z_tO (hT : TB ks ka b L) {k k' : Nat} (h : ZP x ks ka kl kr kds bys H (nI k) (nI 0) a4 a5 a6 nm jb tu i) (hk : k ≤ 100) (hl : H.length ≤ 3890) (hx : 47 ≤ x.length) (hO : TOk b L i k (kds i) (bys i) k') : ∃ H' tu', X8_readTurner_F H 13 (nI i) = some H' ∧ ZP x ks ka kl kr kds bys H' (nI k') (nI 0) a4 a5 (nI (i + 1)) nm jb tu' (i + 1) := by
  have hkd := kdA_le b L k
  obtain ⟨t1, t2, hi4, s, h2, h9, h4, rfl⟩ := hO
  have hs : s ≤ 2 := by rcases h2 with h | h <;> omega
  obtain ⟨H1, e1, e2⟩ := z_p4 h (nI (k + 1))
  have e34 := z_byO hT e2 (by omega) h2
  rw [if_pos h9] at e34
  obtain ⟨H2, e3, e4⟩ := e34
  obtain ⟨H3, e5, e6⟩ := (z_pass hT e4 (show k + 1 + s ≤ 200 by omega) (show 59 < 256 by omega)).1 h4
  rw [show k + 1 + s + 1 = k + 2 + s by omega] at e6
  obtain ⟨H4, H5, tu', m1, m2, m3, m4, m5⟩ := z_turn e6 hi4 (by have := e6.2.2.2.2; have := h.2.2.2.2; omega) hx (by omega)
  refine ⟨H5, tu', ?_, m5⟩
  unfold X8_readTurner_F
  rw [z_g4 h, Option.bind_some, z_ob h, Option.bind_some, z_by h hT (by omega), Option.bind_some, bv_kd hT, Option.bind_some, ← t1, if_neg (q_nz (by omega) t2), if_neg (fun z => (q_lt0 (by omega)).mp z), if_pos ((q_lt (by omega) (by omega)).mpr hi4), Option.bind_some, nI_add, e1, Option.bind_some, z_ob e2, Option.bind_some, e3, Option.bind_some]
  show ((kp_gI H2 13 [8] 3).bind fun v8 => if v8 = 0 then ((kp_ob H2 13 8).bind fun _ => X8_passes_F H2 13 (nI 59)).bind fun r9 => if r9.1 = 0 then some r9.2 else (kp_gR r9.2 13 [8] 2).bind fun v10 => (kp_gR r9.2 v10 [2] 2).bind fun v11 => (X10_made_F r9.2 (nI (kds i)) (nI i) (nI (bys i))).bind fun r12 => kp_spl r12 fun o13 hpo13 => kp_nu o13 ((kp_stR hpo13 3 v11 (nI i) none [0, 3, 4, 5, 7]).bind fun hp15 => (kp_gR hp15 13 [8] 2).bind fun v16 => (kp_put hp15 v16 [2] 6 (.int (nI i + nI 1))).bind fun hp17 => some hp17) (fun b14 => (kp_stR hpo13 3 v11 (nI i) (some b14) [0, 3, 4, 5, 7]).bind fun hp18 => (kp_gR hp18 13 [8] 2).bind fun v19 => (kp_put hp18 v19 [2] 6 (.int (nI i + nI 1))).bind fun hp20 => some hp20) else _) = _
  rw [z_g3 e4, Option.bind_some, if_pos e00, z_ob e4, Option.bind_some, e5, Option.bind_some]
  show (if nI 1 = 0 then some H3 else (kp_gR H3 13 [8] 2).bind fun v10 => (kp_gR H3 v10 [2] 2).bind fun v11 => (X10_made_F H3 (nI (kds i)) (nI i) (nI (bys i))).bind fun r12 => kp_spl r12 fun o13 hpo13 => kp_nu o13 ((kp_stR hpo13 3 v11 (nI i) none [0, 3, 4, 5, 7]).bind fun hp15 => (kp_gR hp15 13 [8] 2).bind fun v16 => (kp_put hp15 v16 [2] 6 (.int (nI i + nI 1))).bind fun hp17 => some hp17) (fun b14 => (kp_stR hpo13 3 v11 (nI i) (some b14) [0, 3, 4, 5, 7]).bind fun hp18 => (kp_gR hp18 13 [8] 2).bind fun v19 => (kp_put hp18 v19 [2] 6 (.int (nI i + nI 1))).bind fun hp20 => some hp20)) = _
  rw [if_neg e10, z_r2 e6, Option.bind_some, c15_r2 e6.1, Option.bind_some, m1, Option.bind_some]
  show ((kp_stR _ 3 18 (nI i) (some H3.length) [0, 3, 4, 5, 7]).bind fun hp18 => (kp_gR hp18 13 [8] 2).bind fun v19 => (kp_put hp18 v19 [2] 6 (.int (nI i + nI 1))).bind fun hp20 => some hp20) = _
  rw [m2, Option.bind_some, m3, Option.bind_some, nI_add, m4, Option.bind_some]
end Zt
