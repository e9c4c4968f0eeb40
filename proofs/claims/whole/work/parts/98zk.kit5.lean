/-! ===== kitchen: the class reads the whole text ===== -/
theorem TF_w {b : Nat → Nat} {L i k y w : Nat} (h : TF b L i k y w) : 1 ≤ w ∧ w ≤ 3 := by
  rcases h with ⟨-, -, rfl⟩ | ⟨-, -, -, rfl⟩ | ⟨-, -, hN, -⟩ | ⟨-, -, v, s, -, -, -, -, rfl⟩
  · omega
  · omega
  · rcases hN with ⟨rfl, -⟩ | ⟨rfl, -⟩ <;> omega
  · omega
section Zr
variable {x H H' : kw_H} {ks ka : Nat → Nat → Int32} {kl : Nat → Nat → Int64} {kr : Nat → Nat → Option Nat} {kds bys b : Nat → Nat} {L : Nat} {p w a4 a5 a6 : Int32} {nm jb : Nat → Int32} {tu : Nat → Option Nat} {i : Nat}
theorem zs_self : zs ks (ks 13 4) (ks 13 3) (ks 15 4) (ks 15 5) (ks 15 6) = ks := by
  funext q k
  unfold zs
  by_cases e1 : q = 13 ∧ k = 4
  · rw [if_pos e1, e1.1, e1.2]
  · rw [if_neg e1]
    by_cases e2 : q = 13 ∧ k = 3
    · rw [if_pos e2, e2.1, e2.2]
    · rw [if_neg e2]
      by_cases e3 : q = 15 ∧ k = 4
      · rw [if_pos e3, e3.1, e3.2]
      · rw [if_neg e3]
        by_cases e4 : q = 15 ∧ k = 5
        · rw [if_pos e4, e4.1, e4.2]
        · rw [if_neg e4]
          by_cases e5 : q = 15 ∧ k = 6
          · rw [if_pos e5, e5.1, e5.2]
          · rw [if_neg e5]
theorem za_self : za ka (ka 16) (ka 17) = ka := by
  funext q
  unfold za
  by_cases e1 : q = 16
  · rw [if_pos e1, e1]
  · rw [if_neg e1]
    by_cases e2 : q = 17
    · rw [if_pos e2, e2]
    · rw [if_neg e2]
theorem ZP_0 (h : CV x ks ka kl kr) (hv : TV x (kr 18)) : ZP x ks ka kl kr kds bys x (ks 13 4) (ks 13 3) (ks 15 4) (ks 15 5) (ks 15 6) (ka 16) (ka 17) (kr 18) 0 := by
  refine ⟨?_, hv, fun k hk => absurd (show k < 0 from hk) (Nat.not_lt_zero k), fun _ _ _ => rfl, rfl⟩
  have ek : (fun q => if q = 18 then kr 18 else kr q) = kr := by
    funext q
    by_cases e : q = 18
    · rw [if_pos e, e]
    · rw [if_neg e]
  rw [zs_self, za_self, ek]
  exact h
theorem z_beg (h : CV x ks ka kl kr) (hv : TV x (kr 18)) (kds bys : Nat → Nat) : ∃ H3, ZP x ks ka kl kr kds bys H3 (nI 0) (nI 0) (ks 15 4) (ks 15 5) (nI 0) (ka 16) (ka 17) (kr 18) 0 ∧ ∀ R, ((X8_readWheel_F H3 13 (nI 110) 16).bind fun r8 => (kp_put r8.2 15 [2] 4 (.int r8.1)).bind fun hp9 => (kp_gR hp9 13 [8] 2).bind fun v10 => (kp_gI hp9 13 [8] 3).bind fun v11 => (if v11 = 0 then (kp_gR hp9 13 [8] 2).bind fun v26 => (kp_gR hp9 v26 [2] 1).bind fun v27 => ((kp_ob hp9 13 8).bind fun _ => X8_readWheel_F hp9 13 (nI 106) v27).bind fun r28 => X8_read_J66 r28.2 13 r28.1 v10 else X8_read_J66 hp9 13 (nI 0) v10)) = R → X8_read_F x 13 = R := by
  have z0 := ZP_0 (kds := kds) (bys := bys) h hv
  obtain ⟨H1, e1, z1⟩ := z_p4 z0 (nI 0)
  obtain ⟨H2, e2, z2⟩ := z_p3 z1 (nI 0)
  obtain ⟨H3, e3, z3⟩ := z_n6 z2 (nI 0)
  refine ⟨H3, z3, fun R hR => ?_⟩
  unfold X8_read_F
  rw [e1, Option.bind_some, e2, Option.bind_some, z_r2 z2, Option.bind_some, e3, Option.bind_some, z_r2 z3, Option.bind_some, Option.bind_some, c15_r0 z3.1, Option.bind_some, z_ob z3, Option.bind_some]
  exact hR
theorem z_109F (h : ZP x ks ka kl kr kds bys H p w a4 a5 a6 nm jb tu i) (hw : ¬ w = 0) : X8_read_J109 H 13 = some (nI 0, H) := by
  unfold X8_read_J109
  rw [z_g3 h, Option.bind_some, if_neg hw]
theorem z_71F (h : ZP x ks ka kl kr kds bys H p w a4 a5 a6 nm jb tu i) (hw : ¬ w = 0) (v : Int32) : X8_read_b71 13 v H = some (.inr (nI 0, H)) := by
  unfold X8_read_b71
  rw [z_g3 h, Option.bind_some, if_neg hw, z_109F h hw, ite_self]
  rfl
theorem z_66F (h : ZP x ks ka kl kr kds bys H p w a4 a5 a6 nm jb tu i) (hw : ¬ w = 0) (v : Int32) : ∃ H', X8_read_J66 H 13 v 15 = some (nI 0, H') ∧ ZP x ks ka kl kr kds bys H' p w a4 v a6 nm jb tu i := by
  obtain ⟨H1, e1, z1⟩ := z_n5 h v
  refine ⟨H1, ?_, z1⟩
  unfold X8_read_J66
  rw [e1, Option.bind_some]
  exact lp_for (fun _ => (nI 0, H1)) 0 _ (fun i hi => absurd hi (Nat.not_lt_zero i)) (z_71F z1 hw _) 2000 (by omega)
theorem z_71 (hT : TB ks ka b L) {k j : Nat} (h : ZP x ks ka kl kr kds bys H (nI k) (nI 0) a4 a5 a6 nm jb tu i) (hk : k ≤ 200) (hj : j ≤ 4) (hc : j = 0 ∨ k < L) : X8_read_b71 13 (nI j) H = X8_read_J98 H 13 (nI j) := by
  have := hT.1
  unfold X8_read_b71
  rw [if_neg (fun z => by have := (q_lt (show 4 < 2147483648 by decide) (show j < 2147483648 by omega)).mp z; omega), z_g3 h, Option.bind_some, if_pos e00]
  by_cases e : j = 0
  · rw [e, if_pos e00]
  · rw [if_neg (q_nz (by omega) e), z_g4 h, Option.bind_some, z_g1 h, Option.bind_some, hT.2.1, if_neg (fun z => by have := (q_le (show L < 2147483648 by omega) (show k < 2147483648 by omega)).mp z; omega)]
theorem z_98 {v : Nat} (h : ZP x ks ka kl kr kds bys H p w a4 a5 a6 nm jb tu i) (e : X8_readTurner_F H 13 (nI v) = some H') : X8_read_J98 H 13 (nI v) = some (.inl (nI (v + 1), H')) := by
  unfold X8_read_J98
  rw [z_ob h, Option.bind_some, e, Option.bind_some, nI_add]
theorem z_lpO (hT : TB ks ka b L) (hx : 47 ≤ x.length ∧ x.length ≤ 3800) {p0 m : Nat} {ps : Nat → Nat} (hp0 : p0 ≤ L) (hs : TSq b L p0 m ps kds bys) (hm : m ≤ 4 ∧ 0 < m) (he : ps m = L) (h : ZP x ks ka kl kr kds bys H (nI p0) (nI 0) a4 a5 (nI 0) nm jb tu 0) : ∃ r, kp_lp (X8_read_B71 13) 2000 (nI 0, H) = some r ∧ ∃ H' tu', r = (nI 1, H') ∧ ZP x ks ka kl kr kds bys H' (nI L) (nI 0) a4 a5 (nI m) nm jb tu' m := by
  have hL := hT.1
  refine lp_ex (fun j s => ∃ H' tu', s = (nI j, H') ∧ ZP x ks ka kl kr kds bys H' (nI (ps j)) (nI 0) a4 a5 (nI j) nm jb tu' j) _ m (fun j s hj z => ?_) (fun s z => ?_) 2000 (by omega) _ ⟨H, tu, rfl, by rw [hs.1]; exact h⟩
  · obtain ⟨H1, tu1, rfl, z⟩ := z
    have hle := TSq_le hs hp0 j (by omega)
    obtain ⟨g1, g2⟩ := hs.2 j hj
    obtain ⟨H2, tu2, e1, e2⟩ := z_tO hT z (by omega) (by have := z.2.2.2.2; omega) hx.1 g2
    exact Or.inl ⟨(nI (j + 1), H2), (z_71 hT z (by omega) (by omega) g1).trans (z_98 z e1), H2, tu2, rfl, e2⟩
  · obtain ⟨H1, tu1, rfl, z⟩ := z
    refine ⟨(nI 1, H1), ?_, H1, tu1, rfl, by rw [← he]; exact z⟩
    show X8_read_b71 13 (nI m) H1 = _
    unfold X8_read_b71 X8_read_J109
    rw [if_neg (fun z => by have := (q_lt (show 4 < 2147483648 by decide) (show m < 2147483648 by omega)).mp z; omega), z_g3 z, Option.bind_some, if_pos e00, if_neg (q_nz (by omega) (by omega)), z_g4 z, Option.bind_some, z_g1 z, Option.bind_some, hT.2.1, he, if_pos ((q_le (by omega) (by omega)).mpr (Nat.le_refl _)), Option.bind_some, if_pos e00]
    rfl
theorem z_lpF (hT : TB ks ka b L) (hx : 47 ≤ x.length ∧ x.length ≤ 3800) {p0 m y w' : Nat} {ps : Nat → Nat} (hp0 : p0 ≤ L) (hs : TSq b L p0 m ps kds bys) (hm : m ≤ 4) (hlt : m = 0 ∨ ps m < L) (ht : TF b L m (ps m) y w') (h : ZP x ks ka kl kr kds bys H (nI p0) (nI 0) a4 a5 (nI 0) nm jb tu 0) : ∃ r, kp_lp (X8_read_B71 13) 2000 (nI 0, H) = some r ∧ ∃ H' tu', r = (nI 0, H') ∧ ZP x ks ka kl kr kds bys H' (nI y) (nI w') a4 a5 (nI m) nm jb tu' m := by
  have hL := hT.1
  have hw := TF_w ht
  refine lp_ex (fun j s => if j ≤ m then ∃ H' tu', s = (nI j, H') ∧ ZP x ks ka kl kr kds bys H' (nI (ps j)) (nI 0) a4 a5 (nI j) nm jb tu' j else ∃ H' tu', s = (nI j, H') ∧ ZP x ks ka kl kr kds bys H' (nI y) (nI w') a4 a5 (nI m) nm jb tu' m) _ (m + 1) (fun j s hj z => ?_) (fun s z => ?_) 2000 (by omega) _ (by rw [if_pos (by omega)]; exact ⟨H, tu, rfl, by rw [hs.1]; exact h⟩)
  · rw [if_pos (by omega)] at z
    obtain ⟨H1, tu1, rfl, z⟩ := z
    have hle := TSq_le hs hp0 j (by omega)
    by_cases e : j < m
    · obtain ⟨g1, g2⟩ := hs.2 j e
      obtain ⟨H2, tu2, e1, e2⟩ := z_tO hT z (by omega) (by have := z.2.2.2.2; omega) hx.1 g2
      exact Or.inl ⟨(nI (j + 1), H2), (z_71 hT z (by omega) (by omega) g1).trans (z_98 z e1), by rw [if_pos (by omega)]; exact ⟨H2, tu2, rfl, e2⟩⟩
    · have : j = m := by omega
      subst this
      obtain ⟨H2, e1, e2⟩ := z_tF hT z (by omega) hm hw ht
      exact Or.inl ⟨(nI (j + 1), H2), (z_71 hT z (by omega) (by omega) hlt).trans (z_98 z e1), by rw [if_neg (by omega)]; exact ⟨H2, tu1, rfl, e2⟩⟩
  · rw [if_neg (by omega)] at z
    obtain ⟨H1, tu1, rfl, z⟩ := z
    exact ⟨(nI 0, H1), z_71F z (q_nz (by omega) (by omega)) _, H1, tu1, rfl, z⟩
theorem z_w2 (hT : TB ks ka b L) (h : CV x ks ka kl kr) (hv : TV x (kr 18)) (kds bys : Nat → Nat) {m1 : Nat} (h1 : WO b L 0 110 m1) : ∃ H5, ZP x ks ka kl kr kds bys H5 (nI (2 + m1)) (nI 0) (nI m1) (ks 15 5) (nI 0) (wR (ka 16) b 0 1 m1) (ka 17) (kr 18) 0 ∧ ∀ R, ((X8_readWheel_F H5 13 (nI 106) 17).bind fun r28 => X8_read_J66 r28.2 13 r28.1 15) = R → X8_read_F x 13 = R := by
  obtain ⟨H3, z3, hR3⟩ := z_beg h hv kds bys
  obtain ⟨H4, e4, z4⟩ := z_wO16 hT z3 (by omega) (by omega) h1
  rw [Nat.zero_add, Nat.zero_add] at z4
  obtain ⟨H5, e5, z5⟩ := z_n4 z4 (nI m1)
  refine ⟨H5, z5, fun R hR => hR3 R ?_⟩
  rw [e4, Option.bind_some]
  show ((kp_put H4 15 [2] 4 (.int (nI m1))).bind fun hp9 => (kp_gR hp9 13 [8] 2).bind fun v10 => (kp_gI hp9 13 [8] 3).bind fun v11 => (if v11 = 0 then (kp_gR hp9 13 [8] 2).bind fun v26 => (kp_gR hp9 v26 [2] 1).bind fun v27 => ((kp_ob hp9 13 8).bind fun _ => X8_readWheel_F hp9 13 (nI 106) v27).bind fun r28 => X8_read_J66 r28.2 13 r28.1 v10 else X8_read_J66 hp9 13 (nI 0) v10)) = R
  rw [e5, Option.bind_some, z_r2 z5, Option.bind_some, z_g3 z5, Option.bind_some, if_pos e00, Option.bind_some, c15_r1 z5.1, Option.bind_some, z_ob z5, Option.bind_some]
  exact hR
theorem z_w3 (hT : TB ks ka b L) (h : CV x ks ka kl kr) (hv : TV x (kr 18)) (kds bys : Nat → Nat) {m1 m2 : Nat} (h1 : WO b L 0 110 m1) (h2 : WO b L (2 + m1) 106 m2) : ∃ H7, ZP x ks ka kl kr kds bys H7 (nI (2 + m1 + 2 + m2)) (nI 0) (nI m1) (nI m2) (nI 0) (wR (ka 16) b 0 1 m1) (wR (ka 17) b 0 (2 + m1 + 1) m2) (kr 18) 0 ∧ ∀ R, kp_lp (X8_read_B71 13) 2000 (nI 0, H7) = R → X8_read_F x 13 = R := by
  have := h1.2.1.1
  obtain ⟨H5, z5, hR5⟩ := z_w2 hT h hv kds bys h1
  obtain ⟨H6, e6, z6⟩ := z_wO17 hT z5 (by omega) (by omega) h2
  obtain ⟨H7, e7, z7⟩ := z_n5 z6 (nI m2)
  refine ⟨H7, z7, fun R hR => hR5 R ?_⟩
  rw [e6, Option.bind_some]
  show X8_read_J66 H6 13 (nI m2) 15 = R
  unfold X8_read_J66
  rw [e7, Option.bind_some]
  exact hR
theorem c_rdO (hT : TB ks ka b L) (hx : 47 ≤ x.length ∧ x.length ≤ 3800) (h : CV x ks ka kl kr) (hv : TV x (kr 18)) {m1 m2 m : Nat} {ps kds bys : Nat → Nat} (hs : SUC b L m1 m2 m ps kds bys) : ∃ H' tu', X8_read_F x 13 = some (nI 1, H') ∧ ZP x ks ka kl kr kds bys H' (nI L) (nI 0) (nI m1) (nI m2) (nI m) (wR (ka 16) b 0 1 m1) (wR (ka 17) b 0 (2 + m1 + 1) m2) tu' m := by
  obtain ⟨h1, h2, hm, hm0, hs, he⟩ := hs
  have hp0 : 2 + m1 + 2 + m2 ≤ L := by have := h2.2.2.2.1; omega
  obtain ⟨H7, z7, hR7⟩ := z_w3 hT h hv kds bys h1 h2
  obtain ⟨r, k1, H', tu', rfl, k2⟩ := z_lpO hT hx hp0 hs ⟨hm, hm0⟩ he z7
  exact ⟨H', tu', hR7 _ k1, k2⟩
theorem c_rdF (hT : TB ks ka b L) (hx : 47 ≤ x.length ∧ x.length ≤ 3800) (h : CV x ks ka kl kr) (hv : TV x (kr 18)) {y w' : Nat} (hs : FLT b L y w') : ∃ kds bys H' a4 a5 a6 nm jb tu' m, m ≤ 4 ∧ X8_read_F x 13 = some (nI 0, H') ∧ ZP x ks ka kl kr kds bys H' (nI y) (nI w') a4 a5 a6 nm jb tu' m := by
  rcases hs with ⟨h1, rfl⟩ | ⟨m1, h1, h2, rfl⟩ | ⟨m1, m2, m, ps, kds, bys, h1, h2, hm, hs, hlt, ht⟩
  · obtain ⟨H3, z3, hR3⟩ := z_beg h hv (fun _ => 0) (fun _ => 0)
    obtain ⟨H4, nm', e4, z4⟩ := z_wF16 hT z3 (by omega) (by omega) h1
    obtain ⟨H5, e5, z5⟩ := z_n4 z4 (nI 0)
    obtain ⟨H6, e6, z6⟩ := z_66F z5 e10 (nI 0)
    refine ⟨_, _, H6, _, _, _, _, _, _, 0, by omega, hR3 _ ?_, z6⟩
    rw [e4, Option.bind_some]
    show ((kp_put H4 15 [2] 4 (.int (nI 0))).bind fun hp9 => (kp_gR hp9 13 [8] 2).bind fun v10 => (kp_gI hp9 13 [8] 3).bind fun v11 => (if v11 = 0 then (kp_gR hp9 13 [8] 2).bind fun v26 => (kp_gR hp9 v26 [2] 1).bind fun v27 => ((kp_ob hp9 13 8).bind fun _ => X8_readWheel_F hp9 13 (nI 106) v27).bind fun r28 => X8_read_J66 r28.2 13 r28.1 v10 else X8_read_J66 hp9 13 (nI 0) v10)) = _
    rw [e5, Option.bind_some, z_r2 z5, Option.bind_some, z_g3 z5, Option.bind_some, if_neg e10]
    exact e6
  · have := h1.2.1.1
    obtain ⟨H5, z5, hR5⟩ := z_w2 hT h hv (fun _ => 0) (fun _ => 0) h1
    obtain ⟨H6, jb', e6, z6⟩ := z_wF17 hT z5 (by omega) (by omega) h2
    obtain ⟨H7, e7, z7⟩ := z_66F z6 e10 (nI 0)
    refine ⟨_, _, H7, _, _, _, _, _, _, 0, by omega, hR5 _ ?_, z7⟩
    rw [e6, Option.bind_some]
    exact e7
  · have hp0 : 2 + m1 + 2 + m2 ≤ L := by have := h2.2.2.2.1; omega
    obtain ⟨H7, z7, hR7⟩ := z_w3 hT h hv kds bys h1 h2
    obtain ⟨r, k1, H', tu', rfl, k2⟩ := z_lpF hT hx hp0 hs hm hlt ht z7
    exact ⟨kds, bys, H', _, _, _, _, _, tu', m, hm, hR7 _ k1, k2⟩
end Zr
