/-! ===== kitchen: the class reads a text ===== -/
theorem CV_18 {hp hp' : kw_H} {ks ka : Nat → Nat → Int32} {kl : Nat → Nat → Int64} {kr : Nat → Nat → Option Nat} {tu tu' : Nat → Option Nat} (h : CV hp ks ka kl (fun q => if q = 18 then tu else kr q)) (h18 : hp'[18]? = some (.inl (3, 4, .inr (.inr (.inr (.inr tu')))))) (hf : ∀ q, q < 38 → q ≠ 18 → hp'[q]? = hp[q]?) : CV hp' ks ka kl (fun q => if q = 18 then tu' else kr q) := by
  intro q hq
  rcases (show q = 0 ∨ q = 1 ∨ q = 2 ∨ q = 3 ∨ q = 4 ∨ q = 5 ∨ q = 6 ∨ q = 7 ∨ q = 8 ∨ q = 9 ∨ q = 10 ∨ q = 11 ∨ q = 12 ∨ q = 13 ∨ q = 14 ∨ q = 15 ∨ q = 16 ∨ q = 17 ∨ q = 18 ∨ q = 19 ∨ q = 20 ∨ q = 21 ∨ q = 22 ∨ q = 23 ∨ q = 24 ∨ q = 25 ∨ q = 26 ∨ q = 27 ∨ q = 28 ∨ q = 29 ∨ q = 30 ∨ q = 31 ∨ q = 32 ∨ q = 33 ∨ q = 34 ∨ q = 35 ∨ q = 36 ∨ q = 37 by omega) with rfl | rfl | rfl | rfl | rfl | rfl | rfl | rfl | rfl | rfl | rfl | rfl | rfl | rfl | rfl | rfl | rfl | rfl | rfl | rfl | rfl | rfl | rfl | rfl | rfl | rfl | rfl | rfl | rfl | rfl | rfl | rfl | rfl | rfl | rfl | rfl | rfl | rfl
  · exact (hf 0 (by omega) (by omega)).trans (h 0 (by omega))
  · exact (hf 1 (by omega) (by omega)).trans (h 1 (by omega))
  · exact (hf 2 (by omega) (by omega)).trans (h 2 (by omega))
  · exact (hf 3 (by omega) (by omega)).trans (h 3 (by omega))
  · exact (hf 4 (by omega) (by omega)).trans (h 4 (by omega))
  · exact (hf 5 (by omega) (by omega)).trans (h 5 (by omega))
  · exact (hf 6 (by omega) (by omega)).trans (h 6 (by omega))
  · exact (hf 7 (by omega) (by omega)).trans (h 7 (by omega))
  · exact (hf 8 (by omega) (by omega)).trans (h 8 (by omega))
  · exact (hf 9 (by omega) (by omega)).trans (h 9 (by omega))
  · exact (hf 10 (by omega) (by omega)).trans (h 10 (by omega))
  · exact (hf 11 (by omega) (by omega)).trans (h 11 (by omega))
  · exact (hf 12 (by omega) (by omega)).trans (h 12 (by omega))
  · exact (hf 13 (by omega) (by omega)).trans (h 13 (by omega))
  · exact (hf 14 (by omega) (by omega)).trans (h 14 (by omega))
  · exact (hf 15 (by omega) (by omega)).trans (h 15 (by omega))
  · exact (hf 16 (by omega) (by omega)).trans (h 16 (by omega))
  · exact (hf 17 (by omega) (by omega)).trans (h 17 (by omega))
  · exact h18
  · exact (hf 19 (by omega) (by omega)).trans (h 19 (by omega))
  · exact (hf 20 (by omega) (by omega)).trans (h 20 (by omega))
  · exact (hf 21 (by omega) (by omega)).trans (h 21 (by omega))
  · exact (hf 22 (by omega) (by omega)).trans (h 22 (by omega))
  · exact (hf 23 (by omega) (by omega)).trans (h 23 (by omega))
  · exact (hf 24 (by omega) (by omega)).trans (h 24 (by omega))
  · exact (hf 25 (by omega) (by omega)).trans (h 25 (by omega))
  · exact (hf 26 (by omega) (by omega)).trans (h 26 (by omega))
  · exact (hf 27 (by omega) (by omega)).trans (h 27 (by omega))
  · exact (hf 28 (by omega) (by omega)).trans (h 28 (by omega))
  · exact (hf 29 (by omega) (by omega)).trans (h 29 (by omega))
  · exact (hf 30 (by omega) (by omega)).trans (h 30 (by omega))
  · exact (hf 31 (by omega) (by omega)).trans (h 31 (by omega))
  · exact (hf 32 (by omega) (by omega)).trans (h 32 (by omega))
  · exact (hf 33 (by omega) (by omega)).trans (h 33 (by omega))
  · exact (hf 34 (by omega) (by omega)).trans (h 34 (by omega))
  · exact (hf 35 (by omega) (by omega)).trans (h 35 (by omega))
  · exact (hf 36 (by omega) (by omega)).trans (h 36 (by omega))
  · exact (hf 37 (by omega) (by omega)).trans (h 37 (by omega))
def bv (b : Nat → Nat) (L k : Nat) : Int32 := if k < L then nI (b k) else (-1)
def tK (kds bys : Nat → Nat) (i : Nat) : Tw := nT (fun _ => 0) 0 0 i kds bys
def zs (ks : Nat → Nat → Int32) (p w a4 a5 a6 : Int32) : Nat → Nat → Int32 := fun q k => if q = 13 ∧ k = 4 then p else if q = 13 ∧ k = 3 then w else if q = 15 ∧ k = 4 then a4 else if q = 15 ∧ k = 5 then a5 else if q = 15 ∧ k = 6 then a6 else ks q k
def za (ka : Nat → Nat → Int32) (nm jb : Nat → Int32) : Nat → Nat → Int32 := fun q => if q = 16 then nm else if q = 17 then jb else ka q
def ZP (x : kw_H) (ks ka : Nat → Nat → Int32) (kl : Nat → Nat → Int64) (kr : Nat → Nat → Option Nat) (kds bys : Nat → Nat) (H : kw_H) (p w a4 a5 a6 : Int32) (nm jb : Nat → Int32) (tu : Nat → Option Nat) (i : Nat) : Prop :=
  CV H (zs ks p w a4 a5 a6) (za ka nm jb) kl (fun q => if q = 18 then tu else kr q) ∧ TV H tu ∧ TU H tu (tK kds bys i) ∧ (∀ q, ¬ (q = 13 ∨ (15 ≤ q ∧ q < 19)) → q < x.length → H[q]? = x[q]?) ∧ H.length = x.length + i
def TB (ks ka : Nat → Nat → Int32) (b : Nat → Nat) (L : Nat) : Prop := L ≤ 80 ∧ ks 13 1 = nI L ∧ ∀ k, k < L → ka 14 k = nI (b k) ∧ b k < 256
section Zp
variable {x H H' : kw_H} {ks ka : Nat → Nat → Int32} {kl : Nat → Nat → Int64} {kr : Nat → Nat → Option Nat} {kds bys b : Nat → Nat} {L : Nat} {p w a4 a5 a6 p' w' a4' a5' a6' : Int32} {nm jb nm' jb' : Nat → Int32} {tu : Nat → Option Nat} {i : Nat}
theorem ZP_st (h : ZP x ks ka kl kr kds bys H p w a4 a5 a6 nm jb tu i) {q : Nat} (hq : q = 13 ∨ q = 15 ∨ q = 16 ∨ q = 17) (hc : CV H' (zs ks p' w' a4' a5' a6') (za ka nm' jb') kl (fun q => if q = 18 then tu else kr q)) (hl : H'.length = H.length) (hf : ∀ r, r ≠ q → H'[r]? = H[r]?) : ZP x ks ka kl kr kds bys H' p' w' a4' a5' a6' nm' jb' tu i := by
  obtain ⟨h1, h2, h3, h4, h5⟩ := h
  have hN : ∀ r, r = q → NT H r := fun r hr => CV_NT h1 (by omega)
  exact ⟨hc, TV_fr (X := fun r => r = q) hf hN h2, TU_fr (X := fun r => r = q) hf hN h3, fun r hr hr2 => by rw [hf r (by omega)]; exact h4 r hr hr2, by omega⟩
theorem zs_13_4 (v : Int32) : up2 (zs ks p w a4 a5 a6) 13 4 v = zs ks v w a4 a5 a6 := by
  funext q k
  unfold up2 zs
  repeat' split
  all_goals first | rfl | omega
theorem zs_13_3 (v : Int32) : up2 (zs ks p w a4 a5 a6) 13 3 v = zs ks p v a4 a5 a6 := by
  funext q k
  unfold up2 zs
  repeat' split
  all_goals first | rfl | omega
theorem zs_15_4 (v : Int32) : up2 (zs ks p w a4 a5 a6) 15 4 v = zs ks p w v a5 a6 := by
  funext q k
  unfold up2 zs
  repeat' split
  all_goals first | rfl | omega
theorem zs_15_5 (v : Int32) : up2 (zs ks p w a4 a5 a6) 15 5 v = zs ks p w a4 v a6 := by
  funext q k
  unfold up2 zs
  repeat' split
  all_goals first | rfl | omega
theorem zs_15_6 (v : Int32) : up2 (zs ks p w a4 a5 a6) 15 6 v = zs ks p w a4 a5 v := by
  funext q k
  unfold up2 zs
  repeat' split
  all_goals first | rfl | omega
theorem za_16 (f : Nat → Int32) : va_up (za ka nm jb) 16 f = za ka f jb := by
  funext q
  unfold va_up za
  repeat' split
  all_goals first | rfl | omega
theorem za_17 (f : Nat → Int32) : va_up (za ka nm jb) 17 f = za ka nm f := by
  funext q
  unfold va_up za
  repeat' split
  all_goals first | rfl | omega
theorem z_p4 (h : ZP x ks ka kl kr kds bys H p w a4 a5 a6 nm jb tu i) (v : Int32) : ∃ H', kp_put H 13 [8] 4 (.int v) = some H' ∧ ZP x ks ka kl kr kds bys H' v w a4 a5 a6 nm jb tu i := by
  obtain ⟨H', e1, e2, e3, e4⟩ := c13_p4 h.1 v
  rw [zs_13_4] at e2
  exact ⟨H', e1, ZP_st h (by omega) e2 e3 e4⟩
theorem z_p3 (h : ZP x ks ka kl kr kds bys H p w a4 a5 a6 nm jb tu i) (v : Int32) : ∃ H', kp_put H 13 [8] 3 (.int v) = some H' ∧ ZP x ks ka kl kr kds bys H' p v a4 a5 a6 nm jb tu i := by
  obtain ⟨H', e1, e2, e3, e4⟩ := c13_p3 h.1 v
  rw [zs_13_3] at e2
  exact ⟨H', e1, ZP_st h (by omega) e2 e3 e4⟩
theorem z_n4 (h : ZP x ks ka kl kr kds bys H p w a4 a5 a6 nm jb tu i) (v : Int32) : ∃ H', kp_put H 15 [2] 4 (.int v) = some H' ∧ ZP x ks ka kl kr kds bys H' p w v a5 a6 nm jb tu i := by
  obtain ⟨H', e1, e2, e3, e4⟩ := c15_p4 h.1 v
  rw [zs_15_4] at e2
  exact ⟨H', e1, ZP_st h (by omega) e2 e3 e4⟩
theorem z_n5 (h : ZP x ks ka kl kr kds bys H p w a4 a5 a6 nm jb tu i) (v : Int32) : ∃ H', kp_put H 15 [2] 5 (.int v) = some H' ∧ ZP x ks ka kl kr kds bys H' p w a4 v a6 nm jb tu i := by
  obtain ⟨H', e1, e2, e3, e4⟩ := c15_p5 h.1 v
  rw [zs_15_5] at e2
  exact ⟨H', e1, ZP_st h (by omega) e2 e3 e4⟩
theorem z_n6 (h : ZP x ks ka kl kr kds bys H p w a4 a5 a6 nm jb tu i) (v : Int32) : ∃ H', kp_put H 15 [2] 6 (.int v) = some H' ∧ ZP x ks ka kl kr kds bys H' p w a4 a5 v nm jb tu i := by
  obtain ⟨H', e1, e2, e3, e4⟩ := c15_p6 h.1 v
  rw [zs_15_6] at e2
  exact ⟨H', e1, ZP_st h (by omega) e2 e3 e4⟩
theorem z_s16 (h : ZP x ks ka kl kr kds bys H p w a4 a5 a6 nm jb tu i) {j : Nat} (hj : j < 8) (v : Int32) : ∃ H', kp_stI H 16 (nI j) v = some H' ∧ ZP x ks ka kl kr kds bys H' p w a4 a5 a6 (upd nm j v) jb tu i := by
  obtain ⟨H', e1, e2, e3, e4⟩ := c16_st h.1 hj v
  rw [za_16] at e2
  exact ⟨H', e1, ZP_st h (by omega) e2 e3 e4⟩
theorem z_l16 (h : ZP x ks ka kl kr kds bys H p w a4 a5 a6 nm jb tu i) : kp_len H 16 = some (nI 8) := by
  unfold kp_len
  rw [cv16 h.1]
  rfl
theorem z_s17 (h : ZP x ks ka kl kr kds bys H p w a4 a5 a6 nm jb tu i) {j : Nat} (hj : j < 8) (v : Int32) : ∃ H', kp_stI H 17 (nI j) v = some H' ∧ ZP x ks ka kl kr kds bys H' p w a4 a5 a6 nm (upd jb j v) tu i := by
  obtain ⟨H', e1, e2, e3, e4⟩ := c17_st h.1 hj v
  rw [za_17] at e2
  exact ⟨H', e1, ZP_st h (by omega) e2 e3 e4⟩
theorem z_l17 (h : ZP x ks ka kl kr kds bys H p w a4 a5 a6 nm jb tu i) : kp_len H 17 = some (nI 8) := by
  unfold kp_len
  rw [cv17 h.1]
  rfl
theorem z_g4 (h : ZP x ks ka kl kr kds bys H p w a4 a5 a6 nm jb tu i) : kp_gI H 13 [8] 4 = some p := c13_g4 h.1
theorem z_g3 (h : ZP x ks ka kl kr kds bys H p w a4 a5 a6 nm jb tu i) : kp_gI H 13 [8] 3 = some w := c13_g3 h.1
theorem z_g1 (h : ZP x ks ka kl kr kds bys H p w a4 a5 a6 nm jb tu i) : kp_gI H 13 [8] 1 = some (ks 13 1) := (show kp_gI H 13 [8] 1 = some (zs ks p w a4 a5 a6 13 1) from c13_g1 h.1)
theorem z_ob (h : ZP x ks ka kl kr kds bys H p w a4 a5 a6 nm jb tu i) : kp_ob H 13 8 = some () := c13_ob h.1
theorem z_r2 (h : ZP x ks ka kl kr kds bys H p w a4 a5 a6 nm jb tu i) : kp_gR H 13 [8] 2 = some 15 := c13_r2 h.1
theorem z_by (h : ZP x ks ka kl kr kds bys H p w a4 a5 a6 nm jb tu i) (hT : TB ks ka b L) {k : Nat} (hk : k ≤ 200) : X8_byteAt_F H 13 (nI k) = some (bv b L k) := by
  obtain ⟨t1, t2, t3⟩ := hT
  unfold X8_byteAt_F bv
  rw [if_neg (fun z => (q_lt0 (by omega)).mp z), z_g1 h, Option.bind_some, t2]
  by_cases e : k < L
  · rw [if_neg (fun z => by have := (q_le (show L < 2147483648 by omega) (show k < 2147483648 by omega)).mp z; omega), if_neg (fun z => by have := (q_le (show 80 < 2147483648 by omega) (show k < 2147483648 by omega)).mp z; omega), c13_r0 h.1, Option.bind_some, c14_ld h.1 (by omega), Option.bind_some, if_pos e]
    exact congrArg some (t3 k e).1
  · rw [if_pos ((q_le (by omega) (by omega)).mpr (by omega)), if_neg e]
theorem bv_is (hT : TB ks ka b L) {k c : Nat} (hc : c < 256) : bv b L k = nI c ↔ kIs b L k c := by
  obtain ⟨t1, t2, t3⟩ := hT
  unfold bv kIs
  by_cases e : k < L
  · have := (t3 k e).2
    rw [if_pos e, q_eq (by omega) (by omega)]
    exact ⟨fun z => ⟨e, z⟩, fun z => z.2⟩
  · rw [if_neg e]
    exact ⟨fun z => ((q_neg (show ((-1 : Int32)).toInt < 0 by decide) (show c < 2147483648 by omega)).mp z.symm).elim, fun z => absurd z.1 e⟩
theorem bv_nm (hT : TB ks ka b L) (k : Nat) : X8_nameOf_F H (bv b L k) = some (if nmO b L k = true then nI (nmV (b k)) else (-1000000)) := by
  obtain ⟨t1, t2, t3⟩ := hT
  unfold X8_nameOf_F bv nmO
  by_cases e : k < L
  · have hb := (t3 k e).2
    rw [if_pos e]
    by_cases e1 : b k = 122
    · rw [if_pos ((q_eq (by omega) (by omega)).mpr e1), decide_eq_true (show k < L ∧ (b k = 122 ∨ (97 ≤ b k ∧ b k ≤ 102)) from ⟨e, Or.inl e1⟩), if_pos rfl]
      unfold nmV
      rw [if_pos e1]
    · rw [if_neg (fun z => e1 ((q_eq (by omega) (by omega)).mp z)), q_wi hb (by omega) (by omega), Option.bind_some]
      by_cases e2 : 97 ≤ b k ∧ b k ≤ 102
      · rw [decide_eq_true e2, if_neg (show ¬ nI (b2 true) = 0 from e10), decide_eq_true (show k < L ∧ (b k = 122 ∨ (97 ≤ b k ∧ b k ≤ 102)) from ⟨e, Or.inr e2⟩), if_pos rfl]
        unfold nmV
        rw [if_neg e1]
        have := q_sub 97 (b k - 97)
        rw [show 97 + (b k - 97) = b k by omega] at this
        rw [this]
      · rw [decide_eq_false e2, if_pos (show nI (b2 false) = 0 from e00), decide_eq_false (show ¬ (k < L ∧ (b k = 122 ∨ (97 ≤ b k ∧ b k ≤ 102))) from fun z => z.2.elim e1 e2), if_neg (by decide)]
  · rw [if_neg e, decide_eq_false (show ¬ (k < L ∧ (b k = 122 ∨ (97 ≤ b k ∧ b k ≤ 102))) from fun z => e z.1), if_neg (show ¬ (-1 : Int32) = nI 122 by decide), if_neg (show ¬ (false = true) by decide), c_within, Option.bind_some, show (if nI 97 ≤ (-1 : Int32) ∧ (-1 : Int32) ≤ nI 102 then nI 1 else nI 0) = nI 0 by decide, if_pos e00]
theorem bv_kd (hT : TB ks ka b L) (k : Nat) : X8_kindOf_F H (bv b L k) = some (nI (kdA b L k)) := by
  obtain ⟨t1, t2, t3⟩ := hT
  unfold X8_kindOf_F bv kdA
  by_cases e : k < L
  · have hb := (t3 k e).2
    rw [if_pos e, if_pos e]
    unfold kdO
    simp (disch := omega) only [q_eq]
    repeat' split
    all_goals first | rfl | omega
  · rw [if_neg e, if_neg e]
    rfl
theorem bv_fig (hT : TB ks ka b L) (k : Nat) : X11_within_F H (bv b L k) (nI 48) (nI 57) = some (nI (b2 (fig b L k))) := by
  obtain ⟨t1, t2, t3⟩ := hT
  unfold bv fig
  by_cases e : k < L
  · have hb := (t3 k e).2
    rw [if_pos e, q_wi hb (by omega) (by omega)]
    by_cases e2 : 48 ≤ b k ∧ b k ≤ 57
    · rw [decide_eq_true e2, decide_eq_true (show k < L ∧ 48 ≤ b k ∧ b k ≤ 57 from ⟨e, e2⟩)]
    · rw [decide_eq_false e2, decide_eq_false (show ¬ (k < L ∧ 48 ≤ b k ∧ b k ≤ 57) from fun z => e2 z.2)]
  · rw [if_neg e, decide_eq_false (show ¬ (k < L ∧ 48 ≤ b k ∧ b k ≤ 57) from fun z => e z.1), c_within, if_neg (by decide)]
    rfl
theorem z_pass (hT : TB ks ka b L) {q c : Nat} (h : ZP x ks ka kl kr kds bys H (nI q) w a4 a5 a6 nm jb tu i) (hq : q ≤ 200) (hc : c < 256) : (kIs b L q c → ∃ H', X8_passes_F H 13 (nI c) = some (nI 1, H') ∧ ZP x ks ka kl kr kds bys H' (nI (q + 1)) w a4 a5 a6 nm jb tu i) ∧ (¬ kIs b L q c → ∃ H', X8_passes_F H 13 (nI c) = some (nI 0, H') ∧ ZP x ks ka kl kr kds bys H' (nI q) (nI 1) a4 a5 a6 nm jb tu i) := by
  unfold X8_passes_F
  rw [z_g4 h, Option.bind_some, z_ob h, Option.bind_some, z_by h hT hq, Option.bind_some]
  refine ⟨fun z => ?_, fun z => ?_⟩
  · obtain ⟨H', e1, e2⟩ := z_p4 h (nI (q + 1))
    rw [if_pos ((bv_is hT hc).mpr z), Option.bind_some, nI_add, e1]
    exact ⟨H', rfl, e2⟩
  · obtain ⟨H', e1, e2⟩ := z_p3 h (nI 1)
    rw [if_neg (fun y => z ((bv_is hT hc).mp y)), e1]
    exact ⟨H', rfl, e2⟩
theorem z_loop16 (hT : TB ks ka b L) {k m : Nat} (h : ZP x ks ka kl kr kds bys H (nI k) w a4 a5 a6 nm jb tu i) (hk : k ≤ 150) (hn : kNs b L k m) {Q : Int32 × kw_H → Prop} (hQ : ∀ H', ZP x ks ka kl kr kds bys H' (nI (k + m)) w a4 a5 a6 (wR nm b 0 k m) jb tu i → ∃ r, X8_readWheel_J68 H' 13 (nI m) = some r ∧ Q r) : ∃ r, kp_lp (X8_readWheel_B10 13 16) 2000 (nI 0, H) = some r ∧ Q r := by
  obtain ⟨n1, n2, n3⟩ := hn
  have e0 : wR nm b 0 k 0 = nm := by
    funext q
    unfold wR
    rw [if_neg (by omega)]
  refine lp_ex (fun j s => ∃ H', s = (nI j, H') ∧ ZP x ks ka kl kr kds bys H' (nI (k + j)) w a4 a5 a6 (wR nm b 0 k j) jb tu i) Q m (fun j s hj hs => ?_) (fun s hs => ?_) 2000 (by omega) _ ⟨H, rfl, by rw [e0]; exact h⟩
  · obtain ⟨H1, rfl, z⟩ := hs
    have hnm := n2 j hj
    obtain ⟨g1, g2⟩ := nmO_b hnm
    have hb := (hT.2.2 _ g1).2
    have hv : nmV (b (k + j)) < 256 := by unfold nmV; split <;> omega
    obtain ⟨H2, s1, s2⟩ := z_s16 z (show j < 8 by omega) (nI (nmV (b (k + j))))
    obtain ⟨H3, s3, s4⟩ := z_p4 s2 (nI (k + j + 1))
    have eu := wR_s nm b 0 k j
    rw [Nat.zero_add] at eu
    rw [eu] at s4
    refine Or.inl ⟨(nI (j + 1), H3), ?_, H3, rfl, s4⟩
    show X8_readWheel_b10 13 16 (nI j) H1 = _
    unfold X8_readWheel_b10
    rw [if_neg (fun z => by have := (q_le (show 8 < 2147483648 by decide) (show j < 2147483648 by omega)).mp z; omega), z_l16 z, Option.bind_some, if_neg (fun z => by have := (q_le (show 8 < 2147483648 by decide) (show j < 2147483648 by omega)).mp z; omega), z_g4 z, Option.bind_some, z_ob z, Option.bind_some, z_by z hT (by omega), Option.bind_some, bv_nm hT, Option.bind_some, hnm, if_pos rfl, if_neg (fun z => (q_none (by omega)).mp z), Option.bind_some, Option.bind_some, z_by z hT (by omega), Option.bind_some, bv_nm hT, Option.bind_some, hnm, if_pos rfl, s1, Option.bind_some, z_g4 s2, Option.bind_some, nI_add, s3, Option.bind_some, nI_add]
  · obtain ⟨H1, rfl, z⟩ := hs
    obtain ⟨r, r1, r2⟩ := hQ H1 z
    refine ⟨r, ?_, r2⟩
    show X8_readWheel_b10 13 16 (nI m) H1 = _
    unfold X8_readWheel_b10
    by_cases e8 : m = 8
    · rw [if_pos ((q_le (by omega) (by omega)).mpr (by omega)), r1]
      rfl
    · rw [if_neg (fun z => by have := (q_le (show 8 < 2147483648 by decide) (show m < 2147483648 by omega)).mp z; omega), z_l16 z, Option.bind_some, if_neg (fun z => by have := (q_le (show 8 < 2147483648 by decide) (show m < 2147483648 by omega)).mp z; omega), z_g4 z, Option.bind_some, z_ob z, Option.bind_some, z_by z hT (by omega), Option.bind_some, bv_nm hT, Option.bind_some, n3.resolve_left e8, if_neg (show ¬ (false = true) by decide), if_pos rfl, r1]
      rfl
theorem z_wF16 (hT : TB ks ka b L) {q c y : Nat} (h : ZP x ks ka kl kr kds bys H (nI q) (nI 0) a4 a5 a6 nm jb tu i) (hq : q ≤ 100) (hc : c < 256) (hw : WF b L q c y) : ∃ H' nm', X8_readWheel_F H 13 (nI c) 16 = some (nI 0, H') ∧ ZP x ks ka kl kr kds bys H' (nI y) (nI 1) a4 a5 a6 nm' jb tu i := by
  obtain ⟨l1, l2⟩ := z_pass hT h (show q ≤ 200 by omega) hc
  have j87 : ∀ (H1 : kw_H) (y : Nat) (nm1 jb1 : Nat → Int32) (v : Int32), ZP x ks ka kl kr kds bys H1 (nI y) (nI 1) a4 a5 a6 nm1 jb1 tu i → X8_readWheel_J87 H1 13 v = some (nI 0, H1) := fun H1 y nm1 jb1 v z => by
    unfold X8_readWheel_J87
    rw [z_g3 z, Option.bind_some, if_neg e10]
  unfold X8_readWheel_F
  rw [z_ob h, Option.bind_some]
  rcases hw with ⟨rfl, hn⟩ | ⟨hi, n, hns, hy⟩
  · obtain ⟨H1, e1, e2⟩ := l2 hn
    refine ⟨H1, nm, ?_, e2⟩
    rw [e1, Option.bind_some]
    show (if nI 0 = 0 then X8_readWheel_J87 H1 13 (nI 0) else _) = _
    rw [if_pos e00]
    exact j87 _ _ _ _ _ e2
  · obtain ⟨H1, e1, e2⟩ := l1 hi
    have := hns.1
    have key : ∃ r, kp_lp (X8_readWheel_B10 13 16) 2000 (nI 0, H1) = some r ∧ ∃ H' nm', r = (nI 0, H') ∧ ZP x ks ka kl kr kds bys H' (nI y) (nI 1) a4 a5 a6 nm' jb tu i := by
      refine z_loop16 hT e2 (by omega) hns (fun H2 z => ?_)
      unfold X8_readWheel_J68
      rcases hy with ⟨rfl, rfl⟩ | ⟨h0, h59, rfl⟩
      · obtain ⟨H3, s1, s2⟩ := z_p3 z (nI 1)
        refine ⟨(nI 0, H3), ?_, H3, _, rfl, s2⟩
        rw [if_pos e00, s1, Option.bind_some]
        exact j87 _ _ _ _ _ s2
      · obtain ⟨H3, s1, s2⟩ := (z_pass hT z (show q + 1 + n ≤ 200 by omega) (show 59 < 256 by omega)).2 h59
        refine ⟨(nI 0, H3), ?_, H3, _, rfl, s2⟩
        rw [if_neg (fun z => by have := (q_eq (show n < 2147483648 by omega) (show 0 < 2147483648 by omega)).mp z; omega), z_ob z, Option.bind_some, s1, Option.bind_some]
        exact j87 _ _ _ _ _ s2
    obtain ⟨r, k1, H', nm', rfl, k2⟩ := key
    refine ⟨H', nm', ?_, k2⟩
    rw [e1, Option.bind_some]
    show (if nI 1 = 0 then _ else kp_lp (X8_readWheel_B10 13 16) 2000 (nI 0, H1)) = _
    rw [if_neg e10]
    exact k1
theorem z_wO16 (hT : TB ks ka b L) {q c n : Nat} (h : ZP x ks ka kl kr kds bys H (nI q) (nI 0) a4 a5 a6 nm jb tu i) (hq : q ≤ 100) (hc : c < 256) (hw : WO b L q c n) : ∃ H', X8_readWheel_F H 13 (nI c) 16 = some (nI n, H') ∧ ZP x ks ka kl kr kds bys H' (nI (q + 2 + n)) (nI 0) a4 a5 a6 (wR nm b 0 (q + 1) n) jb tu i := by
  obtain ⟨hi, hns, h0, h59⟩ := hw
  have := hns.1
  obtain ⟨H1, e1, e2⟩ := (z_pass hT h (show q ≤ 200 by omega) hc).1 hi
  have key : ∃ r, kp_lp (X8_readWheel_B10 13 16) 2000 (nI 0, H1) = some r ∧ ∃ H', r = (nI n, H') ∧ ZP x ks ka kl kr kds bys H' (nI (q + 2 + n)) (nI 0) a4 a5 a6 (wR nm b 0 (q + 1) n) jb tu i := by
    refine z_loop16 hT e2 (by omega) hns (fun H2 z => ?_)
    unfold X8_readWheel_J68
    obtain ⟨H3, s1, s2⟩ := (z_pass hT z (show q + 1 + n ≤ 200 by omega) (show 59 < 256 by omega)).1 h59
    refine ⟨(nI n, H3), ?_, H3, rfl, by rw [show q + 2 + n = q + 1 + n + 1 by omega]; exact s2⟩
    rw [if_neg (fun z => by have := (q_eq (show n < 2147483648 by omega) (show 0 < 2147483648 by omega)).mp z; omega), z_ob z, Option.bind_some, s1, Option.bind_some]
    unfold X8_readWheel_J87
    rw [z_g3 s2, Option.bind_some, if_pos e00]
  obtain ⟨r, k1, H', rfl, k2⟩ := key
  refine ⟨H', ?_, k2⟩
  unfold X8_readWheel_F
  rw [z_ob h, Option.bind_some, e1, Option.bind_some]
  show (if nI 1 = 0 then _ else kp_lp (X8_readWheel_B10 13 16) 2000 (nI 0, H1)) = _
  rw [if_neg e10]
  exact k1
theorem z_loop17 (hT : TB ks ka b L) {k m : Nat} (h : ZP x ks ka kl kr kds bys H (nI k) w a4 a5 a6 nm jb tu i) (hk : k ≤ 150) (hn : kNs b L k m) {Q : Int32 × kw_H → Prop} (hQ : ∀ H', ZP x ks ka kl kr kds bys H' (nI (k + m)) w a4 a5 a6 nm (wR jb b 0 k m) tu i → ∃ r, X8_readWheel_J68 H' 13 (nI m) = some r ∧ Q r) : ∃ r, kp_lp (X8_readWheel_B10 13 17) 2000 (nI 0, H) = some r ∧ Q r := by
  obtain ⟨n1, n2, n3⟩ := hn
  have e0 : wR jb b 0 k 0 = jb := by
    funext q
    unfold wR
    rw [if_neg (by omega)]
  refine lp_ex (fun j s => ∃ H', s = (nI j, H') ∧ ZP x ks ka kl kr kds bys H' (nI (k + j)) w a4 a5 a6 nm (wR jb b 0 k j) tu i) Q m (fun j s hj hs => ?_) (fun s hs => ?_) 2000 (by omega) _ ⟨H, rfl, by rw [e0]; exact h⟩
  · obtain ⟨H1, rfl, z⟩ := hs
    have hnm := n2 j hj
    obtain ⟨g1, g2⟩ := nmO_b hnm
    have hb := (hT.2.2 _ g1).2
    have hv : nmV (b (k + j)) < 256 := by unfold nmV; split <;> omega
    obtain ⟨H2, s1, s2⟩ := z_s17 z (show j < 8 by omega) (nI (nmV (b (k + j))))
    obtain ⟨H3, s3, s4⟩ := z_p4 s2 (nI (k + j + 1))
    have eu := wR_s jb b 0 k j
    rw [Nat.zero_add] at eu
    rw [eu] at s4
    refine Or.inl ⟨(nI (j + 1), H3), ?_, H3, rfl, s4⟩
    show X8_readWheel_b10 13 17 (nI j) H1 = _
    unfold X8_readWheel_b10
    rw [if_neg (fun z => by have := (q_le (show 8 < 2147483648 by decide) (show j < 2147483648 by omega)).mp z; omega), z_l17 z, Option.bind_some, if_neg (fun z => by have := (q_le (show 8 < 2147483648 by decide) (show j < 2147483648 by omega)).mp z; omega), z_g4 z, Option.bind_some, z_ob z, Option.bind_some, z_by z hT (by omega), Option.bind_some, bv_nm hT, Option.bind_some, hnm, if_pos rfl, if_neg (fun z => (q_none (by omega)).mp z), Option.bind_some, Option.bind_some, z_by z hT (by omega), Option.bind_some, bv_nm hT, Option.bind_some, hnm, if_pos rfl, s1, Option.bind_some, z_g4 s2, Option.bind_some, nI_add, s3, Option.bind_some, nI_add]
  · obtain ⟨H1, rfl, z⟩ := hs
    obtain ⟨r, r1, r2⟩ := hQ H1 z
    refine ⟨r, ?_, r2⟩
    show X8_readWheel_b10 13 17 (nI m) H1 = _
    unfold X8_readWheel_b10
    by_cases e8 : m = 8
    · rw [if_pos ((q_le (by omega) (by omega)).mpr (by omega)), r1]
      rfl
    · rw [if_neg (fun z => by have := (q_le (show 8 < 2147483648 by decide) (show m < 2147483648 by omega)).mp z; omega), z_l17 z, Option.bind_some, if_neg (fun z => by have := (q_le (show 8 < 2147483648 by decide) (show m < 2147483648 by omega)).mp z; omega), z_g4 z, Option.bind_some, z_ob z, Option.bind_some, z_by z hT (by omega), Option.bind_some, bv_nm hT, Option.bind_some, n3.resolve_left e8, if_neg (show ¬ (false = true) by decide), if_pos rfl, r1]
      rfl
theorem z_wF17 (hT : TB ks ka b L) {q c y : Nat} (h : ZP x ks ka kl kr kds bys H (nI q) (nI 0) a4 a5 a6 nm jb tu i) (hq : q ≤ 100) (hc : c < 256) (hw : WF b L q c y) : ∃ H' jb', X8_readWheel_F H 13 (nI c) 17 = some (nI 0, H') ∧ ZP x ks ka kl kr kds bys H' (nI y) (nI 1) a4 a5 a6 nm jb' tu i := by
  obtain ⟨l1, l2⟩ := z_pass hT h (show q ≤ 200 by omega) hc
  have j87 : ∀ (H1 : kw_H) (y : Nat) (nm1 jb1 : Nat → Int32) (v : Int32), ZP x ks ka kl kr kds bys H1 (nI y) (nI 1) a4 a5 a6 nm1 jb1 tu i → X8_readWheel_J87 H1 13 v = some (nI 0, H1) := fun H1 y nm1 jb1 v z => by
    unfold X8_readWheel_J87
    rw [z_g3 z, Option.bind_some, if_neg e10]
  unfold X8_readWheel_F
  rw [z_ob h, Option.bind_some]
  rcases hw with ⟨rfl, hn⟩ | ⟨hi, n, hns, hy⟩
  · obtain ⟨H1, e1, e2⟩ := l2 hn
    refine ⟨H1, jb, ?_, e2⟩
    rw [e1, Option.bind_some]
    show (if nI 0 = 0 then X8_readWheel_J87 H1 13 (nI 0) else _) = _
    rw [if_pos e00]
    exact j87 _ _ _ _ _ e2
  · obtain ⟨H1, e1, e2⟩ := l1 hi
    have := hns.1
    have key : ∃ r, kp_lp (X8_readWheel_B10 13 17) 2000 (nI 0, H1) = some r ∧ ∃ H' jb', r = (nI 0, H') ∧ ZP x ks ka kl kr kds bys H' (nI y) (nI 1) a4 a5 a6 nm jb' tu i := by
      refine z_loop17 hT e2 (by omega) hns (fun H2 z => ?_)
      unfold X8_readWheel_J68
      rcases hy with ⟨rfl, rfl⟩ | ⟨h0, h59, rfl⟩
      · obtain ⟨H3, s1, s2⟩ := z_p3 z (nI 1)
        refine ⟨(nI 0, H3), ?_, H3, _, rfl, s2⟩
        rw [if_pos e00, s1, Option.bind_some]
        exact j87 _ _ _ _ _ s2
      · obtain ⟨H3, s1, s2⟩ := (z_pass hT z (show q + 1 + n ≤ 200 by omega) (show 59 < 256 by omega)).2 h59
        refine ⟨(nI 0, H3), ?_, H3, _, rfl, s2⟩
        rw [if_neg (fun z => by have := (q_eq (show n < 2147483648 by omega) (show 0 < 2147483648 by omega)).mp z; omega), z_ob z, Option.bind_some, s1, Option.bind_some]
        exact j87 _ _ _ _ _ s2
    obtain ⟨r, k1, H', jb', rfl, k2⟩ := key
    refine ⟨H', jb', ?_, k2⟩
    rw [e1, Option.bind_some]
    show (if nI 1 = 0 then _ else kp_lp (X8_readWheel_B10 13 17) 2000 (nI 0, H1)) = _
    rw [if_neg e10]
    exact k1
theorem z_wO17 (hT : TB ks ka b L) {q c n : Nat} (h : ZP x ks ka kl kr kds bys H (nI q) (nI 0) a4 a5 a6 nm jb tu i) (hq : q ≤ 100) (hc : c < 256) (hw : WO b L q c n) : ∃ H', X8_readWheel_F H 13 (nI c) 17 = some (nI n, H') ∧ ZP x ks ka kl kr kds bys H' (nI (q + 2 + n)) (nI 0) a4 a5 a6 nm (wR jb b 0 (q + 1) n) tu i := by
  obtain ⟨hi, hns, h0, h59⟩ := hw
  have := hns.1
  obtain ⟨H1, e1, e2⟩ := (z_pass hT h (show q ≤ 200 by omega) hc).1 hi
  have key : ∃ r, kp_lp (X8_readWheel_B10 13 17) 2000 (nI 0, H1) = some r ∧ ∃ H', r = (nI n, H') ∧ ZP x ks ka kl kr kds bys H' (nI (q + 2 + n)) (nI 0) a4 a5 a6 nm (wR jb b 0 (q + 1) n) tu i := by
    refine z_loop17 hT e2 (by omega) hns (fun H2 z => ?_)
    unfold X8_readWheel_J68
    obtain ⟨H3, s1, s2⟩ := (z_pass hT z (show q + 1 + n ≤ 200 by omega) (show 59 < 256 by omega)).1 h59
    refine ⟨(nI n, H3), ?_, H3, rfl, by rw [show q + 2 + n = q + 1 + n + 1 by omega]; exact s2⟩
    rw [if_neg (fun z => by have := (q_eq (show n < 2147483648 by omega) (show 0 < 2147483648 by omega)).mp z; omega), z_ob z, Option.bind_some, s1, Option.bind_some]
    unfold X8_readWheel_J87
    rw [z_g3 s2, Option.bind_some, if_pos e00]
  obtain ⟨r, k1, H', rfl, k2⟩ := key
  refine ⟨H', ?_, k2⟩
  unfold X8_readWheel_F
  rw [z_ob h, Option.bind_some, e1, Option.bind_some]
  show (if nI 1 = 0 then _ else kp_lp (X8_readWheel_B10 13 17) 2000 (nI 0, H1)) = _
  rw [if_neg e10]
  exact k1
end Zp
