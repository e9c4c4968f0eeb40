/-! ===== kitchen: the reference reads the whole text ===== -/
def FLT (b : Nat → Nat) (L x w : Nat) : Prop := (WF b L 0 110 x ∧ w = 1) ∨ (∃ m1, WO b L 0 110 m1 ∧ WF b L (2 + m1) 106 x ∧ w = 1) ∨ (∃ m1 m2 m ps kds bys, WO b L 0 110 m1 ∧ WO b L (2 + m1) 106 m2 ∧ m ≤ 4 ∧ TSq b L (2 + m1 + 2 + m2) m ps kds bys ∧ (m = 0 ∨ ps m < L) ∧ TF b L m (ps m) x w)
def SUC (b : Nat → Nat) (L m1 m2 m : Nat) (ps kds bys : Nat → Nat) : Prop := WO b L 0 110 m1 ∧ WO b L (2 + m1) 106 m2 ∧ m ≤ 4 ∧ 0 < m ∧ TSq b L (2 + m1 + 2 + m2) m ps kds bys ∧ ps m = L
theorem text_sp (b : Nat → Nat) (L : Nat) : (∃ x w, FLT b L x w) ∨ ∃ m1 m2 m ps kds bys, SUC b L m1 m2 m ps kds bys := by
  rcases wheel_sp b L 0 110 with ⟨x, h⟩ | ⟨m1, h1⟩
  · exact Or.inl ⟨x, 1, Or.inl ⟨h, rfl⟩⟩
  · rcases wheel_sp b L (2 + m1) 106 with ⟨x, h⟩ | ⟨m2, h2⟩
    · exact Or.inl ⟨x, 1, Or.inr (Or.inl ⟨m1, h1, h, rfl⟩)⟩
    · obtain ⟨m, hm, ps, kds, bys, hs, he⟩ := turners_sp b L (2 + m1 + 2 + m2)
      rcases he with ⟨e1, e2⟩ | ⟨x, w, e1, e2⟩
      · exact Or.inr ⟨m1, m2, m, ps, kds, bys, h1, h2, hm, e1, hs, e2⟩
      · exact Or.inl ⟨x, w, Or.inr (Or.inr ⟨m1, m2, m, ps, kds, bys, h1, h2, hm, hs, e1, e2⟩)⟩
theorem TSq_le {b : Nat → Nat} {L p0 m : Nat} {ps kds bys : Nat → Nat} (h : TSq b L p0 m ps kds bys) (h0 : p0 ≤ L) : ∀ i, i ≤ m → ps i ≤ L
  | 0, _ => by rw [h.1]; exact h0
  | i + 1, hi => by
    obtain ⟨-, -, -, -, s, -, -, h6, h7⟩ := h.2 i (by omega)
    have := h6.1
    omega
/-- the town that a text tells -/
def nT (b : Nat → Nat) (m1 m2 m : Nat) (kds bys : Nat → Nat) : Tw := fun q => if q = 0 then m1 else if q = 1 then m2 else if q = 2 then m else if 6 ≤ q ∧ q < 6 + m1 then nmV (b (1 + (q - 6))) else if 14 ≤ q ∧ q < 14 + m2 then nmV (b (3 + m1 + (q - 14))) else if 22 ≤ q ∧ q < 22 + m then kds (q - 22) else if 26 ≤ q ∧ q < 26 + m then bys (q - 26) else 0
theorem nT_s {b : Nat → Nat} {m1 m2 i : Nat} {kds bys : Nat → Nat} (h1 : m1 ≤ 8) (h2 : m2 ≤ 8) (hi : i < 4) (q : Nat) : nT b m1 m2 (i + 1) kds bys q = if q = 2 then i + 1 else if q = 22 + i then kds i else if q = 26 + i then bys i else nT b m1 m2 i kds bys q := by
  unfold nT
  by_cases e2 : q = 2
  · rw [if_pos e2, if_neg (by omega), if_neg (by omega), if_pos e2]
  · rw [if_neg e2, if_neg e2]
    by_cases e22 : q = 22 + i
    · rw [if_pos e22, if_neg (by omega), if_neg (by omega), if_neg (by omega), if_neg (by omega), if_pos (by omega), e22, show 22 + i - 22 = i by omega]
    · rw [if_neg e22]
      by_cases e26 : q = 26 + i
      · rw [if_pos e26, if_neg (by omega), if_neg (by omega), if_neg (by omega), if_neg (by omega), if_neg (by omega), if_pos (by omega), e26, show 26 + i - 26 = i by omega]
      · rw [if_neg e26]
        have a1 : (22 ≤ q ∧ q < 22 + (i + 1)) ↔ (22 ≤ q ∧ q < 22 + i) := by omega
        have a2 : (26 ≤ q ∧ q < 26 + (i + 1)) ↔ (26 ≤ q ∧ q < 26 + i) := by omega
        simp only [a1, a2, e2, if_false]
def zF (f : Nat → Int32) (i : Nat) : Nat → Int32 := fun q => if 1782 ≤ q ∧ q < 1782 + i then nI 0 else f q
def fW (f : Nat → Int32) (b : Nat → Nat) (m1 m2 : Nat) : Nat → Int32 := upd (wR (upd (wR (zF f 66) b 1788 1 m1) 1782 (nI m1)) b 1796 (2 + m1 + 1) m2) 1783 (nI m2)
def fT (g : Nat → Int32) (kds bys : Nat → Nat) : Nat → Nat → Int32
  | 0 => g
  | i + 1 => upd (upd (upd (fT g kds bys i) (1804 + i) (nI (kds i))) (1808 + i) (nI (bys i))) 1784 (nI (i + 1))
theorem fW_town {f : Nat → Int32} {b : Nat → Nat} {m1 m2 : Nat} {kds bys : Nat → Nat} (h1 : m1 ≤ 8) (h2 : m2 ≤ 8) (q : Nat) (hq : q < 66) : fW f b m1 m2 (1782 + q) = nI (nT b m1 m2 0 kds bys q) := by
  unfold fW nT
  by_cases e1 : q = 1
  · rw [show 1782 + q = 1783 by omega, pk_us, if_neg (by omega), if_pos e1]
  · rw [pk_un (by omega)]
    unfold wR
    by_cases ej : 14 ≤ q ∧ q < 14 + m2
    · rw [if_pos (by omega), if_neg (by omega), if_neg (by omega), if_neg (by omega), if_neg (by omega), if_pos ej, show 2 + m1 + 1 + (1782 + q - 1796) = 3 + m1 + (q - 14) by omega]
    · rw [if_neg (by omega)]
      by_cases e0 : q = 0
      · rw [show 1782 + q = 1782 by omega, pk_us, if_pos e0]
      · rw [pk_un (by omega), if_neg e0, if_neg e1]
        by_cases en : 6 ≤ q ∧ q < 6 + m1
        · rw [if_pos (by omega), if_neg (by omega), if_pos en, show 1 + (1782 + q - 1788) = 1 + (q - 6) by omega]
        · unfold zF
          rw [if_neg (by omega), if_pos (by omega)]
          by_cases e2 : q = 2
          · rw [if_pos e2]
          · rw [if_neg e2, if_neg en, if_neg ej, if_neg (by omega), if_neg (by omega)]
theorem fT_town {f : Nat → Int32} {b : Nat → Nat} {m1 m2 : Nat} {kds bys : Nat → Nat} (h1 : m1 ≤ 8) (h2 : m2 ≤ 8) : ∀ i, i ≤ 4 → ∀ q, q < 66 → fT (fW f b m1 m2) kds bys i (1782 + q) = nI (nT b m1 m2 i kds bys q)
  | 0, _, q, hq => fW_town h1 h2 q hq
  | i + 1, hi, q, hq => by
    rw [nT_s h1 h2 (by omega)]
    show upd (upd (upd (fT (fW f b m1 m2) kds bys i) (1804 + i) (nI (kds i))) (1808 + i) (nI (bys i))) 1784 (nI (i + 1)) (1782 + q) = _
    by_cases e2 : q = 2
    · rw [show 1782 + q = 1784 by omega, pk_us, if_pos e2]
    · rw [pk_un (by omega), if_neg e2]
      by_cases e26 : q = 26 + i
      · rw [show 1782 + q = 1808 + i by omega, pk_us, if_neg (by omega), if_pos e26]
      · rw [pk_un (by omega)]
        by_cases e22 : q = 22 + i
        · rw [show 1782 + q = 1804 + i by omega, pk_us, if_pos e22]
        · rw [pk_un (by omega), if_neg e22, if_neg e26]
          exact fT_town h1 h2 i (by omega) q hq
theorem fW_o {f : Nat → Int32} {b : Nat → Nat} {m1 m2 q : Nat} (h1 : m1 ≤ 8) (h2 : m2 ≤ 8) (hq : q < 1782) : fW f b m1 m2 q = f q := by
  unfold fW
  rw [pk_un (by omega)]
  unfold wR
  rw [if_neg (by omega), pk_un (by omega), if_neg (by omega)]
  unfold zF
  rw [if_neg (by omega)]
theorem fT_o {g : Nat → Int32} {kds bys : Nat → Nat} {q : Nat} (hq : q < 1782) : ∀ i, fT g kds bys i q = g q
  | 0 => rfl
  | i + 1 => by
    show upd (upd (upd (fT g kds bys i) (1804 + i) (nI (kds i))) (1808 + i) (nI (bys i))) 1784 (nI (i + 1)) q = _
    rw [pk_un (by omega), pk_un (by omega), pk_un (by omega), fT_o hq i]
def nn (n : Int32) (bys : Nat → Nat) : Nat → Int32
  | 0 => n
  | i + 1 => nI (bys i)
section MRd
variable {C P : kw_H} {sc : Nat → Int32} {ar : Nat → Nat → Int32} {f : Nat → Int32} {b : Nat → Nat} {L : Nat} {a w n : Int32}
/-- how the reading ends: it goes on behind the wheels, or ends there -/
theorem m_rdStart (hC : C.length = 38) {R : Int32 × kw_H} (h : X12_reads_J25 (RD C sc ar P (zF f 66) a w n) 38 = some R) : X12_reads_F (RD C sc ar P f a w n) 38 = some R := by
  unfold X12_reads_F
  have e0 : zF f 0 = f := by funext q; unfold zF; rw [if_neg (by omega)]
  rw [show (nI 0, RD C sc ar P f a w n) = (fun i => (nI i, RD C sc ar P (zF f i) a w n)) 0 by show _ = (nI 0, RD C sc ar P (zF f 0) a w n); rw [e0]]
  refine lp_for (fun i => (nI i, RD C sc ar P (zF f i) a w n)) 66 _ (fun i hi => ?_) ?_ 2000 (by omega)
  · show X12_reads_b2 _ _ _ = some (Sum.inl (nI (i + 1), RD C sc ar P (zF f (i + 1)) a w n))
    unfold X12_reads_b2
    have eu : upd (zF f i) (1782 + i) (nI 0) = zF f (i + 1) := by
      funext q
      unfold upd zF
      by_cases e : q = 1782 + i
      · rw [if_pos e, if_pos (by omega)]
      · rw [if_neg e]
        by_cases e2 : 1782 ≤ q ∧ q < 1782 + i
        · rw [if_pos e2, if_pos (by omega)]
        · rw [if_neg e2, if_neg (by omega)]
    rw [if_neg (fun z => by have := (q_le (show 66 < 2147483648 by decide) (show i < 2147483648 by omega)).mp z; omega), d_r0 hC, Option.bind_some, nI_add, d_st hC (by omega), Option.bind_some, nI_add, eu]
  · show X12_reads_b2 _ _ _ = _
    unfold X12_reads_b2
    rw [if_pos ((q_le (by omega) (by omega)).mpr (Nat.le_refl _))]
    show (X12_reads_J25 (RD C sc ar P (zF f 66) a w n) 38).map _ = _
    rw [h]
    rfl
theorem m_rdF1 (hC : C.length = 38) (hT : TP sc ar b L) {x : Nat} (h : WF b L 0 110 x) : ∃ f', (∀ q, q < 1782 → f' q = f q) ∧ X12_reads_F (RD C sc ar P f a w n) 38 = some (nI 0, RD C sc ar P f' (nI x) (nI 1) n) := by
  obtain ⟨f1, g1, g2⟩ := m_wheelF (C := C) (P := P) (f := zF f 66) (w := w) (n := n) (base := 1788) hC hT (show 0 ≤ 100 by omega) (show 110 < 256 by omega) (by omega) h
  refine ⟨upd (upd f1 1782 (-1000000)) 1783 (-1000000), fun q hq => by rw [pk_un (by omega), pk_un (by omega), g1 q (by omega)]; unfold zF; rw [if_neg (by omega)], m_rdStart hC ?_⟩
  unfold X12_reads_J25 X12_reads_J81
  rw [d_p13 hC, Option.bind_some, d_r0 hC, Option.bind_some, d_ob hC, Option.bind_some, g2, Option.bind_some]
  show ((kp_stI (RD C sc ar P f1 (nI x) (nI 1) n) 39 (nI 1782) (-1000000)).bind fun hp4 => _) = _
  rw [d_st hC (by omega), Option.bind_some, d_r0 hC, Option.bind_some, Option.bind_some, d_ld hC (by omega), Option.bind_some, pk_us, if_pos rfl, d_st hC (by omega), Option.bind_some, d_r0 hC, Option.bind_some, d_ld hC (by omega), Option.bind_some, pk_us, if_pos rfl]
theorem m_rdW1 (hC : C.length = 38) (hT : TP sc ar b L) {m1 : Nat} (h : WO b L 0 110 m1) {R : Option (Int32 × kw_H)} (hR : (X12_readsWheel_F (RD C sc ar P (upd (wR (zF f 66) b 1788 1 m1) 1782 (nI m1)) (nI (2 + m1)) w n) 38 (nI 106) (nI 1796)).bind (fun r8 => X12_reads_J81 r8.2 38 r8.1 (nI 1783) 39) = R) (hs : ∃ y, R = some y) : X12_reads_F (RD C sc ar P f a w n) 38 = R := by
  obtain ⟨y, rfl⟩ := hs
  have hm := h.2.1.1
  have g2 := m_wheelO (C := C) (P := P) (f := zF f 66) (w := w) (n := n) (base := 1788) hC hT (show 0 ≤ 100 by omega) (show 110 < 256 by omega) (by omega) h
  refine m_rdStart hC ?_
  unfold X12_reads_J25
  rw [d_p13 hC, Option.bind_some, d_r0 hC, Option.bind_some, d_ob hC, Option.bind_some, g2, Option.bind_some]
  show ((kp_stI (RD C sc ar P (wR (zF f 66) b 1788 (0 + 1) m1) (nI (0 + 2 + m1)) w n) 39 (nI 1782) (nI m1)).bind fun hp4 => _) = _
  rw [Nat.zero_add, Nat.zero_add, d_st hC (by omega), Option.bind_some, d_r0 hC, Option.bind_some, Option.bind_some, d_ld hC (by omega), Option.bind_some, pk_us, if_neg (fun z => (q_none (by omega)).mp z), d_ob hC, Option.bind_some]
  exact hR
theorem m_rdF2 (hC : C.length = 38) (hT : TP sc ar b L) {m1 x : Nat} (h1 : WO b L 0 110 m1) (h : WF b L (2 + m1) 106 x) : ∃ f', (∀ q, q < 1782 → f' q = f q) ∧ X12_reads_F (RD C sc ar P f a w n) 38 = some (nI 0, RD C sc ar P f' (nI x) (nI 1) n) := by
  have hm := h1.2.1.1
  obtain ⟨f1, g1, g2⟩ := m_wheelF (C := C) (P := P) (f := upd (wR (zF f 66) b 1788 1 m1) 1782 (nI m1)) (w := w) (n := n) (base := 1796) hC hT (show 2 + m1 ≤ 100 by omega) (show 106 < 256 by omega) (by omega) h
  refine ⟨upd f1 1783 (-1000000), fun q hq => ?_, m_rdW1 hC hT h1 ?_ ⟨_, rfl⟩⟩
  · rw [pk_un (by omega), g1 q (by omega), pk_un (by omega)]
    unfold wR
    rw [if_neg (by omega)]
    unfold zF
    rw [if_neg (by omega)]
  · rw [g2, Option.bind_some]
    show X12_reads_J81 (RD C sc ar P f1 (nI x) (nI 1) n) 38 (-1000000) (nI 1783) 39 = _
    unfold X12_reads_J81
    rw [d_st hC (by omega), Option.bind_some, d_r0 hC, Option.bind_some, d_ld hC (by omega), Option.bind_some, pk_us, if_pos rfl]
theorem m_rdW2 (hC : C.length = 38) (hT : TP sc ar b L) {m1 m2 : Nat} (h1 : WO b L 0 110 m1) (h2 : WO b L (2 + m1) 106 m2) {R : Option (Int32 × kw_H)} (hR : (if nI (if kdA b L (2 + m1 + 2 + m2) = 0 then 0 else 1) = 0 then (X12_refuse_F (RD C sc ar P (fW f b m1 m2) (nI (2 + m1 + 2 + m2)) w n) 38 (nI 1)).bind (fun r25 => (kp_bool r25.1).bind fun v26 => some (v26, r25.2)) else kp_lp (X12_reads_B112 38) 2000 (nI 1, RD C sc ar P (fW f b m1 m2) (nI (2 + m1 + 2 + m2)) w n)) = R) (hs : ∃ y, R = some y) : X12_reads_F (RD C sc ar P f a w n) 38 = R := by
  have hm := h1.2.1.1
  have hm2 := h2.2.1.1
  have g2 := m_wheelO (C := C) (P := P) (f := upd (wR (zF f 66) b 1788 1 m1) 1782 (nI m1)) (w := w) (n := n) (base := 1796) hC hT (show 2 + m1 ≤ 100 by omega) (show 106 < 256 by omega) (by omega) h2
  refine m_rdW1 hC hT h1 ?_ hs
  rw [g2, Option.bind_some]
  show X12_reads_J81 (RD C sc ar P (wR (upd (wR (zF f 66) b 1788 1 m1) 1782 (nI m1)) b 1796 (2 + m1 + 1) m2) (nI (2 + m1 + 2 + m2)) w n) 38 (nI m2) (nI 1783) 39 = _
  unfold X12_reads_J81
  rw [d_st hC (by omega), Option.bind_some, d_r0 hC, Option.bind_some, d_ld hC (by omega), Option.bind_some, pk_us, if_neg (fun z => (q_none (by omega)).mp z), d_ob hC, Option.bind_some]
  show ((X12_isSort_F (RD C sc ar P (fW f b m1 m2) (nI (2 + m1 + 2 + m2)) w n) 38).bind fun r12 => _) = _
  rw [m_isSort hC hT (by omega), Option.bind_some]
  exact hR
theorem m_rdSteps (hC : C.length = 38) (hT : TP sc ar b L) {p0 m : Nat} {ps kds bys : Nat → Nat} (hp0 : p0 ≤ L) (hs : TSq b L p0 m ps kds bys) (hm : m ≤ 4) {g : Nat → Int32} (hg : g 1784 = nI 0) : ∀ i, i < m → X12_reads_b112 38 (nI 1) (RD C sc ar P (fT g kds bys i) (nI (ps i)) w (nn n bys i)) = some (Sum.inl (nI 1, RD C sc ar P (fT g kds bys (i + 1)) (nI (ps (i + 1))) w (nn n bys (i + 1)))) := fun i hi => by
  have hle := TSq_le hs hp0 i (by omega)
  have hL := hT.1
  have ht := (hs.2 i hi).2
  have hk : kdA b L (ps i) ≠ 0 := by have := ht.2.1; rw [ht.1] at this; exact this
  have h84 : fT g kds bys i 1784 = nI i := by
    cases i with
    | zero => exact hg
    | succ i => exact pk_us
  have := m_turnO (C := C) (P := P) (f := fT g kds bys i) (w := w) (n := nn n bys i) hC hT (show ps i ≤ 100 by omega) h84 ht
  unfold X12_reads_b112
  rw [if_neg e10, d_ob hC, Option.bind_some, m_isSort hC hT (by omega), Option.bind_some, if_neg hk, if_neg e10, Option.bind_some, this]
  rfl
theorem m_rdF3 (hC : C.length = 38) (hT : TP sc ar b L) {m1 m2 m x w' : Nat} {ps kds bys : Nat → Nat} (h1 : WO b L 0 110 m1) (h2 : WO b L (2 + m1) 106 m2) (hm : m ≤ 4) (hs : TSq b L (2 + m1 + 2 + m2) m ps kds bys) (hlt : m = 0 ∨ ps m < L) (ht : TF b L m (ps m) x w') : ∃ f' n', (∀ q, q < 1782 → f' q = f q) ∧ X12_reads_F (RD C sc ar P f a w n) 38 = some (nI 0, RD C sc ar P f' (nI x) (nI w') n') := by
  have hm1 := h1.2.1.1
  have hm2 := h2.2.1.1
  have hL := hT.1
  have hp0 : 2 + m1 + 2 + m2 ≤ L := by have := h2.2.2.2.1; omega
  have hle := TSq_le hs hp0 m (Nat.le_refl _)
  have hg : fW f b m1 m2 1784 = nI 0 := fW_town (f := f) (b := b) (kds := kds) (bys := bys) hm1 hm2 2 (by omega)
  by_cases hk : kdA b L (ps m) = 0
  · rcases ht with ⟨-, rfl, rfl⟩ | ⟨z, -⟩ | ⟨z, -⟩ | ⟨z, -⟩
    case inr.inl => exact absurd hk z
    case inr.inr.inl => exact absurd hk z
    case inr.inr.inr => exact absurd hk z
    by_cases e0 : m = 0
    · subst e0
      have hps := hs.1
      refine ⟨fW f b m1 m2, n, fun q hq => fW_o hm1 hm2 hq, m_rdW2 hC hT h1 h2 ?_ ⟨_, rfl⟩⟩
      rw [← hps, hk, if_pos rfl, if_pos e00, m_refuse hC]
      rfl
    · refine ⟨fT (fW f b m1 m2) kds bys m, nn n bys m, fun q hq => (fT_o hq m).trans (fW_o hm1 hm2 hq), m_rdW2 hC hT h1 h2 ?_ ⟨_, rfl⟩⟩
      have hk0 : kdA b L (2 + m1 + 2 + m2) ≠ 0 := by
        have := (hs.2 0 (by omega)).2
        rw [hs.1] at this
        have h3 := this.2.1
        rw [this.1] at h3
        exact h3
      rw [if_neg hk0, if_neg e10]
      rw [show RD C sc ar P (fW f b m1 m2) (nI (2 + m1 + 2 + m2)) w n = RD C sc ar P (fT (fW f b m1 m2) kds bys 0) (nI (ps 0)) w (nn n bys 0) by rw [hs.1]; rfl]
      refine lp_for (fun i => (nI 1, RD C sc ar P (fT (fW f b m1 m2) kds bys i) (nI (ps i)) w (nn n bys i))) m _ (fun i hi => m_rdSteps hC hT hp0 hs hm hg i hi) ?_ 2000 (by omega)
      show X12_reads_b112 _ _ _ = _
      unfold X12_reads_b112
      rw [if_neg e10, d_ob hC, Option.bind_some, m_isSort hC hT (by omega), Option.bind_some, if_pos hk, if_pos e00]
      unfold X12_reads_J131
      rw [if_neg e10, d_13 hC, Option.bind_some, d_8 hC, Option.bind_some, hT.2.1, if_neg (fun z => by have := (q_eq (show ps m < 2147483648 by omega) (show L < 2147483648 by omega)).mp z; omega), d_ob hC, Option.bind_some, m_refuse hC]
      rfl
  · have h84 : fT (fW f b m1 m2) kds bys m 1784 = nI m := by
      cases m with
      | zero => exact hg
      | succ i => exact pk_us
    obtain ⟨n', f', g1, g2⟩ := m_turnF (C := C) (P := P) (f := fT (fW f b m1 m2) kds bys m) (w := w) (n := nn n bys m) hC hT (show ps m ≤ 100 by omega) h84 hm hk ht
    refine ⟨f', n', fun q hq => (g1 q hq).trans ((fT_o hq m).trans (fW_o hm1 hm2 hq)), m_rdW2 hC hT h1 h2 ?_ ⟨_, rfl⟩⟩
    have hk0 : kdA b L (2 + m1 + 2 + m2) ≠ 0 := by
      by_cases e0 : m = 0
      · subst e0
        rw [← hs.1]; exact hk
      · have := (hs.2 0 (by omega)).2
        rw [hs.1] at this
        have h3 := this.2.1
        rw [this.1] at h3
        exact h3
    rw [if_neg hk0, if_neg e10]
    rw [show (nI 1, RD C sc ar P (fW f b m1 m2) (nI (2 + m1 + 2 + m2)) w n) = (fun i => if i ≤ m then (nI 1, RD C sc ar P (fT (fW f b m1 m2) kds bys i) (nI (ps i)) w (nn n bys i)) else (nI 0, RD C sc ar P f' (nI x) (nI w') n')) 0 by show _ = (if 0 ≤ m then _ else _); rw [if_pos (by omega), hs.1]; rfl]
    refine lp_for (fun i => if i ≤ m then (nI 1, RD C sc ar P (fT (fW f b m1 m2) kds bys i) (nI (ps i)) w (nn n bys i)) else (nI 0, RD C sc ar P f' (nI x) (nI w') n')) (m + 1) _ (fun i hi => ?_) ?_ 2000 (by omega)
    · by_cases e : i < m
      · simp only [show i ≤ m by omega, show i + 1 ≤ m by omega, if_true]
        exact m_rdSteps hC hT hp0 hs hm hg i e
      · have : i = m := by omega
        subst this
        simp only [Nat.le_refl, show ¬ i + 1 ≤ i by omega, if_true, if_false]
        show X12_reads_b112 _ _ _ = _
        unfold X12_reads_b112
        rw [if_neg e10, d_ob hC, Option.bind_some, m_isSort hC hT (by omega), Option.bind_some, if_neg hk, if_neg e10, Option.bind_some, g2]
        rfl
    · simp only [show ¬ m + 1 ≤ m by omega, if_false]
      show X12_reads_b112 _ _ _ = _
      unfold X12_reads_b112
      rw [if_pos e00]
      unfold X12_reads_J131
      rw [if_pos e00]
      rfl
theorem m_rdO (hC : C.length = 38) (hT : TP sc ar b L) {m1 m2 m : Nat} {ps kds bys : Nat → Nat} (h : SUC b L m1 m2 m ps kds bys) : ∃ n', X12_reads_F (RD C sc ar P f a w n) 38 = some (nI 1, RD C sc ar P (fT (fW f b m1 m2) kds bys m) (nI L) w n') := by
  obtain ⟨h1, h2, hm, hm0, hs, hend⟩ := h
  have hm1 := h1.2.1.1
  have hm2 := h2.2.1.1
  have hL := hT.1
  have hp0 : 2 + m1 + 2 + m2 ≤ L := by have := h2.2.2.2.1; omega
  have hg : fW f b m1 m2 1784 = nI 0 := fW_town (f := f) (b := b) (kds := kds) (bys := bys) hm1 hm2 2 (by omega)
  refine ⟨nn n bys m, m_rdW2 hC hT h1 h2 ?_ ⟨_, rfl⟩⟩
  have hk0 : kdA b L (2 + m1 + 2 + m2) ≠ 0 := by
    have := (hs.2 0 (by omega)).2
    rw [hs.1] at this
    have h3 := this.2.1
    rw [this.1] at h3
    exact h3
  rw [if_neg hk0, if_neg e10]
  rw [show RD C sc ar P (fW f b m1 m2) (nI (2 + m1 + 2 + m2)) w n = RD C sc ar P (fT (fW f b m1 m2) kds bys 0) (nI (ps 0)) w (nn n bys 0) by rw [hs.1]; rfl]
  refine lp_for (fun i => (nI 1, RD C sc ar P (fT (fW f b m1 m2) kds bys i) (nI (ps i)) w (nn n bys i))) m _ (fun i hi => m_rdSteps hC hT hp0 hs hm hg i hi) ?_ 2000 (by omega)
  have hk : kdA b L L = 0 := by unfold kdA; rw [if_neg (by omega)]
  show X12_reads_b112 _ _ _ = _
  rw [hend]
  unfold X12_reads_b112
  rw [if_neg e10, d_ob hC, Option.bind_some, m_isSort hC hT (by omega), Option.bind_some, if_pos hk, if_pos e00]
  unfold X12_reads_J131
  rw [if_neg e10, d_13 hC, Option.bind_some, d_8 hC, Option.bind_some, hT.2.1, if_pos rfl]
  rfl
theorem m_rdF (hC : C.length = 38) (hT : TP sc ar b L) {x w' : Nat} (h : FLT b L x w') : ∃ f' n', (∀ q, q < 1782 → f' q = f q) ∧ X12_reads_F (RD C sc ar P f a w n) 38 = some (nI 0, RD C sc ar P f' (nI x) (nI w') n') := by
  rcases h with ⟨h, rfl⟩ | ⟨m1, h1, h, rfl⟩ | ⟨m1, m2, m, ps, kds, bys, h1, h2, hm, hs, hlt, ht⟩
  · obtain ⟨f', g1, g2⟩ := m_rdF1 (C := C) (P := P) (f := f) (a := a) (w := w) (n := n) hC hT h
    exact ⟨f', n, g1, g2⟩
  · obtain ⟨f', g1, g2⟩ := m_rdF2 (C := C) (P := P) (f := f) (a := a) (w := w) (n := n) hC hT h1 h
    exact ⟨f', n, g1, g2⟩
  · exact m_rdF3 hC hT h1 h2 hm hs hlt ht
end MRd
