/-! ===== who ===== -/
theorem put_endT {hp r : kw_H} {ci : Nat} {cs : List Nat} {fs : List Value} {k : Nat} {v : Value} (hc : ci ∈ cs) (hk : k < fs.length) : kp_put (hp ++ .inr (ci, fs) :: r) hp.length cs k v = some (hp ++ .inr (ci, fs.set k v) :: r) := by
  unfold kp_put
  rw [List.getElem?_append_right (Nat.le_refl _), Nat.sub_self]
  show (if ci ∈ cs ∧ k < fs.length then some ((hp ++ .inr (ci, fs) :: r).set hp.length (.inr (ci, fs.set k v))) else none) = _
  rw [if_pos ⟨hc, hk⟩, List.set_append_right _ _ (Nat.le_refl _), Nat.sub_self]
  rfl
theorem al0 {hp : kw_H} (h : hp.length ≤ 3890) (c : kw_E) : kp_al hp [c] = some (hp ++ [c]) := by
  unfold kp_al
  rw [if_pos (by simp; omega)]
theorem x10init {hp : kw_H} {ci : Nat} (hc : ci ∈ [0, 3, 4, 5, 7]) (x y : Int32) : X10_init_F (hp ++ [.inr (ci, [.int 0, .int 0])]) hp.length x y = some (hp ++ [.inr (ci, [.int x, .int y])]) := by
  unfold X10_init_F
  rw [put_endT hc (by decide), Option.bind_some, put_endT hc (by show 1 < 2; decide)]
  rfl
theorem c_made {hp : kw_H} (h : hp.length ≤ 3890) {kd : Nat} (hk : 1 ≤ kd ∧ kd ≤ 5) (x y : Int32) : X10_made_F hp (nI kd) x y = some (some hp.length, hp ++ [.inr (kcn kd, [.int x, .int y])]) := by
  unfold X10_made_F X7_init_F X0_init_F X5_init_F X3_init_F X4_init_F
  rcases (show kd = 1 ∨ kd = 2 ∨ kd = 3 ∨ kd = 4 ∨ kd = 5 by omega) with rfl | rfl | rfl | rfl | rfl
  · rw [if_pos rfl, al0 h, Option.bind_some, x10init (by decide)]
    rfl
  · rw [if_neg (by decide), if_pos rfl, al0 h, Option.bind_some, x10init (by decide)]
    rfl
  · rw [if_neg (by decide), if_neg (by decide), if_pos rfl, al0 h, Option.bind_some, x10init (by decide)]
    rfl
  · rw [if_neg (by decide), if_neg (by decide), if_neg (by decide), if_pos rfl, al0 h, Option.bind_some, x10init (by decide)]
    rfl
  · rw [if_neg (by decide), if_neg (by decide), if_neg (by decide), if_neg (by decide), al0 h, Option.bind_some, x10init (by decide)]
    rfl
/-- a new turner in a kitchen's place k -/
theorem KB_turn {x : kw_H} {i : Nat} {T : Tw} (hK : KB x i T) (h2 : T 2 ≤ 4) {k kd : Nat} (hk : k < 4) (hkd : 1 ≤ kd ∧ kd ≤ 5) (b : Nat) (T' : Tw) (h01 : T' 0 = T 0 ∧ T' 1 = T 1) (hT'2 : ∀ q, q < T' 2 → q = k ∨ q < T 2) (hv : ∃ z, ∀ q, q < 6 → T' q = if q = 2 then z else T q) (hlo : ∀ q, 6 ≤ q → q < 22 → T' q = T q) (hhi : ∀ q, 30 ≤ q → T' q = T q) (htu : ∀ q, q < 4 → q ≠ k → T' (22 + q) = T (22 + q) ∧ T' (26 + q) = T (26 + q)) (hk22 : T' (22 + k) = kd) (hk26 : T' (26 + k) = b) (h8 : T 0 ≤ 8 ∧ T 1 ≤ 8) :
    ∃ y v nm jb tu tm, (∃ v' tu', KC x i v' nm jb tu' tm ∧ tu = va_up tu' k (some x.length) ∧ v = v' ∧ kp_stR (x ++ [.inr (kcn kd, [.int (nI k), .int (nI b)])]) 3 (i + 3) (nI k) (some x.length) [0, 3, 4, 5, 7] = some y) ∧ KC y i v nm jb tu tm ∧ (∀ q, q < 6 → v q = nI (T q)) ∧ KV (fun q => if q = 2 then nI (T' 2) else v q) nm jb tm T' ∧ TU y tu T' ∧ TV y tu ∧ y.length = x.length + 1 ∧ ∀ q, q ≠ i + 3 → q < x.length → y[q]? = x[q]? := by
  obtain ⟨v, nm, jb, tu, tm, k1, k2, k3, k4⟩ := hK
  have hl := KC_lt k1
  obtain ⟨c, hc⟩ : ∃ c : kw_E, c = .inr (kcn kd, [.int (nI k), .int (nI b)]) := ⟨_, rfl⟩
  rw [← hc]
  have hA : ∀ q, q < x.length → (x ++ [c])[q]? = x[q]? := fun q hq => List.getElem?_append_left hq
  have hN : (x ++ [c])[x.length]? = some c := by rw [List.getElem?_append_right (Nat.le_refl _), Nat.sub_self]; rfl
  have kA : KC (x ++ [c]) i v nm jb tu tm := ⟨(hA _ (by omega)).trans k1.1, (hA _ (by omega)).trans k1.2.1, (hA _ (by omega)).trans k1.2.2.1, (hA _ (by omega)).trans k1.2.2.2.1, (hA _ (by omega)).trans k1.2.2.2.2⟩
  obtain ⟨y, hy⟩ : ∃ y, y = (x ++ [c]).set (i + 3) (.inl (3, 4, .inr (.inr (.inr (.inr (va_up tu k (some x.length))))))) := ⟨_, rfl⟩
  have hst : kp_stR (x ++ [c]) 3 (i + 3) (nI k) (some x.length) [0, 3, 4, 5, 7] = some y := by
    rw [hy]
    exact stR_some kA.2.2.2.1 (by decide) hk (by rw [hN, hc]) kcn_in
  have kY : KC y i v nm jb (va_up tu k (some x.length)) tm := by rw [hy]; exact KC_w3 kA _
  have fY : ∀ q, q ≠ i + 3 → q < x.length → y[q]? = x[q]? := fun q h1 h2 => by rw [hy, List.getElem?_set_ne (Ne.symm h1), hA q h2]
  have nY : y[x.length]? = some (.inr (kcn kd, [.int (nI k), .int (nI b)])) := by rw [hy, List.getElem?_set_ne (by omega), hN, hc]
  have NT3 : ∀ a ci fs, x[a]? = some (.inr (ci, fs)) → a ≠ i + 3 ∧ a < x.length := fun a ci fs e => ⟨fun z => (by rw [z, k1.2.2.2.1] at e; cases e), (List.getElem?_eq_some_iff.mp e).1⟩
  obtain ⟨z, hz⟩ := hv
  refine ⟨y, v, nm, jb, _, tm, ⟨v, tu, k1, rfl, rfl, hst⟩, kY, k2.1, ⟨fun q hq => ?_, fun q hq => ?_, fun q hq => ?_, fun q hq => ?_⟩, fun q hq => ?_, fun q a hq ha => ?_, by rw [hy]; simp, fY⟩
  · by_cases e : q = 2
    · rw [e]; rfl
    · show (if q = 2 then nI (T' 2) else v q) = _
      rw [if_neg e, hz q hq, if_neg e]; exact k2.1 q hq
  · rw [h01.1] at hq; rw [hlo _ (by omega) (by omega)]; exact k2.2.1 q hq
  · rw [h01.2] at hq; rw [hlo _ (by omega) (by omega)]; exact k2.2.2.1 q hq
  · rw [hhi _ (by omega)]; exact k2.2.2.2 q hq
  · by_cases e : q = k
    · subst e
      exact ⟨x.length, up_at _ _ _, by rw [nY, hk22, hk26]⟩
    · have hq2 := (hT'2 q hq).resolve_left e
      obtain ⟨a, b1, b2⟩ := k3 q hq2
      obtain ⟨n1, n2⟩ := NT3 a _ _ b2
      obtain ⟨t1, t2⟩ := htu q (by omega) e
      exact ⟨a, by rw [up_ne _ _ e]; exact b1, by rw [fY a n1 n2, t1, t2]; exact b2⟩
  · by_cases e : q = k
    · subst e
      rw [up_at] at ha
      cases ha
      exact ⟨_, _, nY, kcn_in⟩
    · rw [up_ne _ _ e] at ha
      obtain ⟨ci, fs, g1, g2⟩ := k4 q a hq ha
      obtain ⟨n1, n2⟩ := NT3 a _ _ g1
      exact ⟨ci, fs, by rw [fY a n1 n2]; exact g1, g2⟩
/-- the town with the kind kd at the turner k -/
def tKd (T : Tw) (k kd : Nat) : Tw := va_up T (22 + k) kd
theorem tKd_real {T : Tw} (hT : tReal T) {k kd : Nat} (hk : 1 ≤ kd ∧ kd ≤ 5) (k4 : k < 4) : tReal (tKd T k kd) := by
  obtain ⟨⟨h0, h1, h2, h3, h4, h5, h6, h7, h8, h9, h10⟩, h999⟩ := hT
  have e : ∀ q, q ≠ 22 + k → tKd T k kd q = T q := fun q hq => up_ne _ _ hq
  refine ⟨⟨?_, ?_, ?_, ?_, ?_, ?_, ?_, ?_, ?_, ?_, ?_⟩, ?_⟩
  · rw [e 0 (by omega)]; exact h0
  · rw [e 1 (by omega)]; exact h1
  · rw [e 2 (by omega)]; exact h2
  · rw [e 3 (by omega)]; exact h3
  · rw [e 4 (by omega), e 1 (by omega)]; exact h4
  · rw [e 5 (by omega)]; exact h5
  · rw [e 0 (by omega)]; intro q hq; rw [e (6 + q) (by omega)]; exact h6 q hq
  · rw [e 1 (by omega)]; intro q hq; rw [e (14 + q) (by omega)]; exact h7 q hq
  · rw [e 2 (by omega)]
    intro q hq
    by_cases z : q = k
    · rw [z]
      show 1 ≤ va_up T (22 + k) kd (22 + k) ∧ va_up T (22 + k) kd (22 + k) ≤ 5
      rw [up_at]; exact hk
    · rw [e (22 + q) (by omega)]; exact h8 q hq
  · rw [e 2 (by omega)]; intro q hq; rw [e (26 + q) (by omega)]; exact h9 q hq
  · intro q hq; rw [e (30 + q) (by omega), e 3 (by omega)]; exact h10 q hq
  · rw [e 3 (by omega)]; exact h999
def hF (T : Tw) (it : Nat → Int32) (i : Nat) : Bool := decide (nI (tBn T (i + 1)) = it i)
def hB (T : Tw) (k : Nat) (it : Nat → Int32) (w : Nat) : Nat → Nat := q_os (fun i => q_al (hF (tKd T k (i + 1)) it) w) (fun i => i + 1)
theorem hB_lt {T : Tw} {k : Nat} {it : Nat → Int32} {w : Nat} {n : Nat} (hn : n ≤ 5) : hB T k it w n < 64 := q_os_lt n (fun s hs _ => by omega)
theorem c_whoFit {y : kw_H} {ks ka : Nat → Nat → Int32} {kl : Nat → Nat → Int64} {kr : Nat → Nat → Option Nat} {T : Tw} {v nm jb tm : Nat → Int32} {tu : Nat → Option Nat} (h : CV y ks ka kl kr) (k1 : KC y 26 v nm jb tu tm) (hV : KV v nm jb tm T) (k3 : TU y tu T) (hT : tReal T) {k r fr m w a bits kd : Nat} (hr : r < 8) (hm : m ≤ 40) (hs : ka 12 r = nI m) (hx : fr + w ≤ m) (hw : w ≤ 12) {it : Nat → Int32} (hit : ∀ i, i < w → ka (3 + r) (fr + i) = it i) (hb : bits < 64) (hkd : kd < 6) : kp_lp (X1_kindsSeen_B78 y 25 (nI k) 1 (nI r) (nI fr) (nI w) a (nI bits) (nI kd)) 2000 (nI (T 4), nI 1, nI 0) = some (.inl (nI (if q_al (hF T it) w = true then bits ||| 2 ^ kd else bits), nI (kd + 1), y)) := by
  have h999 := hT.2
  have h18 := hT.1.2.1
  obtain ⟨m', m1, m2, m3, m4⟩ := al_stop (hF T it) w
  refine lp_for (fun i => (nI (tBn T i), nI (b2 (q_al (hF T it) i)), nI i)) m' _ (fun i hi => ?_) ?_ 2000 (by omega)
  · have hbn : tBn T i < T 1 := tBn_lt hT.1 i
    show X1_kindsSeen_b78 _ _ _ _ _ _ _ _ _ _ _ _ _ = some (Sum.inl (nI (tBn T (i + 1)), nI (b2 (q_al (hF T it) i && hF T it i)), nI (i + 1)))
    unfold X1_kindsSeen_b78 X1_kindsSeen_J132
    rw [if_neg (fun z => by have := (q_le (show w < 2147483648 by omega) (show i < 2147483648 by omega)).mp z; omega), m2 i hi, if_neg (show ¬ nI (b2 true) = 0 from e10)]
    have en : tN T (tBn T i) (T 3 + i) = tBn T (i + 1) := rfl
    simp only [c25_r0 h, Option.bind_some, kc_g7 k1, hV.1 3 (show 3 < 6 by omega), kc_ob k1, nI_add, c_turnedNext k1 hV hT.1 k3 (show tBn T i ≤ 1000 by omega) (show T 3 + i ≤ 2000 by omega), c1_ob h, c_itemAt h hr hm hs (show fr + i < m by omega), hit i (show i < w by omega), en]
    unfold hF
    by_cases e : nI (tBn T (i + 1)) = it i
    · rw [if_pos e, decide_eq_true e]
      rfl
    · rw [if_neg e, decide_eq_false e]
      rfl
  · have fin : X1_kindsSeen_J140 y 25 (nI k) 1 (nI r) (nI fr) (nI w) a (nI bits) (nI kd) (nI (b2 (q_al (hF T it) m'))) = some (Sum.inl (nI (if q_al (hF T it) w = true then bits ||| 2 ^ kd else bits), nI (kd + 1), y)) := by
      unfold X1_kindsSeen_J140 X1_kindsSeen_J154
      rw [m4, nI_add]
      cases q_al (hF T it) w
      · rw [if_pos (show nI (b2 false) = 0 from e00)]
        rfl
      · rw [if_neg (show ¬ nI (b2 true) = 0 from e10), q_or hb hkd]
        rfl
    show X1_kindsSeen_b78 _ _ _ _ _ _ _ _ _ _ _ _ _ = _
    unfold X1_kindsSeen_b78
    rcases m3 with e | e
    · subst e
      rw [if_pos ((q_le (by omega) (by omega)).mpr (Nat.le_refl _)), fin]
      rfl
    · rw [if_pos (show nI (b2 (q_al (hF T it) m')) = 0 by rw [e]; rfl), ite_self, fin]
      rfl
theorem CV_mixb {hp hp' : kw_H} {ks ka ks' ka' : Nat → Nat → Int32} {kl kl' : Nat → Nat → Int64} {kr kr' : Nat → Nat → Option Nat} (h : CV hp ks ka kl kr) (h' : CV hp' ks' ka' kl' kr') (hf : ∀ q, q < 26 ∨ (34 ≤ q ∧ q < 38) → hp'[q]? = hp[q]?) : CV hp' (fun q => if 26 ≤ q ∧ q < 34 then ks' q else ks q) (fun q => if 26 ≤ q ∧ q < 34 then ka' q else ka q) (fun q => if 26 ≤ q ∧ q < 34 then kl' q else kl q) (fun q => if 26 ≤ q ∧ q < 34 then kr' q else kr q) := by
  intro q hq
  rcases (show q = 0 ∨ q = 1 ∨ q = 2 ∨ q = 3 ∨ q = 4 ∨ q = 5 ∨ q = 6 ∨ q = 7 ∨ q = 8 ∨ q = 9 ∨ q = 10 ∨ q = 11 ∨ q = 12 ∨ q = 13 ∨ q = 14 ∨ q = 15 ∨ q = 16 ∨ q = 17 ∨ q = 18 ∨ q = 19 ∨ q = 20 ∨ q = 21 ∨ q = 22 ∨ q = 23 ∨ q = 24 ∨ q = 25 ∨ q = 26 ∨ q = 27 ∨ q = 28 ∨ q = 29 ∨ q = 30 ∨ q = 31 ∨ q = 32 ∨ q = 33 ∨ q = 34 ∨ q = 35 ∨ q = 36 ∨ q = 37 by omega) with rfl | rfl | rfl | rfl | rfl | rfl | rfl | rfl | rfl | rfl | rfl | rfl | rfl | rfl | rfl | rfl | rfl | rfl | rfl | rfl | rfl | rfl | rfl | rfl | rfl | rfl | rfl | rfl | rfl | rfl | rfl | rfl | rfl | rfl | rfl | rfl | rfl | rfl
  · exact (hf 0 (by omega)).trans (h 0 (by omega))
  · exact (hf 1 (by omega)).trans (h 1 (by omega))
  · exact (hf 2 (by omega)).trans (h 2 (by omega))
  · exact (hf 3 (by omega)).trans (h 3 (by omega))
  · exact (hf 4 (by omega)).trans (h 4 (by omega))
  · exact (hf 5 (by omega)).trans (h 5 (by omega))
  · exact (hf 6 (by omega)).trans (h 6 (by omega))
  · exact (hf 7 (by omega)).trans (h 7 (by omega))
  · exact (hf 8 (by omega)).trans (h 8 (by omega))
  · exact (hf 9 (by omega)).trans (h 9 (by omega))
  · exact (hf 10 (by omega)).trans (h 10 (by omega))
  · exact (hf 11 (by omega)).trans (h 11 (by omega))
  · exact (hf 12 (by omega)).trans (h 12 (by omega))
  · exact (hf 13 (by omega)).trans (h 13 (by omega))
  · exact (hf 14 (by omega)).trans (h 14 (by omega))
  · exact (hf 15 (by omega)).trans (h 15 (by omega))
  · exact (hf 16 (by omega)).trans (h 16 (by omega))
  · exact (hf 17 (by omega)).trans (h 17 (by omega))
  · exact (hf 18 (by omega)).trans (h 18 (by omega))
  · exact (hf 19 (by omega)).trans (h 19 (by omega))
  · exact (hf 20 (by omega)).trans (h 20 (by omega))
  · exact (hf 21 (by omega)).trans (h 21 (by omega))
  · exact (hf 22 (by omega)).trans (h 22 (by omega))
  · exact (hf 23 (by omega)).trans (h 23 (by omega))
  · exact (hf 24 (by omega)).trans (h 24 (by omega))
  · exact (hf 25 (by omega)).trans (h 25 (by omega))
  · exact h' 26 (by omega)
  · exact h' 27 (by omega)
  · exact h' 28 (by omega)
  · exact h' 29 (by omega)
  · exact h' 30 (by omega)
  · exact h' 31 (by omega)
  · exact h' 32 (by omega)
  · exact h' 33 (by omega)
  · exact (hf 34 (by omega)).trans (h 34 (by omega))
  · exact (hf 35 (by omega)).trans (h 35 (by omega))
  · exact (hf 36 (by omega)).trans (h 36 (by omega))
  · exact (hf 37 (by omega)).trans (h 37 (by omega))
theorem CV_drb {hp hp' : kw_H} {ks ka : Nat → Nat → Int32} {kl : Nat → Nat → Int64} {kr : Nat → Nat → Option Nat} {v nm jb tm : Nat → Int32} {tu : Nat → Option Nat} (h : CV hp ks ka kl kr) (k : KC hp' 15 v nm jb tu tm) (hf : ∀ q, q < 15 ∨ (20 ≤ q ∧ q < 38) → hp'[q]? = hp[q]?) : CV hp' (fun q k => if q = 15 then v (k - 4) else ks q k) (fun q => if q = 16 then nm else if q = 17 then jb else if q = 19 then tm else ka q) kl (fun q => if q = 18 then tu else kr q) := by
  intro q hq
  rcases (show q = 0 ∨ q = 1 ∨ q = 2 ∨ q = 3 ∨ q = 4 ∨ q = 5 ∨ q = 6 ∨ q = 7 ∨ q = 8 ∨ q = 9 ∨ q = 10 ∨ q = 11 ∨ q = 12 ∨ q = 13 ∨ q = 14 ∨ q = 15 ∨ q = 16 ∨ q = 17 ∨ q = 18 ∨ q = 19 ∨ q = 20 ∨ q = 21 ∨ q = 22 ∨ q = 23 ∨ q = 24 ∨ q = 25 ∨ q = 26 ∨ q = 27 ∨ q = 28 ∨ q = 29 ∨ q = 30 ∨ q = 31 ∨ q = 32 ∨ q = 33 ∨ q = 34 ∨ q = 35 ∨ q = 36 ∨ q = 37 by omega) with rfl | rfl | rfl | rfl | rfl | rfl | rfl | rfl | rfl | rfl | rfl | rfl | rfl | rfl | rfl | rfl | rfl | rfl | rfl | rfl | rfl | rfl | rfl | rfl | rfl | rfl | rfl | rfl | rfl | rfl | rfl | rfl | rfl | rfl | rfl | rfl | rfl | rfl
  · exact (hf 0 (by omega)).trans (h 0 (by omega))
  · exact (hf 1 (by omega)).trans (h 1 (by omega))
  · exact (hf 2 (by omega)).trans (h 2 (by omega))
  · exact (hf 3 (by omega)).trans (h 3 (by omega))
  · exact (hf 4 (by omega)).trans (h 4 (by omega))
  · exact (hf 5 (by omega)).trans (h 5 (by omega))
  · exact (hf 6 (by omega)).trans (h 6 (by omega))
  · exact (hf 7 (by omega)).trans (h 7 (by omega))
  · exact (hf 8 (by omega)).trans (h 8 (by omega))
  · exact (hf 9 (by omega)).trans (h 9 (by omega))
  · exact (hf 10 (by omega)).trans (h 10 (by omega))
  · exact (hf 11 (by omega)).trans (h 11 (by omega))
  · exact (hf 12 (by omega)).trans (h 12 (by omega))
  · exact (hf 13 (by omega)).trans (h 13 (by omega))
  · exact (hf 14 (by omega)).trans (h 14 (by omega))
  · exact k.1
  · exact k.2.1
  · exact k.2.2.1
  · exact k.2.2.2.1
  · exact k.2.2.2.2
  · exact (hf 20 (by omega)).trans (h 20 (by omega))
  · exact (hf 21 (by omega)).trans (h 21 (by omega))
  · exact (hf 22 (by omega)).trans (h 22 (by omega))
  · exact (hf 23 (by omega)).trans (h 23 (by omega))
  · exact (hf 24 (by omega)).trans (h 24 (by omega))
  · exact (hf 25 (by omega)).trans (h 25 (by omega))
  · exact (hf 26 (by omega)).trans (h 26 (by omega))
  · exact (hf 27 (by omega)).trans (h 27 (by omega))
  · exact (hf 28 (by omega)).trans (h 28 (by omega))
  · exact (hf 29 (by omega)).trans (h 29 (by omega))
  · exact (hf 30 (by omega)).trans (h 30 (by omega))
  · exact (hf 31 (by omega)).trans (h 31 (by omega))
  · exact (hf 32 (by omega)).trans (h 32 (by omega))
  · exact (hf 33 (by omega)).trans (h 33 (by omega))
  · exact (hf 34 (by omega)).trans (h 34 (by omega))
  · exact (hf 35 (by omega)).trans (h 35 (by omega))
  · exact (hf 36 (by omega)).trans (h 36 (by omega))
  · exact (hf 37 (by omega)).trans (h 37 (by omega))
theorem CV_trib {hp hp' : kw_H} {ks ka : Nat → Nat → Int32} {kl : Nat → Nat → Int64} {kr : Nat → Nat → Option Nat} {v nm jb tm : Nat → Int32} {tu : Nat → Option Nat} (h : CV hp ks ka kl kr) (k : KC hp' 26 v nm jb tu tm) (hf : ∀ q, q < 26 ∨ (31 ≤ q ∧ q < 38) → hp'[q]? = hp[q]?) : CV hp' (fun q k => if q = 26 then v (k - 4) else ks q k) (fun q => if q = 27 then nm else if q = 28 then jb else if q = 30 then tm else ka q) kl (fun q => if q = 29 then tu else kr q) := by
  intro q hq
  rcases (show q = 0 ∨ q = 1 ∨ q = 2 ∨ q = 3 ∨ q = 4 ∨ q = 5 ∨ q = 6 ∨ q = 7 ∨ q = 8 ∨ q = 9 ∨ q = 10 ∨ q = 11 ∨ q = 12 ∨ q = 13 ∨ q = 14 ∨ q = 15 ∨ q = 16 ∨ q = 17 ∨ q = 18 ∨ q = 19 ∨ q = 20 ∨ q = 21 ∨ q = 22 ∨ q = 23 ∨ q = 24 ∨ q = 25 ∨ q = 26 ∨ q = 27 ∨ q = 28 ∨ q = 29 ∨ q = 30 ∨ q = 31 ∨ q = 32 ∨ q = 33 ∨ q = 34 ∨ q = 35 ∨ q = 36 ∨ q = 37 by omega) with rfl | rfl | rfl | rfl | rfl | rfl | rfl | rfl | rfl | rfl | rfl | rfl | rfl | rfl | rfl | rfl | rfl | rfl | rfl | rfl | rfl | rfl | rfl | rfl | rfl | rfl | rfl | rfl | rfl | rfl | rfl | rfl | rfl | rfl | rfl | rfl | rfl | rfl
  · exact (hf 0 (by omega)).trans (h 0 (by omega))
  · exact (hf 1 (by omega)).trans (h 1 (by omega))
  · exact (hf 2 (by omega)).trans (h 2 (by omega))
  · exact (hf 3 (by omega)).trans (h 3 (by omega))
  · exact (hf 4 (by omega)).trans (h 4 (by omega))
  · exact (hf 5 (by omega)).trans (h 5 (by omega))
  · exact (hf 6 (by omega)).trans (h 6 (by omega))
  · exact (hf 7 (by omega)).trans (h 7 (by omega))
  · exact (hf 8 (by omega)).trans (h 8 (by omega))
  · exact (hf 9 (by omega)).trans (h 9 (by omega))
  · exact (hf 10 (by omega)).trans (h 10 (by omega))
  · exact (hf 11 (by omega)).trans (h 11 (by omega))
  · exact (hf 12 (by omega)).trans (h 12 (by omega))
  · exact (hf 13 (by omega)).trans (h 13 (by omega))
  · exact (hf 14 (by omega)).trans (h 14 (by omega))
  · exact (hf 15 (by omega)).trans (h 15 (by omega))
  · exact (hf 16 (by omega)).trans (h 16 (by omega))
  · exact (hf 17 (by omega)).trans (h 17 (by omega))
  · exact (hf 18 (by omega)).trans (h 18 (by omega))
  · exact (hf 19 (by omega)).trans (h 19 (by omega))
  · exact (hf 20 (by omega)).trans (h 20 (by omega))
  · exact (hf 21 (by omega)).trans (h 21 (by omega))
  · exact (hf 22 (by omega)).trans (h 22 (by omega))
  · exact (hf 23 (by omega)).trans (h 23 (by omega))
  · exact (hf 24 (by omega)).trans (h 24 (by omega))
  · exact (hf 25 (by omega)).trans (h 25 (by omega))
  · exact k.1
  · exact k.2.1
  · exact k.2.2.1
  · exact k.2.2.2.1
  · exact k.2.2.2.2
  · exact (hf 31 (by omega)).trans (h 31 (by omega))
  · exact (hf 32 (by omega)).trans (h 32 (by omega))
  · exact (hf 33 (by omega)).trans (h 33 (by omega))
  · exact (hf 34 (by omega)).trans (h 34 (by omega))
  · exact (hf 35 (by omega)).trans (h 35 (by omega))
  · exact (hf 36 (by omega)).trans (h 36 (by omega))
  · exact (hf 37 (by omega)).trans (h 37 (by omega))
theorem c_who {hp H : kw_H} {ks ka ksH kaH : Nat → Nat → Int32} {kl klH : Nat → Nat → Int64} {kr krH : Nat → Nat → Option Nat} {T : Tw} (h : CV hp ks ka kl kr) (hH : CV H ksH kaH klH krH) (hK : KB H 26 T) (hf : ∀ q, q < 26 ∨ 34 ≤ q → H[q]? = hp[q]?) (hl : H.length = hp.length) (h47 : 47 ≤ hp.length) (hlen : hp.length ≤ 3800) (hT : tReal T) {k r fr m w a : Nat} (hk : k < T 2) (ha : hp[a]? = some (.inr (kcn (T (22 + k)), [.int (nI k), .int (nI (T (26 + k)))]))) (hr : r < 8) (hm : m ≤ 40) (hs : ka 12 r = nI m) (hx : fr + w ≤ m) (hw : w ≤ 12) : ∃ hp', kp_lp (X1_kindsSeen_B37 25 (nI k) 1 (nI r) (nI fr) (nI w) a) 2000 (nI 0, nI 1, H) = some (nI (hB T k (fun i => ka (3 + r) (fr + i)) w 5), hp') ∧ hp'.length = hp.length + 5 ∧ (∀ q, q < 26 ∨ (34 ≤ q ∧ q < hp.length) → hp'[q]? = hp[q]?) ∧ ∃ ks' ka' kl' kr', CV hp' ks' ka' kl' kr' := by
  have h2 := hT.1.2.2.1
  have h01 := hT.1.1
  have h18 := hT.1.2.1
  have hane : ¬ (26 ≤ a ∧ a < 34) := fun z => CV_NT h (show a < 38 by omega) _ _ ha kcn_in
  have hal : a < hp.length := (List.getElem?_eq_some_iff.mp ha).1
  obtain ⟨it, hit⟩ : ∃ it : Nat → Int32, it = fun i => ka (3 + r) (fr + i) := ⟨_, rfl⟩
  rw [← hit]
  obtain ⟨F, F0, F1, F2⟩ := chain (α := kw_H) (P := fun i x => (∃ T', KB x 26 T' ∧ (∀ q, q ≠ 22 + k → T' q = T q)) ∧ (∀ q, q < 26 ∨ (34 ≤ q ∧ q < hp.length) → x[q]? = hp[q]?) ∧ x.length = hp.length + i ∧ ∃ ks' ka' kl' kr', CV x ks' ka' kl' kr') (R := fun i x y => X1_kindsSeen_b37 25 (nI k) 1 (nI r) (nI fr) (nI w) a (nI (hB T k it w i)) (nI (i + 1)) x = some (Sum.inl (nI (hB T k it w (i + 1)), nI (i + 1 + 1), y))) (x0 := H) ⟨⟨T, hK, fun q _ => rfl⟩, fun q hq => hf q (by omega), by omega, _, _, _, _, hH⟩ 5 (fun i x hi hP => by
    obtain ⟨⟨T', kx, tx⟩, fx, lx, ksx, kax, klx, krx, cx0⟩ := hP
    have cx := CV_mixb h cx0 (fun q hq => fx q (by omega))
    have hTk := tKd_real hT (k := k) (kd := i + 1) (by omega) (by omega)
    have ek : ∀ q, q ≠ 22 + k → tKd T k (i + 1) q = T q := fun q hq => up_ne _ _ hq
    obtain ⟨y, v, nm, jb, tu, tm, ⟨v', tu', kx1, -, -, hst⟩, kY, vY, VY, UY, WY, lY, fY⟩ := KB_turn kx (by rw [tx 2 (by omega)]; omega) (k := k) (kd := i + 1) (by omega) (by omega) (T (26 + k)) (tKd T k (i + 1)) ⟨by rw [ek 0 (by omega), tx 0 (by omega)], by rw [ek 1 (by omega), tx 1 (by omega)]⟩ (fun q hq => Or.inr (by rw [ek 2 (by omega)] at hq; rw [tx 2 (by omega)]; exact hq)) ⟨T 2, fun q hq => by
        rw [ek q (by omega), tx q (by omega)]
        split
        · rename_i z; rw [z]
        · rfl⟩ (fun q h1 h2 => by rw [ek q (by omega), tx q (by omega)]) (fun q h1 => by rw [ek q (by omega), tx q (by omega)]) (fun q h1 h2 => ⟨by rw [ek _ (by omega), tx _ (by omega)], by rw [ek _ (by omega), tx _ (by omega)]⟩) (up_at _ _ _) (ek _ (by omega)) ⟨by rw [tx 0 (by omega)]; omega, by rw [tx 1 (by omega)]; omega⟩
    have VY2 : KV v nm jb tm (tKd T k (i + 1)) := ⟨fun q hq => by rw [vY q hq, ek q (by omega), tx q (by omega)], VY.2.1, VY.2.2.1, VY.2.2.2⟩
    have cy := CV_trib cx kY (fun q hq => fY q (by omega) (by omega))
    have hbl := hB_lt (T := T) (k := k) (it := it) (w := w) (n := i) (by omega)
    have ef := c_whoFit (k := k) (a := a) (bits := hB T k it w i) (kd := i + 1) cy kY VY2 UY hTk hr hm (show ka 12 r = nI m from hs) hx hw (it := it) (fun j hj => by
      show (if 3 + r = 27 then nm else if 3 + r = 28 then jb else if 3 + r = 30 then tm else if 26 ≤ 3 + r ∧ 3 + r < 34 then kax (3 + r) else ka (3 + r)) (fr + j) = it j
      rw [if_neg (by omega), if_neg (by omega), if_neg (by omega), if_neg (by omega), hit]) hbl (by omega)
    have e4 : tKd T k (i + 1) 4 = T 4 := ek 4 (by omega)
    rw [e4] at ef
    have egI : kp_gI x a [0, 3, 4, 5, 7] 1 = some (nI (T (26 + k))) := kp_gI_of (by rw [fx a (by omega)]; exact ha) kcn_in rfl
    have em := c_made (hp := x) (by omega) (kd := i + 1) (by omega) (nI k) (nI (T (26 + k)))
    have r2 : kp_gR x 26 [2] 2 = some (26 + 3) := kc_r2 kx1
    have g8 : kp_gI y 26 [2] 8 = some (nI (T 4)) := by rw [kc_g8 kY, vY 4 (by omega), tx 4 (by omega)]
    refine ⟨y, ?_, ⟨tKd T k (i + 1), ⟨v, nm, jb, tu, tm, kY, VY2, UY, WY⟩, ek⟩, fun q hq => by rw [fY q (by omega) (by omega)]; exact fx q hq, by omega, _, _, _, _, cy⟩
    show _ = some (Sum.inl (nI (if q_al (hF (tKd T k (i + 1)) it) w = true then hB T k it w i ||| 2 ^ (i + 1) else hB T k it w i), nI (i + 1 + 1), y))
    unfold X1_kindsSeen_b37
    rw [if_neg (fun z => by have := (q_lt (show 5 < 2147483648 by decide) (show i + 1 < 2147483648 by omega)).mp z; omega), c25_r0 cx, Option.bind_some, r2, Option.bind_some, egI, Option.bind_some, em, Option.bind_some]
    show ((kp_stR (x ++ [.inr (kcn (i + 1), [.int (nI k), .int (nI (T (26 + k)))])]) 3 (26 + 3) (nI k) (some x.length) [0, 3, 4, 5, 7]).bind fun hp28 => (kp_gR hp28 25 [1] 0).bind fun v29 => (kp_gI hp28 v29 [2] 8).bind fun v30 => kp_lp (X1_kindsSeen_B78 hp28 25 (nI k) 1 (nI r) (nI fr) (nI w) a (nI (hB T k it w i)) (nI (i + 1))) 2000 (v30, nI 1, nI 0)) = _
    rw [hst, Option.bind_some, c25_r0 cy, Option.bind_some, g8, Option.bind_some]
    exact ef)
  obtain ⟨-, g2, g3, g4⟩ := F1 5 (Nat.le_refl _)
  refine ⟨F 5, ?_, g3, g2, g4⟩
  rw [← F0]
  refine lp_for (fun i => (nI (hB T k it w i), nI (i + 1), F i)) 5 _ (fun i hi => F2 i hi) ?_ 2000 (by omega)
  show X1_kindsSeen_b37 _ _ _ _ _ _ _ _ _ _ = _
  unfold X1_kindsSeen_b37
  rw [if_pos ((q_lt (by omega) (by omega)).mpr (by omega))]
  rfl
section MWho
variable {C P : kw_H} {sc : Nat → Int32} {ar : Nat → Nat → Int32} {f : Nat → Int32} {T : Tw}
theorem m_turnedSo (hC : C.length = 38) (hA : tA f 0 T) (hT : tReal T) {k r fr w kd : Nat} (hk : k < T 2) (hr : r < 8) (hx : fr + w ≤ 40) (hw : w ≤ 12) (hkd : 1 ≤ kd ∧ kd ≤ 5) {it : Nat → Int32} (hit : ∀ i, i < w → ar 4 (40 * r + fr + i) = it i) : ∃ f', X12_isTurnedSo_F (hR C sc ar P f) 38 (nI k) (nI kd) (nI r) (nI fr) (nI w) = some (nI (b2 (q_al (hF (tKd T k kd) it) w)), hR C sc ar P f') ∧ ∀ k, k < 1782 → f' k = f k := by
  have h999 := hT.2
  have h2 := hT.1.2.2.1
  have hTk := tKd_real hT (k := k) hkd (by omega)
  have h3 : tKd T k kd 3 = T 3 := up_ne _ _ (by omega)
  obtain ⟨f0, c1, c2, c3⟩ := m_layTried (C := C) (P := P) (sc := sc) (ar := ar) hC hA hT.1 (n := 0) (by omega) (by omega)
  have c2 : tA f0 1782 T := c2
  have a0 : tA (upd f0 (1804 + k) (nI kd)) 1782 (tKd T k kd) := fun q hq => by
    unfold tKd
    by_cases e : q = 22 + k
    · rw [show 1782 + q = 1804 + k by omega, pk_us, e, up_at]
    · rw [pk_un (by omega), up_ne _ _ e]; exact c2 q hq
  obtain ⟨F, q0, q1, q2⟩ := m_weeks (C := C) (P := P) (sc := sc) (ar := ar) hC (b := 1782) (by omega) a0 hTk.1 (w + 1) (by rw [h3]; omega)
  have hk2 : ∀ i, i ≤ w + 1 → ∀ q, q < 1782 → F i q = f q := fun i hi q hq => by rw [(q1 i hi).2 q (by omega), pk_un (by omega)]; exact c3 q hq
  have hres : ∃ i, i ≤ w + 1 ∧ ((List.range w).findSome? (fun i => if (!hF (tKd T k kd) it i) = true then some (nI 0, hR C sc ar P (F (i + 1))) else none)).getD (nI 1, hR C sc ar P (F w)) = (nI (b2 (q_al (hF (tKd T k kd) it) w)), hR C sc ar P (F i)) := by
    have key : ∀ l : List Nat, (∀ x, x ∈ l → x < w) → ∃ i, i ≤ w + 1 ∧ (l.findSome? (fun i => if (!hF (tKd T k kd) it i) = true then some (nI 0, hR C sc ar P (F (i + 1))) else none)).getD (nI 1, hR C sc ar P (F w)) = (nI (b2 (l.all (hF (tKd T k kd) it))), hR C sc ar P (F i)) := by
      intro l
      induction l with
      | nil => intro _; exact ⟨w, by omega, rfl⟩
      | cons x l ih =>
        intro hl
        rw [List.findSome?_cons, List.all_cons]
        cases hx : hF (tKd T k kd) it x with
        | false => exact ⟨x + 1, by have := hl x (List.mem_cons_self ..); omega, rfl⟩
        | true =>
          rw [Bool.true_and]
          exact ih (fun y hy => hl y (List.mem_cons_of_mem _ hy))
    obtain ⟨i, h1, h2⟩ := key (List.range w) (fun x hx => List.mem_range.mp hx)
    rw [all_al] at h2
    exact ⟨i, h1, h2⟩
  obtain ⟨i, hiw, hres⟩ := hres
  refine ⟨F i, ?_, hk2 i hiw⟩
  unfold X12_isTurnedSo_F
  rw [r_ob hC, Option.bind_some, c1, Option.bind_some, r_r0 hC, Option.bind_some, nI_add, r_st hC (by omega), Option.bind_some, ← q0, ← hres]
  refine lp_find (b := X12_isTurnedSo_B19 38 (nI r) (nI fr) (nI w)) (fun i => (nI i, hR C sc ar P (F i))) w (fun i => if (!hF (tKd T k kd) it i) = true then some (nI 0, hR C sc ar P (F (i + 1))) else none) (nI 1, hR C sc ar P (F w)) (fun i hi => ?_) ?_ 2000 (by omega)
  · have e4 : F (i + 1) 1786 = nI (tBn (tKd T k kd) (i + 1)) := by
      rw [← tWn_4 hTk.1]
      exact (q1 (i + 1) (by omega)).1 4 (by omega)
    show X12_isTurnedSo_b19 _ _ _ _ _ _ = _
    unfold X12_isTurnedSo_b19
    rw [if_neg (fun z => by have := (q_le (show w < 2147483648 by omega) (show i < 2147483648 by omega)).mp z; omega), r_ob hC, Option.bind_some, q2 i (by omega), Option.bind_some, r_r0 hC, Option.bind_some, r_ld hC (by omega), Option.bind_some, e4, r_r6 hC, Option.bind_some, q_mul, nI_add, nI_add, r_ld4 hC (by omega), Option.bind_some, hit i hi, nI_add]
    unfold hF
    by_cases e : nI (tBn (tKd T k kd) (i + 1)) = it i
    · rw [if_pos e, decide_eq_true e]
      rfl
    · rw [if_neg e, decide_eq_false e]
      rfl
  · show X12_isTurnedSo_b19 _ _ _ _ _ _ = _
    unfold X12_isTurnedSo_b19
    rw [if_pos ((q_le (by omega) (by omega)).mpr (Nat.le_refl _))]
    rfl
theorem m_who (hC : C.length = 38) (hA : tA (ar 0) 0 T) (hT : tReal T) {k r fr w : Nat} (hk : k < T 2) (hr : r < 8) (hx : fr + w ≤ 40) (hw : w ≤ 12) {it : Nat → Int32} (hit : ∀ i, i < w → ar 4 (40 * r + fr + i) = it i) : ∃ f', kp_lp (X12_who_B55 38 (nI k) (nI r) (nI fr) (nI w)) 2000 (nI 0, nI 1, hM C sc ar P) = some (nI (hB T k it w 5), hR C (upd sc 10 (nI 0)) ar P f') ∧ ∀ k, k < 1782 → f' k = ar 0 k := by
  obtain ⟨F, F0, F1, F2⟩ := chain (α := Nat → Int32) (P := fun _ x => ∀ k, k < 1782 → x k = ar 0 k) (R := fun t x y => X12_isTurnedSo_F (hR C sc ar P x) 38 (nI k) (nI (t + 1)) (nI r) (nI fr) (nI w) = some (nI (b2 (q_al (hF (tKd T k (t + 1)) it) w)), hR C sc ar P y)) (x0 := ar 0) (fun _ _ => rfl) 5 (fun t x ht hx' => by
    obtain ⟨y, p1, p2⟩ := m_turnedSo (C := C) (P := P) (sc := sc) (ar := ar) (f := x) hC (fun k hk => by rw [hx' _ (by omega)]; exact hA k hk) hT hk hr hx hw (kd := t + 1) (by omega) hit
    exact ⟨y, p1, fun k hk => (p2 k hk).trans (hx' k hk)⟩)
  refine ⟨F 5, ?_, F1 5 (Nat.le_refl _)⟩
  rw [hR_self, ← F0]
  refine lp_for (fun t => (nI (hB T k it w t), nI (t + 1), hR C sc ar P (F t))) 5 _ (fun t ht => ?_) ?_ 2000 (by omega)
  · have hbl := hB_lt (T := T) (k := k) (it := it) (w := w) (n := t) (by omega)
    have o1 := (q_sh0 _ hbl 0 (by omega)).1
    have o2 := q_or hbl (show t + 1 < 6 by omega)
    show X12_who_b55 _ _ _ _ _ _ _ _ = some (Sum.inl (nI (if q_al (hF (tKd T k (t + 1)) it) w = true then hB T k it w t ||| 2 ^ (t + 1) else hB T k it w t), nI (t + 1 + 1), hR C sc ar P (F (t + 1))))
    unfold X12_who_b55 X12_who_J86
    rw [if_neg (fun z => by have := (q_le (show 6 < 2147483648 by decide) (show t + 1 < 2147483648 by omega)).mp z; omega), r_ob hC, Option.bind_some, F2 t ht, Option.bind_some, o1, o2, nI_add]
    cases q_al (hF (tKd T k (t + 1)) it) w
    · rw [if_pos (show nI (b2 false) = 0 from e00)]
      rfl
    · rw [if_neg (show ¬ nI (b2 true) = 0 from e10)]
      rfl
  · have ew : X12_well_F (hR C sc ar P (F 5)) 38 (nI (hB T k it w 5)) = some (nI (hB T k it w 5), hR C (upd sc 10 (nI 0)) ar P (F 5)) := m_well hC _
    show X12_who_b55 _ _ _ _ _ _ _ _ = _
    unfold X12_who_b55 X12_who_J95
    rw [if_pos ((q_le (by omega) (by omega)).mpr (by omega)), r_ob hC, Option.bind_some]
    show ((X12_well_F (hR C sc ar P (F 5)) 38 (nI (hB T k it w 5))).bind fun r5 => some (r5.1, r5.2)).map _ = _
    rw [ew]
    rfl
theorem who_me (hC : C.length = 38) {k r w c : Nat} {a3 : Int32} (b3 : X12_isTurner_F (hM C sc ar P) 38 (nI k) = some (nI 1)) (r2 : ∀ hp, X12_isRow_F hp (nI r) = some (nI 1)) (w1 : ∀ hp, X11_within_F hp (nI w) (nI 1) (nI 12) = some (nI 1)) (hc : ¬ (-1000010) - nI c = 0) (f2 : X12_noItems_F (hM C sc ar P) 38 (nI r) a3 (nI w) = some ((-1000010) - nI c, hM C (upd sc 10 (nI c)) ar P)) : X12_who_F (hM C sc ar P) 38 (nI k) (nI r) a3 (nI w) = some ((-1000010) - nI c, hM C (upd sc 10 (nI c)) ar P) := by
  unfold X12_who_F
  rw [m_ob hC, Option.bind_some, b3, Option.bind_some, if_neg e10, r2, Option.bind_some, if_neg e10, l_n 1 (by decide), l_n 12 (by decide), l_in, w1, Option.bind_some, if_neg e10, Option.bind_some, f2, Option.bind_some]
  exact if_neg hc
theorem who_mo {R : Int32 × kw_H} (hC : C.length = 38) {k r w : Nat} {a3 : Int32} (b3 : X12_isTurner_F (hM C sc ar P) 38 (nI k) = some (nI 1)) (r2 : ∀ hp, X12_isRow_F hp (nI r) = some (nI 1)) (w1 : ∀ hp, X11_within_F hp (nI w) (nI 1) (nI 12) = some (nI 1)) (f2 : X12_noItems_F (hM C sc ar P) 38 (nI r) a3 (nI w) = some (nI 0, hM C sc ar P)) (m1 : kp_lp (X12_who_B55 38 (nI k) (nI r) a3 (nI w)) 2000 (nI 0, nI 1, hM C sc ar P) = some R) : X12_who_F (hM C sc ar P) 38 (nI k) (nI r) a3 (nI w) = some R := by
  unfold X12_who_F
  rw [m_ob hC, Option.bind_some, b3, Option.bind_some, if_neg e10, r2, Option.bind_some, if_neg e10, l_n 1 (by decide), l_n 12 (by decide), l_in, w1, Option.bind_some, if_neg e10, Option.bind_some, f2, Option.bind_some]
  rw [show (if (nI 0, hM C sc ar P).1 = 0 then kp_lp (X12_who_B55 38 (nI k) (nI r) a3 (nI w)) 2000 (nI 0, nI 1, (nI 0, hM C sc ar P).2) else some ((nI 0, hM C sc ar P).1, (nI 0, hM C sc ar P).2)) = kp_lp (X12_who_B55 38 (nI k) (nI r) a3 (nI w)) 2000 (nI 0, nI 1, hM C sc ar P) from if_pos e00]
  exact m1
end MWho
theorem ag_who : lx_ag_who Inv := by
  intro j hp h hj a1 a2 a3 a4
  have hM0 := Inv_M h
  have hS := Inv_S _ _ h
  obtain ⟨ks, ka, kl, kr, sc, ar, T, n, o, A, h⟩ := h
  obtain ⟨C, P, hC, rfl⟩ := MV_ex h.2.1
  have hKB := h.2.2.2.2.2.2.2.1.1
  obtain ⟨⟨v, nm, jb, tu, tm, k1, k2, k3, k4⟩, hA, hT0⟩ := id h.2.2.2.2.2.2.2.1
  rcases turn_sp hC k1 k2 k3 hA (hT0.imp (·.1) (·.1)) a1 with ⟨k, a, rfl, hk, hT, b1, b2', b3⟩ | ⟨b1, b3⟩
  case inr =>
    refine ⟨-1000001, _, _, ?_, hM0, ?_, hS⟩
    · unfold X11_who_F
      simp only [c0_r2 h.1, kc_ob k1, Option.bind_some, b1, kp_nu]
    · unfold X12_who_F
      simp only [m_ob hC, Option.bind_some, b3, if_pos e00]
  rcases row_sp a2 with ⟨r, hr, rfl, r1, r2⟩ | ⟨r1, r2⟩
  case inr =>
    refine ⟨-1000001, _, _, ?_, hM0, ?_, hS⟩
    · unfold X11_who_F
      simp only [c0_r2 h.1, kc_ob k1, Option.bind_some, b1, kp_nu, r1, if_pos e00]
    · unfold X12_who_F
      simp only [m_ob hC, Option.bind_some, b3, if_neg e10, r2, if_pos e00]
  rcases w_spN a4 (a := 1) (b := 12) (by decide) (by decide) with ⟨w, rfl, hw0, hw, w1⟩ | w1
  case inr =>
    refine ⟨-1000001, _, _, ?_, hM0, ?_, hS⟩
    · unfold X11_who_F
      simp only [c0_r2 h.1, kc_ob k1, Option.bind_some, b1, kp_nu, r1, if_neg e10, w1, if_pos e00]
    · unfold X12_who_F
      simp only [m_ob hC, Option.bind_some, b3, if_neg e10, r2, l_n 1 (by decide), l_n 12 (by decide), l_in, w1, if_pos e00]
  rcases span_sp h hr ⟨hw0, hw⟩ a3 with ⟨c, hc, f1, f2⟩ | ⟨fr, m, rfl, hx, hm, hs, f1, f2⟩
  · obtain ⟨C2, P2, hC2, g1, g2⟩ := IV_fin h (nI c)
    have hc0 := fd_ne0 hc
    have hc1 := fd_ne1 hc
    refine ⟨(-1000010) - nI c, hM C2 sc ar P2, hM C2 (upd sc 10 (nI c)) ar P2, ?_, hM_38 hC2, who_me hC2 (m_isTurner hC2 hA hT.1 hk) r2 w1 hc1 (f2 C2 P2 hC2), g2⟩
    unfold X11_who_F
    rw [c0_r2 h.1, Option.bind_some, kc_ob k1, Option.bind_some, b1, Option.bind_some]
    simp only [kp_nu]
    rw [r1, Option.bind_some, if_neg e10, w1, Option.bind_some, if_neg e10, c0_r0 h.1, Option.bind_some, c1_ob h.1, Option.bind_some, f1, Option.bind_some, if_neg hc0, c0_ob h.1, Option.bind_some, g1]
    rfl
  · have hlen := IV_len h.2.2.1 (by omega)
    have h47 := hM_47 (P := P) (sc := sc) (ar := ar) hC
    have h24 := hT.1.2.2.1
    obtain ⟨H, z1, z2, z3, z4⟩ := KB_become (CV_KC26 h.1) hKB hT.1.sm (by omega)
    obtain ⟨v2, nm2, jb2, tu2, tm2, y1, y2, -, -⟩ := id z2
    have cvH := CV_tri h.1 y1 z4
    obtain ⟨hp1, e1, e2, e3, ks1, ka1, kl1, kr1, cv10⟩ := c_who h.1 cvH z2 (fun q hq => z4 q (by omega)) z3 h47 (by omega) hT hk b2' hr hm hs hx hw
    have cv1 := CV_mixb h.1 cv10 (fun q hq => e3 q (by omega))
    obtain ⟨hp2, g1, g2, g3, g4⟩ := k_unf cv1 (nI (hB T k (fun i => ka (3 + r) (fr + i)) w 5))
    have w3 : X11_within_F (hM C sc ar P) (nI k) (nI 0) (nI 3) = some (nI 1) := by rw [c_within, if_pos ⟨(q_le (by omega) (by omega)).mpr (by omega), (q_le (by omega) (by omega)).mpr (by omega)⟩]
    have ek : X1_kindsSeen_F (hM C sc ar P) 25 20 (nI k) 1 (nI r) (nI fr) (nI w) = some (nI (hB T k (fun i => ka (3 + r) (fr + i)) w 5), hp1) := by
      unfold X1_kindsSeen_F
      rw [kc_ob k1, Option.bind_some, b1, Option.bind_some]
      simp only [kp_nu]
      rw [w3, Option.bind_some, if_neg e10, c25_r0 h.1, Option.bind_some, kc_ob (CV_KC26 h.1), Option.bind_some, z1, Option.bind_some]
      exact e1
    have eC : X11_who_F (hM C sc ar P) 0 (nI k) (nI r) (nI fr) (nI w) = some (nI (hB T k (fun i => ka (3 + r) (fr + i)) w 5), hp2) := by
      unfold X11_who_F
      rw [c0_r2 h.1, Option.bind_some, kc_ob k1, Option.bind_some, b1, Option.bind_some]
      simp only [kp_nu]
      rw [r1, Option.bind_some, if_neg e10, w1, Option.bind_some, if_neg e10, c0_r0 h.1, Option.bind_some, c1_ob h.1, Option.bind_some, f1, Option.bind_some, if_pos e00, c0_r3 h.1, Option.bind_some, Option.bind_some, Option.bind_some, c25_ob h.1, Option.bind_some, ek, Option.bind_some, c0_ob cv1, Option.bind_some, g1]
      rfl
    have F2 : ∀ q, ¬ (q = 0 ∨ (26 ≤ q ∧ q < 34) ∨ (hM C sc ar P).length ≤ q) → hp2[q]? = (hM C sc ar P)[q]? := fun q hq => by rw [g4 q (by omega), e3 q (by omega)]
    have N2 : ∀ q, (q = 0 ∨ (26 ≤ q ∧ q < 34) ∨ (hM C sc ar P).length ≤ q) → NT (hM C sc ar P) q := fun q hq => by
      by_cases z : q < 38
      · exact CV_NT h.1 z
      · intro ci fs e
        rw [List.getElem?_eq_none (by omega)] at e
        cases e
    obtain ⟨B, ci, mi, ii, hAr⟩ := IV_split h
    have ci2 := CI_fr (X := fun q => q = 0 ∨ (26 ≤ q ∧ q < 34) ∨ (hM C sc ar P).length ≤ q) ci g2 F2 N2 (fun k hk => by omega) (fun i b hi hb kk hkk => by
      obtain ⟨o1, v3, n3, j3, t3, m3, o2⟩ := ci.2.2.2.2.1.1 i b hi hb
      have := KC_lt o2
      omega) rfl rfl ci.2.2.2.2.2 rfl rfl
    have mv2 : MV hp2 sc ar := fun q hq => by rw [F2 _ (by omega)]; exact h.2.1 q hq
    have hl2 : I_len hp2 kr (j + 1) := by have := h.2.2.1; unfold I_len at *; omega
    obtain ⟨C2, P2, hC2, rfl⟩ := MV_ex mv2
    obtain ⟨f', m1, m2⟩ := m_who (C := C2) (P := P2) (sc := sc) (w := w) (fr := fr) hC2 hA hT hk hr (by omega) hw (it := fun i => ka (3 + r) (fr + i)) (fun i hi => by
      rw [Nat.add_assoc]
      exact (h.2.2.2.1 r hr).2.2.2.2 (fr + i) (by omega))
    obtain ⟨m5, y1', y2', y3', y4'⟩ := h.2.2.2.2.1
    obtain ⟨⟨m7, w1', w2', w3', w4'⟩, x1', x2', x3', x4'⟩ := h.2.2.2.2.2.2.1
    refine ⟨nI (hB T k (fun i => ka (3 + r) (fr + i)) w 5), hM C2 sc ar P2, hR C2 (upd sc 10 (nI 0)) ar P2 f', eC, hM_38 hC2, who_mo hC2 (m_isTurner hC2 hA hT.1 hk) r2 w1 (f2 C2 P2 hC2) m1, ⟨_, _, _, _, _, _, _, _, _, _, IV_join (CI_hM hC2 ci2) (hM_MV hC2) ?_ (fun q hq => ?_) ⟨m5, y1', y2', y3', y4'⟩ ⟨h.2.2.2.2.2.1.1, rfl⟩ ⟨⟨m7, w1', w2', w3', w4'⟩, x1', x2', x3', x4'⟩ ⟨fun q hq => ?_, mi.2.1, fun i hi q hq => ?_⟩ (II_cg ii rfl rfl (fun q h1 h2 => m2 q h2)) hAr (Or.inl ⟨hT, ?_⟩) h.2.2.2.2.2.2.2.2.1.2.2.2.2.2.1⟩⟩
    · unfold I_len at *
      show (hM C2 _ _ P2).length ≤ _
      rw [hM_len (sc' := sc) (ar' := ar)]
      exact hl2
    · have := h.2.2.2.1 q hq
      show ar 3 q = ka 12 q ∧ ar 2 q = ka 11 q ∧ (ka 12 q = (-1) ∨ ∃ n, n ≤ 40 ∧ ka 12 q = nI n) ∧ (∃ l, l ≤ 2 ∧ ka 11 q = nI l) ∧ ∀ i, i < 40 → ar 4 (40 * q + i) = (if 26 ≤ 3 + q ∧ 3 + q < 34 then ka1 (3 + q) else ka (3 + q)) i
      rw [if_neg (by omega)]
      exact this
    · show f' (0 + q) = _
      rw [m2 _ (by omega)]
      exact hA q hq
    · show f' _ = _
      have := ci.2.2.1.1
      rw [m2 _ (by omega)]
      exact mi.2.2 i hi q hq
    · rcases hT0 with ⟨-, z⟩ | ⟨z, -⟩
      · exact z
      · exfalso
        have := hT.1.1
        rw [z] at this
        exact absurd this.1 (by decide)
