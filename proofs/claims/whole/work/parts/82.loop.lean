/-! ===== the law's loop, and its start ===== -/
theorem lcL_7 : Cond.classLink RL 7 RX11 ∈ kw_T := kw_in 82 (by decide +kernel) rfl
theorem lcL_10 : Cond.classLink RL 10 RX12 ∈ kw_T := kw_in 923 (by decide +kernel) rfl
theorem llL_9 : Cond.methodLink RL 9 yX11_init ∈ kw_T := kw_in 84 (by decide +kernel) rfl
theorem llL_12 : Cond.methodLink RL 12 yX12_init ∈ kw_T := kw_in 925 (by decide +kernel) rfl
theorem iaX11 : Cond.instantiable RX11 11 ∈ kw_T := kw_in 83 (by decide +kernel) rfl
theorem imX11_init : Cond.instanceMethod yX11_init ∈ kw_T := kw_in 85 (by decide +kernel) rfl
theorem cdX11_init : Cond.code mX11_init.1 mX11_init.2.1 mX11_init.2.2.1 mX11_init.2.2.2.1 ∈ kw_T := kw_in 86 (by decide +kernel) rfl
theorem lbX11_init : lx_cb mX11_init 0 := ⟨cdX11_init, in_X11, ⟨by decide +kernel, by decide +kernel, by decide +kernel⟩, by decide, by decide⟩
theorem dfX11 (G : kw_G) : ∀ j, j < 11 → defaultValue (tyX11 j) = vp_V (([.null, .null, .null, .null, .null, .null, .null, .int 0, .int 0, .int 0, .int 0] : List Value).map (kw_v G.2.1)) j := by
  intro j hj
  rcases (show j = 0 ∨ j = 1 ∨ j = 2 ∨ j = 3 ∨ j = 4 ∨ j = 5 ∨ j = 6 ∨ j = 7 ∨ j = 8 ∨ j = 9 ∨ j = 10 by omega) with rfl | rfl | rfl | rfl | rfl | rfl | rfl | rfl | rfl | rfl | rfl <;> rfl
theorem iaX12 : Cond.instantiable RX12 17 ∈ kw_T := kw_in 924 (by decide +kernel) rfl
theorem imX12_init : Cond.instanceMethod yX12_init ∈ kw_T := kw_in 926 (by decide +kernel) rfl
theorem cdX12_init : Cond.code mX12_init.1 mX12_init.2.1 mX12_init.2.2.1 mX12_init.2.2.2.1 ∈ kw_T := kw_in 927 (by decide +kernel) rfl
theorem lbX12_init : lx_cb mX12_init 0 := ⟨cdX12_init, in_X12, ⟨by decide +kernel, by decide +kernel, by decide +kernel⟩, by decide, by decide⟩
theorem dfX12 (G : kw_G) : ∀ j, j < 17 → defaultValue (tyX12 j) = vp_V (([.null, .int 0, .int 0, .null, .null, .null, .null, .null, .int 0, .int 0, .int 0, .null, .int 0, .int 0, .int 0, .int 0, .null] : List Value).map (kw_v G.2.1)) j := by
  intro j hj
  rcases (show j = 0 ∨ j = 1 ∨ j = 2 ∨ j = 3 ∨ j = 4 ∨ j = 5 ∨ j = 6 ∨ j = 7 ∨ j = 8 ∨ j = 9 ∨ j = 10 ∨ j = 11 ∨ j = 12 ∨ j = 13 ∨ j = 14 ∨ j = 15 ∨ j = 16 by omega) with rfl | rfl | rfl | rfl | rfl | rfl | rfl | rfl | rfl | rfl | rfl | rfl | rfl | rfl | rfl | rfl | rfl <;> rfl
set_option maxRecDepth 100000 in
set_option maxHeartbeats 4000000 in
theorem lx_loop {G : kw_G} {p : Program} {e : Env} {s : State} {m : MethodId} {below : List Frame} {meth : Method} {c : Code} {b L : Nat} {xs : Nat → Int32} (Inv : Nat → kw_H → Prop) (hO : ∀ j hp, Inv j hp → ∃ fs, hp[0]? = some (.inr (10, fs))) (hsk : ∀ j hp, Inv j hp → Inv (j + 1) hp) (hA : lx_AG Inv) (hC : lx_C G p s m #[Value.ref b] c) (hrt : meth.sig.returnType = ret) (hlk : meth.locks = false) (hX : va_X b L xs s s.heap) (hbl : b < s.heap.size) (hL : L ≤ 384) : ∀ (n j i : Nat), i = 6 * j → i ≤ 400 → L + 6 < i + n → ∀ (hp : kw_H) (H : Heap) (locs : List Loc) (ls : Array Slot), Inv j hp → kw_R G hp H → va_S (fun q => G.2.1 ≤ q) s.heap H locs → lv_has ls 4 [(0, .ref b), (1, .ref (G.2.1 + 0)), (2, .ref (G.2.1 + 38)), (3, .int (nI i))] → W p G.1 e room_1 s m #[Value.ref b] below meth c H locs (Array.size H - s.heap.size) (1848 * (Array.size H - s.heap.size)) (lw_Z below #[Value.ref b] s) (F0 m 18 ls [])
  | n, j, i, hij, hi4, hn, hp, H, locs, ls, hI, hR, hS, hl => by
    obtain ⟨hx, hb, hml, hown, hts, hZ, hN⟩ := id hC
    refine lv_iload_n hx hb dL_law_18 rfl (lv_at hl 3 rfl) ?_
    refine lv_aload_n hx hb dL_law_19 rfl (lv_at hl 0 rfl) ?_
    refine va_slen hx hb hX hbl (by omega) hS dL_law_20 ?_
    refine lv_bipush (v := nI 6) hx hb dL_law_21 (by decide) ?_
    refine lv_isub hx hb dL_law_23 ?_
    refine lv_icmp_gt (tgt := 1398) hx hb dL_law_24 (by decide) (fun _ => ?_) (fun hc => ?_)
    · refine lv_iconst (v := 1) hx hb dL_law_1398 (by decide) ?_
      have h1 := hR.1
      have h2 := hR.2.1
      refine va_forget (fun q hq => ?_) ?_
      · have h3 := hS.2.2 q hq
        omega
      · exact W.widen (by omega) (by omega) (lw_ret hx hb hrt hlk dL_law_1399)
    · have hi6 : i + 6 ≤ L := by
        apply Nat.le_of_not_lt
        intro hlt
        apply hc
        rw [Int32.lt_iff_toInt_lt]
        rw [show Int32.ofNat L = nI L from rfl, pk_sub_toInt (by omega) (by omega), nI_toInt (by omega)]
        omega
      obtain ⟨n', rfl⟩ : ∃ n', n = n' + 6 := ⟨n - 6, by omega⟩
      refine lv_aload_n hx hb dL_law_27 rfl (lv_at hl 0 rfl) ?_
      refine lv_iload_n hx hb dL_law_28 rfl (lv_at hl 3 rfl) ?_
      have hin : vp_in (nI i) L := vp_in_nI (by omega) (by omega)
      refine va_sld hx hb hX hbl (by omega) hS hin dL_law_29 ?_
      refine lv_bipush (v := nI 63) hx hb dL_law_30 (by decide) ?_
      refine lv_iand hx hb dL_law_32 ?_
      refine lx_switch Inv hO hsk hA hC hX hbl hi6 hL hI (by omega) hR hS hl (fun hp2 H2 locs2 hI2 hR2 hS2 => ?_)
      refine lv_iinc (v := nI (i + 6)) (lv' := [(3, .int (nI (i + 6))), (0, .ref b), (1, .ref (G.2.1 + 0)), (2, .ref (G.2.1 + 38))]) hx hb dL_law_1392 hl (k := 3) rfl (by rw [← nI_add]; congr 1) (by decide) rfl (fun ls2 hl2 => ?_)
      refine lv_goto (tgt := 18) hx hb dL_law_1395 (by decide) ?_
      exact lx_loop Inv hO hsk hA hC hrt hlk hX hbl hL n' (j + 1) (i + 6) (by omega) (by omega) (by omega) hp2 H2 locs2 ls2 hI2 hR2 hS2 (lv_sub hl2 [1, 2, 3, 0] rfl)
  termination_by n => n
  decreasing_by omega
/-- the start of both: the class at 0, the reference at 38 -/
def lx_init (Inv : Nat → kw_H → Prop) : Prop := ∃ hp1 hp2 : kw_H, X11_init_F [.inr (10, [.null, .null, .null, .null, .null, .null, .null, .int 0, .int 0, .int 0, .int 0])] 0 = some hp1 ∧ hp1.length = 38 ∧ X12_init_F (hp1 ++ [.inr (11, [.null, .int 0, .int 0, .null, .null, .null, .null, .null, .int 0, .int 0, .int 0, .null, .int 0, .int 0, .int 0, .int 0, .null])]) 38 = some hp2 ∧ Inv 0 hp2
set_option maxRecDepth 100000 in
set_option maxHeartbeats 4000000 in
theorem lx_whole (Inv : Nat → kw_H → Prop) (h0 : lx_init Inv) (hO : ∀ j hp, Inv j hp → ∃ fs, hp[0]? = some (.inr (10, fs))) (hsk : ∀ j hp, Inv j hp → Inv (j + 1) hp) (hA : lx_AG Inv) {p : Program} {e : Env} {s : State} {m : MethodId} {below : List Frame} {meth : Method} {c : Code} {b L : Nat} {xs : Nat → Int32} (l : Launch) (hL : L ≤ 384) (C0 : lw_At p s m meth c b L xs) : W p l e room_1 s m #[Value.ref b] below meth c s.heap [] 0 0 (lw_Z below #[Value.ref b] s) (entryFrame m ([Value.ref b] : List Value).toArray 4) := by
  obtain ⟨hx, hb, hr, hml, hown, hts, hX, hbl, hlocks, hgv⟩ := id C0
  obtain ⟨D, C, hZ⟩ := lx_start l hts hgv
  obtain ⟨hp1, hp2, g1, g2, g3, g4⟩ := h0
  obtain ⟨G, hG⟩ : ∃ G : kw_G, G = (l, s.heap.size, D, C) := ⟨_, rfl⟩
  have hl0 : l = G.1 := by rw [hG]
  have hN : s.heap.size = G.2.1 := by rw [hG]
  rw [← hG] at hZ
  clear hG
  subst hl0
  have hC : lx_C G p s m #[Value.ref b] c := ⟨hx, hb, hml, hown, fun w hw => hts w (List.mem_filter.mp hw).1, hZ, hN⟩
  have hR0 : kw_R G [] s.heap := ⟨hN, Nat.zero_le _, fun k q h => by simp [kw_w] at h⟩
  have hS0 : va_S (fun q => G.2.1 ≤ q) s.heap s.heap [] := va_S.rf
  have hl := lv_entry ([.ref b]) (n := 4) (Nat.le_of_ble_eq_true rfl)
  rw [lg_entry_eq]
  generalize (lg_sl ([.ref b]) ++ List.replicate (4 - (lg_sl ([.ref b])).length) Slot.unset).toArray = ls at hl ⊢
  have hl : lv_has ls 4 [(0, .ref b)] := hl
  have key : W p G.1 e room_1 s m #[Value.ref b] below meth c s.heap [] (Array.size s.heap - s.heap.size) (1848 * (Array.size s.heap - s.heap.size)) (lw_Z below #[Value.ref b] s) (F0 m 0 ls []) := by
    refine lx_new kcX11 tyX11_ok (by decide) dfX11 lcL_7 iaX11 in_X11 dL_law_0 (by decide) hC hR0 hS0 (fun H1 hR1 hS1 => ?_)
    refine lv_dup hx hb dL_law_3 rfl ?_
    refine lx_callI (a := 0) (rest := [.ref (G.2.1 + 0)]) lbX11_init rfl rfl llL_9 imX11_init rfl (Nat.le_of_ble_eq_true rfl) dL_law_4 (X11_init_c G _ 0 _ g1) hC hR1 hS1 hl.1 (fun rv hh H2 locs2 hq hR2 hS2 => ?_)
    obtain ⟨hq1, hq2⟩ := hq
    subst hq1
    rw [hq2] at hR2
    clear hq2
    show W p G.1 e room_1 s m #[Value.ref b] below meth c H2 locs2 (Array.size H2 - s.heap.size) (1848 * (Array.size H2 - s.heap.size)) (lw_Z below #[Value.ref b] s) (F0 m 7 ls [.ref (G.2.1 + 0)])
    refine lv_astore_n (lv' := [(1, .ref (G.2.1 + 0)), (0, .ref b)]) hx hb dL_law_7 rfl hl (by decide) rfl (fun ls2 hl2 => ?_)
    refine lx_new kcX12 tyX12_ok (by decide) dfX12 lcL_10 iaX12 in_X12 dL_law_8 (by omega) hC hR2 hS2 (fun H3 hR3 hS3 => ?_)
    rw [g2]
    refine lv_dup hx hb dL_law_11 rfl ?_
    refine lx_callI (a := 38) (rest := [.ref (G.2.1 + 38)]) lbX12_init rfl rfl llL_12 imX12_init rfl (Nat.le_of_ble_eq_true rfl) dL_law_12 (X12_init_c G _ 38 _ g3) hC hR3 hS3 hl2.1 (fun rv hh H4 locs4 hq hR4 hS4 => ?_)
    obtain ⟨hq1, hq2⟩ := hq
    subst hq1
    rw [hq2] at hR4
    clear hq2
    show W p G.1 e room_1 s m #[Value.ref b] below meth c H4 locs4 (Array.size H4 - s.heap.size) (1848 * (Array.size H4 - s.heap.size)) (lw_Z below #[Value.ref b] s) (F0 m 15 ls2 [.ref (G.2.1 + 38)])
    refine lv_astore_n (lv' := [(2, .ref (G.2.1 + 38)), (1, .ref (G.2.1 + 0)), (0, .ref b)]) hx hb dL_law_15 rfl hl2 (by decide) rfl (fun ls3 hl3 => ?_)
    refine lv_iconst (v := nI 0) hx hb dL_law_16 (by decide) ?_
    refine lv_istore_n (lv' := [(3, .int (nI 0)), (2, .ref (G.2.1 + 38)), (1, .ref (G.2.1 + 0)), (0, .ref b)]) hx hb dL_law_17 rfl hl3 (by decide) rfl (fun ls4 hl4 => ?_)
    exact lx_loop Inv hO hsk hA hC hr hlocks hX hbl hL (L + 7) 0 0 rfl (by omega) (by omega) hp2 H4 locs4 ls4 g4 hR4 hS4 (lv_sub hl4 [3, 2, 1, 0] rfl)
  have e0 : Array.size s.heap - s.heap.size = 0 := Nat.sub_self _
  rw [e0] at key
  exact key
