section KwRows
variable {G : kw_G} {md : kw_M} {pc : Nat} {L : List (Option Value)} {S : List Value} {hp : kw_H} {Q : Option Value → kw_H → Prop}
theorem kw_iadd {x y : Int32} (d : decode md.2.1 pc = .ok (.iadd, 1)) (k : kw_V G md (pc + 1) L (.int (x + y) :: S) hp Q) : kw_V G md pc L (.int y :: .int x :: S) hp Q := by
  intro n0 p e s m args below meth c H locs ls hC hn hR hS hl
  exact lv_iadd hC.1 hC.2.1 d (k n0 p e s m args below meth c H locs ls hC hn hR hS hl)
theorem kw_isub {x y : Int32} (d : decode md.2.1 pc = .ok (.isub, 1)) (k : kw_V G md (pc + 1) L (.int (x - y) :: S) hp Q) : kw_V G md pc L (.int y :: .int x :: S) hp Q := by
  intro n0 p e s m args below meth c H locs ls hC hn hR hS hl
  exact lv_isub hC.1 hC.2.1 d (k n0 p e s m args below meth c H locs ls hC hn hR hS hl)
theorem kw_imul {x y : Int32} (d : decode md.2.1 pc = .ok (.imul, 1)) (k : kw_V G md (pc + 1) L (.int (x * y) :: S) hp Q) : kw_V G md pc L (.int y :: .int x :: S) hp Q := by
  intro n0 p e s m args below meth c H locs ls hC hn hR hS hl
  exact lv_imul hC.1 hC.2.1 d (k n0 p e s m args below meth c H locs ls hC hn hR hS hl)
theorem kw_iand {x y : Int32} (d : decode md.2.1 pc = .ok (.iand, 1)) (k : kw_V G md (pc + 1) L (.int (x &&& y) :: S) hp Q) : kw_V G md pc L (.int y :: .int x :: S) hp Q := by
  intro n0 p e s m args below meth c H locs ls hC hn hR hS hl
  exact lv_iand hC.1 hC.2.1 d (k n0 p e s m args below meth c H locs ls hC hn hR hS hl)
theorem kw_ior {x y : Int32} (d : decode md.2.1 pc = .ok (.ior, 1)) (k : kw_V G md (pc + 1) L (.int (x ||| y) :: S) hp Q) : kw_V G md pc L (.int y :: .int x :: S) hp Q := by
  intro n0 p e s m args below meth c H locs ls hC hn hR hS hl
  exact lv_ior hC.1 hC.2.1 d (k n0 p e s m args below meth c H locs ls hC hn hR hS hl)
theorem kw_ixor {x y : Int32} (d : decode md.2.1 pc = .ok (.ixor, 1)) (k : kw_V G md (pc + 1) L (.int (x ^^^ y) :: S) hp Q) : kw_V G md pc L (.int y :: .int x :: S) hp Q := by
  intro n0 p e s m args below meth c H locs ls hC hn hR hS hl
  exact lv_ixor hC.1 hC.2.1 d (k n0 p e s m args below meth c H locs ls hC hn hR hS hl)
theorem kw_ishl {x y : Int32} (d : decode md.2.1 pc = .ok (.ishl, 1)) (k : kw_V G md (pc + 1) L (.int (x <<< (y &&& 31)) :: S) hp Q) : kw_V G md pc L (.int y :: .int x :: S) hp Q := by
  intro n0 p e s m args below meth c H locs ls hC hn hR hS hl
  exact lv_ishl hC.1 hC.2.1 d (k n0 p e s m args below meth c H locs ls hC hn hR hS hl)
theorem kw_ishr {x y : Int32} (d : decode md.2.1 pc = .ok (.ishr, 1)) (k : kw_V G md (pc + 1) L (.int (x >>> (y &&& 31)) :: S) hp Q) : kw_V G md pc L (.int y :: .int x :: S) hp Q := by
  intro n0 p e s m args below meth c H locs ls hC hn hR hS hl
  exact lv_ishr hC.1 hC.2.1 d (k n0 p e s m args below meth c H locs ls hC hn hR hS hl)
theorem kw_iushr {x y : Int32} (d : decode md.2.1 pc = .ok (.iushr, 1)) (k : kw_V G md (pc + 1) L (.int ((x.toUInt32 >>> (y.toUInt32 &&& Int32.toUInt32 31)).toInt32) :: S) hp Q) : kw_V G md pc L (.int y :: .int x :: S) hp Q := by
  intro n0 p e s m args below meth c H locs ls hC hn hR hS hl
  exact lv_iushr hC.1 hC.2.1 d rfl (k n0 p e s m args below meth c H locs ls hC hn hR hS hl)
theorem kw_idiv {x y : Int32} (d : decode md.2.1 pc = .ok (.idiv, 1)) (hne : ¬ y = 0) (k : kw_V G md (pc + 1) L (.int (x / y) :: S) hp Q) : kw_V G md pc L (.int y :: .int x :: S) hp Q := by
  intro n0 p e s m args below meth c H locs ls hC hn hR hS hl
  exact lv_idiv hC.1 hC.2.1 d hne (k n0 p e s m args below meth c H locs ls hC hn hR hS hl)
theorem kw_irem {x y : Int32} (d : decode md.2.1 pc = .ok (.irem, 1)) (hne : ¬ y = 0) (k : kw_V G md (pc + 1) L (.int (x - x / y * y) :: S) hp Q) : kw_V G md pc L (.int y :: .int x :: S) hp Q := by
  intro n0 p e s m args below meth c H locs ls hC hn hR hS hl
  exact lv_irem hC.1 hC.2.1 d hne (k n0 p e s m args below meth c H locs ls hC hn hR hS hl)
theorem kw_ineg {x : Int32} (d : decode md.2.1 pc = .ok (.ineg, 1)) (k : kw_V G md (pc + 1) L (.int (-x) :: S) hp Q) : kw_V G md pc L (.int x :: S) hp Q := by
  intro n0 p e s m args below meth c H locs ls hC hn hR hS hl
  exact lv_ineg hC.1 hC.2.1 d (k n0 p e s m args below meth c H locs ls hC hn hR hS hl)
theorem kw_ladd {x y : Int64} (d : decode md.2.1 pc = .ok (.ladd, 1)) (k : kw_V G md (pc + 1) L (.long (x + y) :: S) hp Q) : kw_V G md pc L (.long y :: .long x :: S) hp Q := by
  intro n0 p e s m args below meth c H locs ls hC hn hR hS hl
  exact lv_ladd hC.1 hC.2.1 d (k n0 p e s m args below meth c H locs ls hC hn hR hS hl)
theorem kw_lmul {x y : Int64} (d : decode md.2.1 pc = .ok (.lmul, 1)) (k : kw_V G md (pc + 1) L (.long (x * y) :: S) hp Q) : kw_V G md pc L (.long y :: .long x :: S) hp Q := by
  intro n0 p e s m args below meth c H locs ls hC hn hR hS hl
  exact lv_lmul hC.1 hC.2.1 d (k n0 p e s m args below meth c H locs ls hC hn hR hS hl)
theorem kw_ldiv {x y : Int64} (d : decode md.2.1 pc = .ok (.ldiv, 1)) (hne : ¬ y = 0) (k : kw_V G md (pc + 1) L (.long (x / y) :: S) hp Q) : kw_V G md pc L (.long y :: .long x :: S) hp Q := by
  intro n0 p e s m args below meth c H locs ls hC hn hR hS hl
  exact lv_ldiv hC.1 hC.2.1 d hne (k n0 p e s m args below meth c H locs ls hC hn hR hS hl)
theorem kw_lrem {x y : Int64} (d : decode md.2.1 pc = .ok (.lrem, 1)) (hne : ¬ y = 0) (k : kw_V G md (pc + 1) L (.long (x - x / y * y) :: S) hp Q) : kw_V G md pc L (.long y :: .long x :: S) hp Q := by
  intro n0 p e s m args below meth c H locs ls hC hn hR hS hl
  exact lv_lrem hC.1 hC.2.1 d hne (k n0 p e s m args below meth c H locs ls hC hn hR hS hl)
theorem kw_lcmp {x y : Int64} (d : decode md.2.1 pc = .ok (.lcmp, 1)) (k : kw_V G md (pc + 1) L (.int (lg_cmp x y) :: S) hp Q) : kw_V G md pc L (.long y :: .long x :: S) hp Q := by
  intro n0 p e s m args below meth c H locs ls hC hn hR hS hl
  exact W.lcmp hC.1 hC.2.1 d (k n0 p e s m args below meth c H locs ls hC hn hR hS hl)
theorem kw_i2l {x : Int32} (d : decode md.2.1 pc = .ok (.i2l, 1)) (k : kw_V G md (pc + 1) L (.long x.toInt64 :: S) hp Q) : kw_V G md pc L (.int x :: S) hp Q := by
  intro n0 p e s m args below meth c H locs ls hC hn hR hS hl
  exact lv_i2l hC.1 hC.2.1 d rfl (k n0 p e s m args below meth c H locs ls hC hn hR hS hl)
theorem kw_l2i {x : Int64} (d : decode md.2.1 pc = .ok (.l2i, 1)) (k : kw_V G md (pc + 1) L (.int x.toInt32 :: S) hp Q) : kw_V G md pc L (.long x :: S) hp Q := by
  intro n0 p e s m args below meth c H locs ls hC hn hR hS hl
  exact lv_l2i hC.1 hC.2.1 d rfl (k n0 p e s m args below meth c H locs ls hC hn hR hS hl)
theorem kw_i2b {x : Int32} (d : decode md.2.1 pc = .ok (.i2b, 1)) (k : kw_V G md (pc + 1) L (.int x.toInt8.toInt32 :: S) hp Q) : kw_V G md pc L (.int x :: S) hp Q := by
  intro n0 p e s m args below meth c H locs ls hC hn hR hS hl
  exact lv_i2b hC.1 hC.2.1 d rfl (k n0 p e s m args below meth c H locs ls hC hn hR hS hl)
theorem kw_i2s {x : Int32} (d : decode md.2.1 pc = .ok (.i2s, 1)) (k : kw_V G md (pc + 1) L (.int x.toInt16.toInt32 :: S) hp Q) : kw_V G md pc L (.int x :: S) hp Q := by
  intro n0 p e s m args below meth c H locs ls hC hn hR hS hl
  exact lv_i2s hC.1 hC.2.1 d rfl (k n0 p e s m args below meth c H locs ls hC hn hR hS hl)
theorem kw_iconst {n : Int} {v : Int32} (d : decode md.2.1 pc = .ok (.iconst n, 1)) (hv : Int32.ofInt n = v) (k : kw_V G md (pc + 1) L (.int v :: S) hp Q) : kw_V G md pc L (S) hp Q := by
  intro n0 p e s m args below meth c H locs ls hC hn hR hS hl
  exact lv_iconst hC.1 hC.2.1 d hv (k n0 p e s m args below meth c H locs ls hC hn hR hS hl)
theorem kw_bipush {n : Int} {v : Int32} (d : decode md.2.1 pc = .ok (.bipush n, 2)) (hv : (Int8.ofInt n).toInt32 = v) (k : kw_V G md (pc + 2) L (.int v :: S) hp Q) : kw_V G md pc L (S) hp Q := by
  intro n0 p e s m args below meth c H locs ls hC hn hR hS hl
  exact lv_bipush hC.1 hC.2.1 d hv (k n0 p e s m args below meth c H locs ls hC hn hR hS hl)
theorem kw_sipush {n : Int} {v : Int32} (d : decode md.2.1 pc = .ok (.sipush n, 3)) (hv : (Int16.ofInt n).toInt32 = v) (k : kw_V G md (pc + 3) L (.int v :: S) hp Q) : kw_V G md pc L (S) hp Q := by
  intro n0 p e s m args below meth c H locs ls hC hn hR hS hl
  exact lv_sipush hC.1 hC.2.1 d hv (k n0 p e s m args below meth c H locs ls hC hn hR hS hl)
theorem kw_lconst {n : Fin 2} {v : Int64} (d : decode md.2.1 pc = .ok (.lconst n, 1)) (hv : Int64.ofNat (n : Nat) = v) (k : kw_V G md (pc + 1) L (.long v :: S) hp Q) : kw_V G md pc L (S) hp Q := by
  intro n0 p e s m args below meth c H locs ls hC hn hR hS hl
  exact lv_lconst hC.1 hC.2.1 d hv (k n0 p e s m args below meth c H locs ls hC hn hR hS hl)
theorem kw_aconst_null  (d : decode md.2.1 pc = .ok (.aconst_null, 1)) (k : kw_V G md (pc + 1) L (.null :: S) hp Q) : kw_V G md pc L (S) hp Q := by
  intro n0 p e s m args below meth c H locs ls hC hn hR hS hl
  exact lv_null hC.1 hC.2.1 d (k n0 p e s m args below meth c H locs ls hC hn hR hS hl)
theorem kw_ldc {i : Nat} {v : Int32} (d : decode md.2.1 pc = .ok (.ldc i, 2)) (hw : Cond.constant md.1.cls i v ∈ kw_T) (k : kw_V G md (pc + 2) L (.int v :: S) hp Q) : kw_V G md pc L (S) hp Q := by
  intro n0 p e s m args below meth c H locs ls hC hn hR hS hl
  exact lv_ldc hC.1 hC.2.1 hC.2.2.2.2.2.2.1 (hC.2.2.2.2.2.2.2.1 _ hw) d (k n0 p e s m args below meth c H locs ls hC hn hR hS hl)
theorem kw_ldc_w {i : Nat} {v : Int32} (d : decode md.2.1 pc = .ok (.ldc_w i, 3)) (hw : Cond.constant md.1.cls i v ∈ kw_T) (k : kw_V G md (pc + 3) L (.int v :: S) hp Q) : kw_V G md pc L (S) hp Q := by
  intro n0 p e s m args below meth c H locs ls hC hn hR hS hl
  exact lv_ldcw hC.1 hC.2.1 hC.2.2.2.2.2.2.1 (hC.2.2.2.2.2.2.2.1 _ hw) d (k n0 p e s m args below meth c H locs ls hC hn hR hS hl)
theorem kw_ldc2_w {i : Nat} {v : Int64} (d : decode md.2.1 pc = .ok (.ldc2_w i, 3)) (hw : Cond.constantLong md.1.cls i v ∈ kw_T) (k : kw_V G md (pc + 3) L (.long v :: S) hp Q) : kw_V G md pc L (S) hp Q := by
  intro n0 p e s m args below meth c H locs ls hC hn hR hS hl
  exact lv_ldc2 hC.1 hC.2.1 hC.2.2.2.2.2.2.1 (hC.2.2.2.2.2.2.2.1 _ hw) d (k n0 p e s m args below meth c H locs ls hC hn hR hS hl)
theorem kw_iload {i : Nat} {x : Int32} (d : decode md.2.1 pc = .ok (.iload i, 2)) (hv : L[i]? = some (some (.int x))) (k : kw_V G md (pc + 2) L (.int x :: S) hp Q) : kw_V G md pc L (S) hp Q := by
  intro n0 p e s m args below meth c H locs ls hC hn hR hS hl
  exact lv_iload hC.1 hC.2.1 d (kw_lat hl hv) (k n0 p e s m args below meth c H locs ls hC hn hR hS hl)
theorem kw_iload_n {i : Fin 4} {x : Int32} (d : decode md.2.1 pc = .ok (.iload_n i, 1)) (hv : L[(i : Nat)]? = some (some (.int x))) (k : kw_V G md (pc + 1) L (.int x :: S) hp Q) : kw_V G md pc L (S) hp Q := by
  intro n0 p e s m args below meth c H locs ls hC hn hR hS hl
  exact lv_iload_n hC.1 hC.2.1 d rfl (kw_lat hl hv) (k n0 p e s m args below meth c H locs ls hC hn hR hS hl)
theorem kw_lload {i : Nat} {x : Int64} (d : decode md.2.1 pc = .ok (.lload i, 2)) (hv : L[i]? = some (some (.long x))) (k : kw_V G md (pc + 2) L (.long x :: S) hp Q) : kw_V G md pc L (S) hp Q := by
  intro n0 p e s m args below meth c H locs ls hC hn hR hS hl
  exact lv_lload hC.1 hC.2.1 d (kw_lat hl hv) (k n0 p e s m args below meth c H locs ls hC hn hR hS hl)
theorem kw_lload_n {i : Fin 4} {x : Int64} (d : decode md.2.1 pc = .ok (.lload_n i, 1)) (hv : L[(i : Nat)]? = some (some (.long x))) (k : kw_V G md (pc + 1) L (.long x :: S) hp Q) : kw_V G md pc L (S) hp Q := by
  intro n0 p e s m args below meth c H locs ls hC hn hR hS hl
  exact lv_lload_n hC.1 hC.2.1 d rfl (kw_lat hl hv) (k n0 p e s m args below meth c H locs ls hC hn hR hS hl)
theorem kw_aload {i : Nat} {x : Nat} (d : decode md.2.1 pc = .ok (.aload i, 2)) (hv : L[i]? = some (some (.ref x))) (k : kw_V G md (pc + 2) L (.ref x :: S) hp Q) : kw_V G md pc L (S) hp Q := by
  intro n0 p e s m args below meth c H locs ls hC hn hR hS hl
  exact lv_aload hC.1 hC.2.1 d (kw_lat hl hv) (k n0 p e s m args below meth c H locs ls hC hn hR hS hl)
theorem kw_aload_n {i : Fin 4} {x : Nat} (d : decode md.2.1 pc = .ok (.aload_n i, 1)) (hv : L[(i : Nat)]? = some (some (.ref x))) (k : kw_V G md (pc + 1) L (.ref x :: S) hp Q) : kw_V G md pc L (S) hp Q := by
  intro n0 p e s m args below meth c H locs ls hC hn hR hS hl
  exact lv_aload_n hC.1 hC.2.1 d rfl (kw_lat hl hv) (k n0 p e s m args below meth c H locs ls hC hn hR hS hl)
theorem kw_aloadN {i : Nat} (d : decode md.2.1 pc = .ok (.aload i, 2)) (hv : L[i]? = some (some .null)) (k : kw_V G md (pc + 2) L (.null :: S) hp Q) : kw_V G md pc L (S) hp Q := by
  intro n0 p e s m args below meth c H locs ls hC hn hR hS hl
  exact lv_aloadN hC.1 hC.2.1 d (kw_lat hl hv) (k n0 p e s m args below meth c H locs ls hC hn hR hS hl)
theorem kw_aload_nN {i : Fin 4} (d : decode md.2.1 pc = .ok (.aload_n i, 1)) (hv : L[(i : Nat)]? = some (some .null)) (k : kw_V G md (pc + 1) L (.null :: S) hp Q) : kw_V G md pc L (S) hp Q := by
  intro n0 p e s m args below meth c H locs ls hC hn hR hS hl
  exact lv_aload_nN hC.1 hC.2.1 d rfl (kw_lat hl hv) (k n0 p e s m args below meth c H locs ls hC hn hR hS hl)
theorem kw_istore {i : Nat} {x : Int32} {L' : List (Option Value)} (d : decode md.2.1 pc = .ok (.istore i, 2)) (hi : i < md.2.2.1) (hL : kw_st L i (.int x) = L') (k : kw_V G md (pc + 2) L' S hp Q) : kw_V G md pc L (.int x :: S) hp Q := by
  intro n0 p e s m args below meth c H locs ls hC hn hR hS hl
  refine lv_istore hC.1 hC.2.1 d hl hi rfl fun ls' hl' => ?_
  refine k n0 p e s m args below meth c H locs ls' hC hn hR hS ?_
  rw [← hL]
  exact kw_lst (v := (.int x)) rfl hl'
theorem kw_istore_n {i : Fin 4} {x : Int32} {L' : List (Option Value)} (d : decode md.2.1 pc = .ok (.istore_n i, 1)) (hi : (i : Nat) < md.2.2.1) (hL : kw_st L (i : Nat) (.int x) = L') (k : kw_V G md (pc + 1) L' S hp Q) : kw_V G md pc L (.int x :: S) hp Q := by
  intro n0 p e s m args below meth c H locs ls hC hn hR hS hl
  refine lv_istore_n hC.1 hC.2.1 d rfl hl hi rfl fun ls' hl' => ?_
  refine k n0 p e s m args below meth c H locs ls' hC hn hR hS ?_
  rw [← hL]
  exact kw_lst (v := (.int x)) rfl hl'
theorem kw_lstore {i : Nat} {x : Int64} {L' : List (Option Value)} (d : decode md.2.1 pc = .ok (.lstore i, 2)) (hi : i + 1 < md.2.2.1) (hL : kw_st2 L i (.long x) = L') (k : kw_V G md (pc + 2) L' S hp Q) : kw_V G md pc L (.long x :: S) hp Q := by
  intro n0 p e s m args below meth c H locs ls hC hn hR hS hl
  refine lv_lstore hC.1 hC.2.1 d hl hi rfl fun ls' hl' => ?_
  refine k n0 p e s m args below meth c H locs ls' hC hn hR hS ?_
  rw [← hL]
  exact kw_lst2 (v := (.long x)) rfl hl'
theorem kw_lstore_n {i : Fin 4} {x : Int64} {L' : List (Option Value)} (d : decode md.2.1 pc = .ok (.lstore_n i, 1)) (hi : (i : Nat) + 1 < md.2.2.1) (hL : kw_st2 L (i : Nat) (.long x) = L') (k : kw_V G md (pc + 1) L' S hp Q) : kw_V G md pc L (.long x :: S) hp Q := by
  intro n0 p e s m args below meth c H locs ls hC hn hR hS hl
  refine lv_lstore_n hC.1 hC.2.1 d rfl hl hi rfl fun ls' hl' => ?_
  refine k n0 p e s m args below meth c H locs ls' hC hn hR hS ?_
  rw [← hL]
  exact kw_lst2 (v := (.long x)) rfl hl'
theorem kw_astore {i : Nat} {x : Nat} {L' : List (Option Value)} (d : decode md.2.1 pc = .ok (.astore i, 2)) (hi : i < md.2.2.1) (hL : kw_st L i (.ref x) = L') (k : kw_V G md (pc + 2) L' S hp Q) : kw_V G md pc L (.ref x :: S) hp Q := by
  intro n0 p e s m args below meth c H locs ls hC hn hR hS hl
  refine lv_astore hC.1 hC.2.1 d hl hi rfl fun ls' hl' => ?_
  refine k n0 p e s m args below meth c H locs ls' hC hn hR hS ?_
  rw [← hL]
  exact kw_lst (v := (.ref x)) rfl hl'
theorem kw_astore_n {i : Fin 4} {x : Nat} {L' : List (Option Value)} (d : decode md.2.1 pc = .ok (.astore_n i, 1)) (hi : (i : Nat) < md.2.2.1) (hL : kw_st L (i : Nat) (.ref x) = L') (k : kw_V G md (pc + 1) L' S hp Q) : kw_V G md pc L (.ref x :: S) hp Q := by
  intro n0 p e s m args below meth c H locs ls hC hn hR hS hl
  refine lv_astore_n hC.1 hC.2.1 d rfl hl hi rfl fun ls' hl' => ?_
  refine k n0 p e s m args below meth c H locs ls' hC hn hR hS ?_
  rw [← hL]
  exact kw_lst (v := (.ref x)) rfl hl'
theorem kw_astoreN {i : Nat} {L' : List (Option Value)} (d : decode md.2.1 pc = .ok (.astore i, 2)) (hi : i < md.2.2.1) (hL : kw_st L i .null = L') (k : kw_V G md (pc + 2) L' S hp Q) : kw_V G md pc L (.null :: S) hp Q := by
  intro n0 p e s m args below meth c H locs ls hC hn hR hS hl
  refine lv_astoreN hC.1 hC.2.1 d hl hi rfl fun ls' hl' => ?_
  refine k n0 p e s m args below meth c H locs ls' hC hn hR hS ?_
  rw [← hL]
  exact kw_lst (v := .null) rfl hl'
theorem kw_astore_nN {i : Fin 4} {L' : List (Option Value)} (d : decode md.2.1 pc = .ok (.astore_n i, 1)) (hi : (i : Nat) < md.2.2.1) (hL : kw_st L (i : Nat) .null = L') (k : kw_V G md (pc + 1) L' S hp Q) : kw_V G md pc L (.null :: S) hp Q := by
  intro n0 p e s m args below meth c H locs ls hC hn hR hS hl
  refine lv_astore_nN hC.1 hC.2.1 d rfl hl hi rfl fun ls' hl' => ?_
  refine k n0 p e s m args below meth c H locs ls' hC hn hR hS ?_
  rw [← hL]
  exact kw_lst (v := .null) rfl hl'
theorem kw_iinc {i : Nat} {x : Int32} {n : Int} {L' : List (Option Value)} (d : decode md.2.1 pc = .ok (.iinc i n, 3)) (hv : L[i]? = some (some (.int x))) (hi : i < md.2.2.1) (hL : kw_st L i (.int (x + Int32.ofInt n)) = L') (k : kw_V G md (pc + 3) L' S hp Q) : kw_V G md pc L S hp Q := by
  intro n0 p e s m args below meth c H locs ls hC hn hR hS hl
  obtain ⟨j, hj⟩ := List.getElem?_of_mem (kw_pr_mem.mpr ⟨i, .int x, hv, rfl⟩ : ((0 + i, kw_v G.2.1 (.int x)) : Nat × Value) ∈ kw_pr G.2.1 0 L)
  rw [Nat.zero_add] at hj
  refine lv_iinc hC.1 hC.2.1 d hl hj rfl hi rfl fun ls' hl' => ?_
  refine k n0 p e s m args below meth c H locs ls' hC hn hR hS ?_
  rw [← hL]
  exact kw_lst (v := .int (x + Int32.ofInt n)) rfl hl'
theorem kw_dup {a : Value} (d : decode md.2.1 pc = .ok (.dup, 1)) (h1 : a.category = 1) (k : kw_V G md (pc + 1) L (a :: a :: S) hp Q) : kw_V G md pc L (a :: S) hp Q := by
  intro n0 p e s m args below meth c H locs ls hC hn hR hS hl
  exact lv_dup hC.1 hC.2.1 d ((kw_v_cat _ _).trans h1) (k n0 p e s m args below meth c H locs ls hC hn hR hS hl)
theorem kw_pop {a : Value} (d : decode md.2.1 pc = .ok (.pop, 1)) (h1 : a.category = 1) (k : kw_V G md (pc + 1) L (S) hp Q) : kw_V G md pc L (a :: S) hp Q := by
  intro n0 p e s m args below meth c H locs ls hC hn hR hS hl
  exact lv_pop hC.1 hC.2.1 d ((kw_v_cat _ _).trans h1) (k n0 p e s m args below meth c H locs ls hC hn hR hS hl)
theorem kw_dup2 {a b : Value} (d : decode md.2.1 pc = .ok (.dup2, 1)) (h1 : a.category = 1) (h2 : b.category = 1) (k : kw_V G md (pc + 1) L (a :: b :: a :: b :: S) hp Q) : kw_V G md pc L (a :: b :: S) hp Q := by
  intro n0 p e s m args below meth c H locs ls hC hn hR hS hl
  exact lv_dup2_11 hC.1 hC.2.1 d ((kw_v_cat _ _).trans h1) ((kw_v_cat _ _).trans h2) (k n0 p e s m args below meth c H locs ls hC hn hR hS hl)
theorem kw_if_eq {x : Int32} {off : Int} (t : Nat) (d : decode md.2.1 pc = .ok (.ifCond .eq off, 3)) (ht : (pc : Int) + off = (t : Int)) (kt : x = 0 → kw_V G md t L S hp Q) (kf : ¬ x = 0 → kw_V G md (pc + 3) L S hp Q) : kw_V G md pc L (.int x :: S) hp Q := by
  intro n0 p e s m args below meth c H locs ls hC hn hR hS hl
  exact lv_if_eq hC.1 hC.2.1 d ht (fun h => kt h n0 p e s m args below meth c H locs ls hC hn hR hS hl) (fun h => kf h n0 p e s m args below meth c H locs ls hC hn hR hS hl)
theorem kw_icmp_eq {x y : Int32} {off : Int} (t : Nat) (d : decode md.2.1 pc = .ok (.if_icmp .eq off, 3)) (ht : (pc : Int) + off = (t : Int)) (kt : x = y → kw_V G md t L S hp Q) (kf : ¬ x = y → kw_V G md (pc + 3) L S hp Q) : kw_V G md pc L (.int y :: .int x :: S) hp Q := by
  intro n0 p e s m args below meth c H locs ls hC hn hR hS hl
  exact lv_icmp_eq hC.1 hC.2.1 d ht (fun h => kt h n0 p e s m args below meth c H locs ls hC hn hR hS hl) (fun h => kf h n0 p e s m args below meth c H locs ls hC hn hR hS hl)
theorem kw_if_ne {x : Int32} {off : Int} (t : Nat) (d : decode md.2.1 pc = .ok (.ifCond .ne off, 3)) (ht : (pc : Int) + off = (t : Int)) (kt : ¬ x = 0 → kw_V G md t L S hp Q) (kf : x = 0 → kw_V G md (pc + 3) L S hp Q) : kw_V G md pc L (.int x :: S) hp Q := by
  intro n0 p e s m args below meth c H locs ls hC hn hR hS hl
  exact lv_if_ne hC.1 hC.2.1 d ht (fun h => kt h n0 p e s m args below meth c H locs ls hC hn hR hS hl) (fun h => kf h n0 p e s m args below meth c H locs ls hC hn hR hS hl)
theorem kw_icmp_ne {x y : Int32} {off : Int} (t : Nat) (d : decode md.2.1 pc = .ok (.if_icmp .ne off, 3)) (ht : (pc : Int) + off = (t : Int)) (kt : ¬ x = y → kw_V G md t L S hp Q) (kf : x = y → kw_V G md (pc + 3) L S hp Q) : kw_V G md pc L (.int y :: .int x :: S) hp Q := by
  intro n0 p e s m args below meth c H locs ls hC hn hR hS hl
  exact lv_icmp_ne hC.1 hC.2.1 d ht (fun h => kt h n0 p e s m args below meth c H locs ls hC hn hR hS hl) (fun h => kf h n0 p e s m args below meth c H locs ls hC hn hR hS hl)
theorem kw_if_lt {x : Int32} {off : Int} (t : Nat) (d : decode md.2.1 pc = .ok (.ifCond .lt off, 3)) (ht : (pc : Int) + off = (t : Int)) (kt : x < 0 → kw_V G md t L S hp Q) (kf : ¬ x < 0 → kw_V G md (pc + 3) L S hp Q) : kw_V G md pc L (.int x :: S) hp Q := by
  intro n0 p e s m args below meth c H locs ls hC hn hR hS hl
  exact lv_if_lt hC.1 hC.2.1 d ht (fun h => kt h n0 p e s m args below meth c H locs ls hC hn hR hS hl) (fun h => kf h n0 p e s m args below meth c H locs ls hC hn hR hS hl)
theorem kw_icmp_lt {x y : Int32} {off : Int} (t : Nat) (d : decode md.2.1 pc = .ok (.if_icmp .lt off, 3)) (ht : (pc : Int) + off = (t : Int)) (kt : x < y → kw_V G md t L S hp Q) (kf : ¬ x < y → kw_V G md (pc + 3) L S hp Q) : kw_V G md pc L (.int y :: .int x :: S) hp Q := by
  intro n0 p e s m args below meth c H locs ls hC hn hR hS hl
  exact lv_icmp_lt hC.1 hC.2.1 d ht (fun h => kt h n0 p e s m args below meth c H locs ls hC hn hR hS hl) (fun h => kf h n0 p e s m args below meth c H locs ls hC hn hR hS hl)
theorem kw_if_ge {x : Int32} {off : Int} (t : Nat) (d : decode md.2.1 pc = .ok (.ifCond .ge off, 3)) (ht : (pc : Int) + off = (t : Int)) (kt : 0 ≤ x → kw_V G md t L S hp Q) (kf : ¬ 0 ≤ x → kw_V G md (pc + 3) L S hp Q) : kw_V G md pc L (.int x :: S) hp Q := by
  intro n0 p e s m args below meth c H locs ls hC hn hR hS hl
  exact lv_if_ge hC.1 hC.2.1 d ht (fun h => kt h n0 p e s m args below meth c H locs ls hC hn hR hS hl) (fun h => kf h n0 p e s m args below meth c H locs ls hC hn hR hS hl)
theorem kw_icmp_ge {x y : Int32} {off : Int} (t : Nat) (d : decode md.2.1 pc = .ok (.if_icmp .ge off, 3)) (ht : (pc : Int) + off = (t : Int)) (kt : y ≤ x → kw_V G md t L S hp Q) (kf : ¬ y ≤ x → kw_V G md (pc + 3) L S hp Q) : kw_V G md pc L (.int y :: .int x :: S) hp Q := by
  intro n0 p e s m args below meth c H locs ls hC hn hR hS hl
  exact lv_icmp_ge hC.1 hC.2.1 d ht (fun h => kt h n0 p e s m args below meth c H locs ls hC hn hR hS hl) (fun h => kf h n0 p e s m args below meth c H locs ls hC hn hR hS hl)
theorem kw_if_gt {x : Int32} {off : Int} (t : Nat) (d : decode md.2.1 pc = .ok (.ifCond .gt off, 3)) (ht : (pc : Int) + off = (t : Int)) (kt : 0 < x → kw_V G md t L S hp Q) (kf : ¬ 0 < x → kw_V G md (pc + 3) L S hp Q) : kw_V G md pc L (.int x :: S) hp Q := by
  intro n0 p e s m args below meth c H locs ls hC hn hR hS hl
  exact lv_if_gt hC.1 hC.2.1 d ht (fun h => kt h n0 p e s m args below meth c H locs ls hC hn hR hS hl) (fun h => kf h n0 p e s m args below meth c H locs ls hC hn hR hS hl)
theorem kw_icmp_gt {x y : Int32} {off : Int} (t : Nat) (d : decode md.2.1 pc = .ok (.if_icmp .gt off, 3)) (ht : (pc : Int) + off = (t : Int)) (kt : y < x → kw_V G md t L S hp Q) (kf : ¬ y < x → kw_V G md (pc + 3) L S hp Q) : kw_V G md pc L (.int y :: .int x :: S) hp Q := by
  intro n0 p e s m args below meth c H locs ls hC hn hR hS hl
  exact lv_icmp_gt hC.1 hC.2.1 d ht (fun h => kt h n0 p e s m args below meth c H locs ls hC hn hR hS hl) (fun h => kf h n0 p e s m args below meth c H locs ls hC hn hR hS hl)
theorem kw_if_le {x : Int32} {off : Int} (t : Nat) (d : decode md.2.1 pc = .ok (.ifCond .le off, 3)) (ht : (pc : Int) + off = (t : Int)) (kt : x ≤ 0 → kw_V G md t L S hp Q) (kf : ¬ x ≤ 0 → kw_V G md (pc + 3) L S hp Q) : kw_V G md pc L (.int x :: S) hp Q := by
  intro n0 p e s m args below meth c H locs ls hC hn hR hS hl
  exact lv_if_le hC.1 hC.2.1 d ht (fun h => kt h n0 p e s m args below meth c H locs ls hC hn hR hS hl) (fun h => kf h n0 p e s m args below meth c H locs ls hC hn hR hS hl)
theorem kw_icmp_le {x y : Int32} {off : Int} (t : Nat) (d : decode md.2.1 pc = .ok (.if_icmp .le off, 3)) (ht : (pc : Int) + off = (t : Int)) (kt : x ≤ y → kw_V G md t L S hp Q) (kf : ¬ x ≤ y → kw_V G md (pc + 3) L S hp Q) : kw_V G md pc L (.int y :: .int x :: S) hp Q := by
  intro n0 p e s m args below meth c H locs ls hC hn hR hS hl
  exact lv_icmp_le hC.1 hC.2.1 d ht (fun h => kt h n0 p e s m args below meth c H locs ls hC hn hR hS hl) (fun h => kf h n0 p e s m args below meth c H locs ls hC hn hR hS hl)
theorem kw_goto {off : Int} (t : Nat) (d : decode md.2.1 pc = .ok (.goto off, 3)) (ht : (pc : Int) + off = (t : Int)) (k : kw_V G md t L S hp Q) : kw_V G md pc L S hp Q := by
  intro n0 p e s m args below meth c H locs ls hC hn hR hS hl
  exact lv_goto hC.1 hC.2.1 d ht (k n0 p e s m args below meth c H locs ls hC hn hR hS hl)
theorem kw_ifnull {off : Int} {a : Nat} (d : decode md.2.1 pc = .ok (.ifnull off, 3)) (k : kw_V G md (pc + 3) L S hp Q) : kw_V G md pc L (.ref a :: S) hp Q := by
  intro n0 p e s m args below meth c H locs ls hC hn hR hS hl
  exact lv_ifnull hC.1 hC.2.1 d (k n0 p e s m args below meth c H locs ls hC hn hR hS hl)
theorem kw_ifnullN {off : Int} (t : Nat) (d : decode md.2.1 pc = .ok (.ifnull off, 3)) (ht : (pc : Int) + off = (t : Int)) (k : kw_V G md t L S hp Q) : kw_V G md pc L (.null :: S) hp Q := by
  intro n0 p e s m args below meth c H locs ls hC hn hR hS hl
  exact lv_ifnullN hC.1 hC.2.1 d ht (k n0 p e s m args below meth c H locs ls hC hn hR hS hl)
theorem kw_ifnonnull {off : Int} {a : Nat} (t : Nat) (d : decode md.2.1 pc = .ok (.ifnonnull off, 3)) (ht : (pc : Int) + off = (t : Int)) (k : kw_V G md t L S hp Q) : kw_V G md pc L (.ref a :: S) hp Q := by
  intro n0 p e s m args below meth c H locs ls hC hn hR hS hl
  exact lv_ifnonnull hC.1 hC.2.1 d ht (k n0 p e s m args below meth c H locs ls hC hn hR hS hl)
theorem kw_ifnonnullN {off : Int} (d : decode md.2.1 pc = .ok (.ifnonnull off, 3)) (k : kw_V G md (pc + 3) L S hp Q) : kw_V G md pc L (.null :: S) hp Q := by
  intro n0 p e s m args below meth c H locs ls hC hn hR hS hl
  exact lv_ifnonnullN hC.1 hC.2.1 d (k n0 p e s m args below meth c H locs ls hC hn hR hS hl)
theorem kw_lookup {dflt : Int} {ps : Array (Int × Int)} {len : Nat} {x : Int32} {off : Int} (t : Nat) (d : decode md.2.1 pc = .ok (.lookupswitch dflt ps, len)) (hp0 : (ps.toList.zip (ps.toList.drop 1)).all (fun (a, next) => a.1 < next.1) = true) (ho : Op.lookupswitch.offset ps.toList dflt x.toInt = off) (ht : (pc : Int) + off = (t : Int)) (k : kw_V G md t L S hp Q) : kw_V G md pc L (.int x :: S) hp Q := by
  intro n0 p e s m args below meth c H locs ls hC hn hR hS hl
  exact lv_lookup hC.1 hC.2.1 d hp0 ho ht (k n0 p e s m args below meth c H locs ls hC hn hR hS hl)
theorem kw_tableOut {dflt lo hi : Int} {offs : Array Int} {len : Nat} {x : Int32} (t : Nat) (d : decode md.2.1 pc = .ok (.tableswitch dflt lo hi offs, len)) (h : x.toInt < lo ∨ hi < x.toInt) (ht : (pc : Int) + dflt = (t : Int)) (k : kw_V G md t L S hp Q) : kw_V G md pc L (.int x :: S) hp Q := by
  intro n0 p e s m args below meth c H locs ls hC hn hR hS hl
  exact lv_tableOut hC.1 hC.2.1 d h ht (k n0 p e s m args below meth c H locs ls hC hn hR hS hl)
theorem kw_tableIn {dflt lo hi : Int} {offs : Array Int} {len : Nat} {x : Int32} {off : Int} (t : Nat) (d : decode md.2.1 pc = .ok (.tableswitch dflt lo hi offs, len)) (h1 : ¬ x.toInt < lo) (h2 : ¬ hi < x.toInt) (ho : offs[(x.toInt - lo).toNat]? = some off) (ht : (pc : Int) + off = (t : Int)) (k : kw_V G md t L S hp Q) : kw_V G md pc L (.int x :: S) hp Q := by
  intro n0 p e s m args below meth c H locs ls hC hn hR hS hl
  exact lv_tableIn hC.1 hC.2.1 d h1 h2 ho ht (k n0 p e s m args below meth c H locs ls hC hn hR hS hl)
def kw_mk : List Bool → List (Option Value) → List (Option Value)
  | true :: b, x :: l => x :: kw_mk b l
  | false :: b, _ :: l => none :: kw_mk b l
  | _, _ => []
theorem kw_mk_at : ∀ (b : List Bool) (l : List (Option Value)) (i : Nat) (v : Value), (kw_mk b l)[i]? = some (some v) → l[i]? = some (some v)
  | true :: b, x :: l, i, v, h => by
    cases i with
    | zero => simpa [kw_mk] using h
    | succ i => simpa using kw_mk_at b l i v (by simpa [kw_mk] using h)
  | false :: b, x :: l, i, v, h => by
    cases i with
    | zero => simp [kw_mk] at h
    | succ i => simpa using kw_mk_at b l i v (by simpa [kw_mk] using h)
  | [], l, i, v, h => by simp [kw_mk] at h
  | true :: b, [], i, v, h => by simp [kw_mk] at h
  | false :: b, [], i, v, h => by simp [kw_mk] at h
theorem kw_mask (b : List Bool) {L' : List (Option Value)} (hL : kw_mk b L = L') (k : kw_V G md pc L' S hp Q) : kw_V G md pc L S hp Q := by
  intro n0 p e s m args below meth c H locs ls hC hn hR hS hl
  exact k n0 p e s m args below meth c H locs ls hC hn hR hS (kw_lsub hl (fun i v h => kw_mk_at b L i v (by rw [hL]; exact h)))
end KwRows
