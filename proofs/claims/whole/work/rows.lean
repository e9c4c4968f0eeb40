section
-- ===== PART A: goes FIRST, ahead of the names: the tables' words, and 'selects' of the private methods out of them =====
/-- a private method of a class that the tables say can be made, by its rows of tables_1 -/
def lw_okq (q : MethodName × Nat) : Prop := (q.1.cls ≠ "java/lang/invoke/MethodHandle" ∧ q.1.cls ≠ "java/lang/invoke/VarHandle") ∧ Cond.instantiable q.1.cls q.2 ∈ tables_1 ∧ Cond.privateMethod q.1 ∈ tables_1 ∧ Cond.instanceMethod q.1 ∈ tables_1
theorem lw_p0 : lw_okq (⟨"KitchenWheels", "finding", "(I)I"⟩, 11) := ⟨⟨by decide +kernel, by decide +kernel⟩, List.mem_of_getElem? (i := 19) (by decide +kernel), List.mem_of_getElem? (i := 222) (by decide +kernel), List.mem_of_getElem? (i := 223) (by decide +kernel)⟩
theorem lw_p1 : lw_okq (⟨"KitchenWheels", "unfound", "(I)I"⟩, 11) := ⟨⟨by decide +kernel, by decide +kernel⟩, List.mem_of_getElem? (i := 19) (by decide +kernel), List.mem_of_getElem? (i := 232) (by decide +kernel), List.mem_of_getElem? (i := 233) (by decide +kernel)⟩
theorem lw_p2 : lw_okq (⟨"KitchenWheels$Tape", "readWheel", "(I[I)I"⟩, 5) := ⟨⟨by decide +kernel, by decide +kernel⟩, List.mem_of_getElem? (i := 49) (by decide +kernel), List.mem_of_getElem? (i := 294) (by decide +kernel), List.mem_of_getElem? (i := 295) (by decide +kernel)⟩
theorem lw_p3 : lw_okq (⟨"KitchenWheels$Tape", "passes", "(I)Z"⟩, 5) := ⟨⟨by decide +kernel, by decide +kernel⟩, List.mem_of_getElem? (i := 49) (by decide +kernel), List.mem_of_getElem? (i := 298) (by decide +kernel), List.mem_of_getElem? (i := 299) (by decide +kernel)⟩
theorem lw_p4 : lw_okq (⟨"KitchenWheels$Tape", "byteAt", "(I)I"⟩, 5) := ⟨⟨by decide +kernel, by decide +kernel⟩, List.mem_of_getElem? (i := 49) (by decide +kernel), List.mem_of_getElem? (i := 302) (by decide +kernel), List.mem_of_getElem? (i := 303) (by decide +kernel)⟩
theorem lw_p5 : lw_okq (⟨"KitchenWheels$Tape", "readTurner", "(I)V"⟩, 5) := ⟨⟨by decide +kernel, by decide +kernel⟩, List.mem_of_getElem? (i := 49) (by decide +kernel), List.mem_of_getElem? (i := 311) (by decide +kernel), List.mem_of_getElem? (i := 312) (by decide +kernel)⟩
theorem lw_p6 : lw_okq (⟨"KitchenWheels$Tape", "readBy", "()I"⟩, 5) := ⟨⟨by decide +kernel, by decide +kernel⟩, List.mem_of_getElem? (i := 49) (by decide +kernel), List.mem_of_getElem? (i := 318) (by decide +kernel), List.mem_of_getElem? (i := 319) (by decide +kernel)⟩
theorem lw_p7 : lw_okq (⟨"KitchenWheels", "forgetActs", "()V"⟩, 11) := ⟨⟨by decide +kernel, by decide +kernel⟩, List.mem_of_getElem? (i := 19) (by decide +kernel), List.mem_of_getElem? (i := 392) (by decide +kernel), List.mem_of_getElem? (i := 393) (by decide +kernel)⟩
theorem lw_p8 : lw_okq (⟨"KitchenWheels", "keepAct", "()V"⟩, 11) := ⟨⟨by decide +kernel, by decide +kernel⟩, List.mem_of_getElem? (i := 19) (by decide +kernel), List.mem_of_getElem? (i := 416) (by decide +kernel), List.mem_of_getElem? (i := 417) (by decide +kernel)⟩
theorem lw_p9 : lw_okq (⟨"KitchenWheels", "keepIn", "([LKitchenWheels$Kitchen;I)V"⟩, 11) := ⟨⟨by decide +kernel, by decide +kernel⟩, List.mem_of_getElem? (i := 19) (by decide +kernel), List.mem_of_getElem? (i := 420) (by decide +kernel), List.mem_of_getElem? (i := 421) (by decide +kernel)⟩
theorem lw_p10 : lw_okq (⟨"KitchenWheels", "write", "([IIII)I"⟩, 11) := ⟨⟨by decide +kernel, by decide +kernel⟩, List.mem_of_getElem? (i := 19) (by decide +kernel), List.mem_of_getElem? (i := 485) (by decide +kernel), List.mem_of_getElem? (i := 486) (by decide +kernel)⟩
theorem lw_p11 : lw_okq (⟨"KitchenWheels$Foreteller", "countWeek", "(LKitchenWheels$Kitchen;II)V"⟩, 4) := ⟨⟨by decide +kernel, by decide +kernel⟩, List.mem_of_getElem? (i := 138) (by decide +kernel), List.mem_of_getElem? (i := 603) (by decide +kernel), List.mem_of_getElem? (i := 604) (by decide +kernel)⟩
theorem lw_p12 : lw_okq (⟨"KitchenWheels$Foreteller", "spreadOver", "(I)I"⟩, 4) := ⟨⟨by decide +kernel, by decide +kernel⟩, List.mem_of_getElem? (i := 138) (by decide +kernel), List.mem_of_getElem? (i := 608) (by decide +kernel), List.mem_of_getElem? (i := 609) (by decide +kernel)⟩
theorem lw_p13 : lw_okq (⟨"KitchenWheels$Foreteller", "swapNames", "(II)V"⟩, 4) := ⟨⟨by decide +kernel, by decide +kernel⟩, List.mem_of_getElem? (i := 138) (by decide +kernel), List.mem_of_getElem? (i := 639) (by decide +kernel), List.mem_of_getElem? (i := 640) (by decide +kernel)⟩
theorem lw_p14 : lw_okq (⟨"KitchenWheels$Foreteller", "spreadAsTurned", "(LKitchenWheels$Kitchen;I)I"⟩, 4) := ⟨⟨by decide +kernel, by decide +kernel⟩, List.mem_of_getElem? (i := 138) (by decide +kernel), List.mem_of_getElem? (i := 652) (by decide +kernel), List.mem_of_getElem? (i := 653) (by decide +kernel)⟩
theorem lw_p15 : lw_okq (⟨"KitchenWheels$Foreteller", "passForgetful", "(LKitchenWheels$Kitchen;II)V"⟩, 4) := ⟨⟨by decide +kernel, by decide +kernel⟩, List.mem_of_getElem? (i := 138) (by decide +kernel), List.mem_of_getElem? (i := 708) (by decide +kernel), List.mem_of_getElem? (i := 709) (by decide +kernel)⟩
def lw_privs_1 : List (MethodName × Nat) := [(⟨"KitchenWheels", "finding", "(I)I"⟩, 11), (⟨"KitchenWheels", "unfound", "(I)I"⟩, 11), (⟨"KitchenWheels$Tape", "readWheel", "(I[I)I"⟩, 5), (⟨"KitchenWheels$Tape", "passes", "(I)Z"⟩, 5), (⟨"KitchenWheels$Tape", "byteAt", "(I)I"⟩, 5), (⟨"KitchenWheels$Tape", "readTurner", "(I)V"⟩, 5), (⟨"KitchenWheels$Tape", "readBy", "()I"⟩, 5), (⟨"KitchenWheels", "forgetActs", "()V"⟩, 11), (⟨"KitchenWheels", "keepAct", "()V"⟩, 11), (⟨"KitchenWheels", "keepIn", "([LKitchenWheels$Kitchen;I)V"⟩, 11), (⟨"KitchenWheels", "write", "([IIII)I"⟩, 11), (⟨"KitchenWheels$Foreteller", "countWeek", "(LKitchenWheels$Kitchen;II)V"⟩, 4), (⟨"KitchenWheels$Foreteller", "spreadOver", "(I)I"⟩, 4), (⟨"KitchenWheels$Foreteller", "swapNames", "(II)V"⟩, 4), (⟨"KitchenWheels$Foreteller", "spreadAsTurned", "(LKitchenWheels$Kitchen;I)I"⟩, 4), (⟨"KitchenWheels$Foreteller", "passForgetful", "(LKitchenWheels$Kitchen;II)V"⟩, 4)]
theorem lw_r1 : ∀ q ∈ lw_privs_1, lw_okq q := List.forall_mem_cons.mpr ⟨lw_p0, List.forall_mem_cons.mpr ⟨lw_p1, List.forall_mem_cons.mpr ⟨lw_p2, List.forall_mem_cons.mpr ⟨lw_p3, List.forall_mem_cons.mpr ⟨lw_p4, List.forall_mem_cons.mpr ⟨lw_p5, List.forall_mem_cons.mpr ⟨lw_p6, List.forall_mem_cons.mpr ⟨lw_p7, List.forall_mem_cons.mpr ⟨lw_p8, List.forall_mem_cons.mpr ⟨lw_p9, List.forall_mem_cons.mpr ⟨lw_p10, List.forall_mem_cons.mpr ⟨lw_p11, List.forall_mem_cons.mpr ⟨lw_p12, List.forall_mem_cons.mpr ⟨lw_p13, List.forall_mem_cons.mpr ⟨lw_p14, List.forall_mem_cons.mpr ⟨lw_p15, fun _ h => absurd h List.not_mem_nil⟩⟩⟩⟩⟩⟩⟩⟩⟩⟩⟩⟩⟩⟩⟩⟩
theorem lw_p16 : lw_okq (⟨"KitchenWheelsModel", "find", "(I)I"⟩, 17) := ⟨⟨by decide +kernel, by decide +kernel⟩, List.mem_of_getElem? (i := 842) (by decide +kernel), List.mem_of_getElem? (i := 914) (by decide +kernel), List.mem_of_getElem? (i := 915) (by decide +kernel)⟩
theorem lw_p17 : lw_okq (⟨"KitchenWheelsModel", "well", "(I)I"⟩, 17) := ⟨⟨by decide +kernel, by decide +kernel⟩, List.mem_of_getElem? (i := 842) (by decide +kernel), List.mem_of_getElem? (i := 919) (by decide +kernel), List.mem_of_getElem? (i := 920) (by decide +kernel)⟩
theorem lw_p18 : lw_okq (⟨"KitchenWheelsModel", "isSpan", "(III)Z"⟩, 17) := ⟨⟨by decide +kernel, by decide +kernel⟩, List.mem_of_getElem? (i := 842) (by decide +kernel), List.mem_of_getElem? (i := 934) (by decide +kernel), List.mem_of_getElem? (i := 935) (by decide +kernel)⟩
theorem lw_p19 : lw_okq (⟨"KitchenWheelsModel", "reads", "()Z"⟩, 17) := ⟨⟨by decide +kernel, by decide +kernel⟩, List.mem_of_getElem? (i := 842) (by decide +kernel), List.mem_of_getElem? (i := 952) (by decide +kernel), List.mem_of_getElem? (i := 953) (by decide +kernel)⟩
theorem lw_p20 : lw_okq (⟨"KitchenWheelsModel", "readsWheel", "(II)I"⟩, 17) := ⟨⟨by decide +kernel, by decide +kernel⟩, List.mem_of_getElem? (i := 842) (by decide +kernel), List.mem_of_getElem? (i := 956) (by decide +kernel), List.mem_of_getElem? (i := 957) (by decide +kernel)⟩
theorem lw_p21 : lw_okq (⟨"KitchenWheelsModel", "sign", "(I)Z"⟩, 17) := ⟨⟨by decide +kernel, by decide +kernel⟩, List.mem_of_getElem? (i := 842) (by decide +kernel), List.mem_of_getElem? (i := 960) (by decide +kernel), List.mem_of_getElem? (i := 961) (by decide +kernel)⟩
theorem lw_p22 : lw_okq (⟨"KitchenWheelsModel", "isLetter", "(I)Z"⟩, 17) := ⟨⟨by decide +kernel, by decide +kernel⟩, List.mem_of_getElem? (i := 842) (by decide +kernel), List.mem_of_getElem? (i := 964) (by decide +kernel), List.mem_of_getElem? (i := 965) (by decide +kernel)⟩
theorem lw_p23 : lw_okq (⟨"KitchenWheelsModel", "refuse", "(I)Z"⟩, 17) := ⟨⟨by decide +kernel, by decide +kernel⟩, List.mem_of_getElem? (i := 842) (by decide +kernel), List.mem_of_getElem? (i := 968) (by decide +kernel), List.mem_of_getElem? (i := 969) (by decide +kernel)⟩
theorem lw_p24 : lw_okq (⟨"KitchenWheelsModel", "isSort", "()Z"⟩, 17) := ⟨⟨by decide +kernel, by decide +kernel⟩, List.mem_of_getElem? (i := 842) (by decide +kernel), List.mem_of_getElem? (i := 975) (by decide +kernel), List.mem_of_getElem? (i := 976) (by decide +kernel)⟩
theorem lw_p25 : lw_okq (⟨"KitchenWheelsModel", "readsTurner", "()Z"⟩, 17) := ⟨⟨by decide +kernel, by decide +kernel⟩, List.mem_of_getElem? (i := 842) (by decide +kernel), List.mem_of_getElem? (i := 982) (by decide +kernel), List.mem_of_getElem? (i := 983) (by decide +kernel)⟩
theorem lw_p26 : lw_okq (⟨"KitchenWheelsModel", "readsNumber", "(II)Z"⟩, 17) := ⟨⟨by decide +kernel, by decide +kernel⟩, List.mem_of_getElem? (i := 842) (by decide +kernel), List.mem_of_getElem? (i := 986) (by decide +kernel), List.mem_of_getElem? (i := 987) (by decide +kernel)⟩
theorem lw_p27 : lw_okq (⟨"KitchenWheelsModel", "isFigure", "(I)Z"⟩, 17) := ⟨⟨by decide +kernel, by decide +kernel⟩, List.mem_of_getElem? (i := 842) (by decide +kernel), List.mem_of_getElem? (i := 990) (by decide +kernel), List.mem_of_getElem? (i := 991) (by decide +kernel)⟩
theorem lw_p28 : lw_okq (⟨"KitchenWheelsModel", "copyTown", "(II)V"⟩, 17) := ⟨⟨by decide +kernel, by decide +kernel⟩, List.mem_of_getElem? (i := 842) (by decide +kernel), List.mem_of_getElem? (i := 997) (by decide +kernel), List.mem_of_getElem? (i := 998) (by decide +kernel)⟩
theorem lw_p29 : lw_okq (⟨"KitchenWheelsModel", "keepPast", "()V"⟩, 17) := ⟨⟨by decide +kernel, by decide +kernel⟩, List.mem_of_getElem? (i := 842) (by decide +kernel), List.mem_of_getElem? (i := 1015) (by decide +kernel), List.mem_of_getElem? (i := 1016) (by decide +kernel)⟩
theorem lw_p30 : lw_okq (⟨"KitchenWheelsModel", "passAsTold", "(I)V"⟩, 17) := ⟨⟨by decide +kernel, by decide +kernel⟩, List.mem_of_getElem? (i := 842) (by decide +kernel), List.mem_of_getElem? (i := 1019) (by decide +kernel), List.mem_of_getElem? (i := 1020) (by decide +kernel)⟩
theorem lw_p31 : lw_okq (⟨"KitchenWheelsModel", "farOf", "(II)I"⟩, 17) := ⟨⟨by decide +kernel, by decide +kernel⟩, List.mem_of_getElem? (i := 842) (by decide +kernel), List.mem_of_getElem? (i := 1023) (by decide +kernel), List.mem_of_getElem? (i := 1024) (by decide +kernel)⟩
def lw_privs_2 : List (MethodName × Nat) := [(⟨"KitchenWheelsModel", "find", "(I)I"⟩, 17), (⟨"KitchenWheelsModel", "well", "(I)I"⟩, 17), (⟨"KitchenWheelsModel", "isSpan", "(III)Z"⟩, 17), (⟨"KitchenWheelsModel", "reads", "()Z"⟩, 17), (⟨"KitchenWheelsModel", "readsWheel", "(II)I"⟩, 17), (⟨"KitchenWheelsModel", "sign", "(I)Z"⟩, 17), (⟨"KitchenWheelsModel", "isLetter", "(I)Z"⟩, 17), (⟨"KitchenWheelsModel", "refuse", "(I)Z"⟩, 17), (⟨"KitchenWheelsModel", "isSort", "()Z"⟩, 17), (⟨"KitchenWheelsModel", "readsTurner", "()Z"⟩, 17), (⟨"KitchenWheelsModel", "readsNumber", "(II)Z"⟩, 17), (⟨"KitchenWheelsModel", "isFigure", "(I)Z"⟩, 17), (⟨"KitchenWheelsModel", "copyTown", "(II)V"⟩, 17), (⟨"KitchenWheelsModel", "keepPast", "()V"⟩, 17), (⟨"KitchenWheelsModel", "passAsTold", "(I)V"⟩, 17), (⟨"KitchenWheelsModel", "farOf", "(II)I"⟩, 17)]
theorem lw_r2 : ∀ q ∈ lw_privs_2, lw_okq q := List.forall_mem_cons.mpr ⟨lw_p16, List.forall_mem_cons.mpr ⟨lw_p17, List.forall_mem_cons.mpr ⟨lw_p18, List.forall_mem_cons.mpr ⟨lw_p19, List.forall_mem_cons.mpr ⟨lw_p20, List.forall_mem_cons.mpr ⟨lw_p21, List.forall_mem_cons.mpr ⟨lw_p22, List.forall_mem_cons.mpr ⟨lw_p23, List.forall_mem_cons.mpr ⟨lw_p24, List.forall_mem_cons.mpr ⟨lw_p25, List.forall_mem_cons.mpr ⟨lw_p26, List.forall_mem_cons.mpr ⟨lw_p27, List.forall_mem_cons.mpr ⟨lw_p28, List.forall_mem_cons.mpr ⟨lw_p29, List.forall_mem_cons.mpr ⟨lw_p30, List.forall_mem_cons.mpr ⟨lw_p31, fun _ h => absurd h List.not_mem_nil⟩⟩⟩⟩⟩⟩⟩⟩⟩⟩⟩⟩⟩⟩⟩⟩
theorem lw_p32 : lw_okq (⟨"KitchenWheelsModel", "pass", "(II)V"⟩, 17) := ⟨⟨by decide +kernel, by decide +kernel⟩, List.mem_of_getElem? (i := 842) (by decide +kernel), List.mem_of_getElem? (i := 1030) (by decide +kernel), List.mem_of_getElem? (i := 1031) (by decide +kernel)⟩
theorem lw_p33 : lw_okq (⟨"KitchenWheelsModel", "doerOf", "(II)I"⟩, 17) := ⟨⟨by decide +kernel, by decide +kernel⟩, List.mem_of_getElem? (i := 842) (by decide +kernel), List.mem_of_getElem? (i := 1034) (by decide +kernel), List.mem_of_getElem? (i := 1035) (by decide +kernel)⟩
theorem lw_p34 : lw_okq (⟨"KitchenWheelsModel", "jobOf", "(II)I"⟩, 17) := ⟨⟨by decide +kernel, by decide +kernel⟩, List.mem_of_getElem? (i := 842) (by decide +kernel), List.mem_of_getElem? (i := 1038) (by decide +kernel), List.mem_of_getElem? (i := 1039) (by decide +kernel)⟩
theorem lw_p35 : lw_okq (⟨"KitchenWheelsModel", "nameAt", "(II)I"⟩, 17) := ⟨⟨by decide +kernel, by decide +kernel⟩, List.mem_of_getElem? (i := 842) (by decide +kernel), List.mem_of_getElem? (i := 1042) (by decide +kernel), List.mem_of_getElem? (i := 1043) (by decide +kernel)⟩
theorem lw_p36 : lw_okq (⟨"KitchenWheelsModel", "turnBy", "(II)V"⟩, 17) := ⟨⟨by decide +kernel, by decide +kernel⟩, List.mem_of_getElem? (i := 842) (by decide +kernel), List.mem_of_getElem? (i := 1049) (by decide +kernel), List.mem_of_getElem? (i := 1050) (by decide +kernel)⟩
theorem lw_p37 : lw_okq (⟨"KitchenWheelsModel", "isTurner", "(I)Z"⟩, 17) := ⟨⟨by decide +kernel, by decide +kernel⟩, List.mem_of_getElem? (i := 842) (by decide +kernel), List.mem_of_getElem? (i := 1087) (by decide +kernel), List.mem_of_getElem? (i := 1088) (by decide +kernel)⟩
theorem lw_p38 : lw_okq (⟨"KitchenWheelsModel", "layTried", "(I)V"⟩, 17) := ⟨⟨by decide +kernel, by decide +kernel⟩, List.mem_of_getElem? (i := 842) (by decide +kernel), List.mem_of_getElem? (i := 1096) (by decide +kernel), List.mem_of_getElem? (i := 1097) (by decide +kernel)⟩
theorem lw_p39 : lw_okq (⟨"KitchenWheelsModel", "doesTried", "(II)Z"⟩, 17) := ⟨⟨by decide +kernel, by decide +kernel⟩, List.mem_of_getElem? (i := 842) (by decide +kernel), List.mem_of_getElem? (i := 1100) (by decide +kernel), List.mem_of_getElem? (i := 1101) (by decide +kernel)⟩
theorem lw_p40 : lw_okq (⟨"KitchenWheelsModel", "doersTried", "(I)I"⟩, 17) := ⟨⟨by decide +kernel, by decide +kernel⟩, List.mem_of_getElem? (i := 842) (by decide +kernel), List.mem_of_getElem? (i := 1108) (by decide +kernel), List.mem_of_getElem? (i := 1109) (by decide +kernel)⟩
theorem lw_p41 : lw_okq (⟨"KitchenWheelsModel", "haveAllMet", "()Z"⟩, 17) := ⟨⟨by decide +kernel, by decide +kernel⟩, List.mem_of_getElem? (i := 842) (by decide +kernel), List.mem_of_getElem? (i := 1124) (by decide +kernel), List.mem_of_getElem? (i := 1125) (by decide +kernel)⟩
theorem lw_p42 : lw_okq (⟨"KitchenWheelsModel", "onWheel", "(III)I"⟩, 17) := ⟨⟨by decide +kernel, by decide +kernel⟩, List.mem_of_getElem? (i := 842) (by decide +kernel), List.mem_of_getElem? (i := 1128) (by decide +kernel), List.mem_of_getElem? (i := 1129) (by decide +kernel)⟩
theorem lw_p43 : lw_okq (⟨"KitchenWheelsModel", "differenceTried", "()I"⟩, 17) := ⟨⟨by decide +kernel, by decide +kernel⟩, List.mem_of_getElem? (i := 842) (by decide +kernel), List.mem_of_getElem? (i := 1141) (by decide +kernel), List.mem_of_getElem? (i := 1142) (by decide +kernel)⟩
theorem lw_p44 : lw_okq (⟨"KitchenWheelsModel", "doneBy", "(II)I"⟩, 17) := ⟨⟨by decide +kernel, by decide +kernel⟩, List.mem_of_getElem? (i := 842) (by decide +kernel), List.mem_of_getElem? (i := 1145) (by decide +kernel), List.mem_of_getElem? (i := 1146) (by decide +kernel)⟩
theorem lw_p45 : lw_okq (⟨"KitchenWheelsModel", "isRight", "(IIIII)Z"⟩, 17) := ⟨⟨by decide +kernel, by decide +kernel⟩, List.mem_of_getElem? (i := 842) (by decide +kernel), List.mem_of_getElem? (i := 1157) (by decide +kernel), List.mem_of_getElem? (i := 1158) (by decide +kernel)⟩
theorem lw_p46 : lw_okq (⟨"KitchenWheelsModel", "noItems", "(III)I"⟩, 17) := ⟨⟨by decide +kernel, by decide +kernel⟩, List.mem_of_getElem? (i := 842) (by decide +kernel), List.mem_of_getElem? (i := 1170) (by decide +kernel), List.mem_of_getElem? (i := 1171) (by decide +kernel)⟩
theorem lw_p47 : lw_okq (⟨"KitchenWheelsModel", "isSeenSo", "(IIIII)Z"⟩, 17) := ⟨⟨by decide +kernel, by decide +kernel⟩, List.mem_of_getElem? (i := 842) (by decide +kernel), List.mem_of_getElem? (i := 1174) (by decide +kernel), List.mem_of_getElem? (i := 1175) (by decide +kernel)⟩
def lw_privs_3 : List (MethodName × Nat) := [(⟨"KitchenWheelsModel", "pass", "(II)V"⟩, 17), (⟨"KitchenWheelsModel", "doerOf", "(II)I"⟩, 17), (⟨"KitchenWheelsModel", "jobOf", "(II)I"⟩, 17), (⟨"KitchenWheelsModel", "nameAt", "(II)I"⟩, 17), (⟨"KitchenWheelsModel", "turnBy", "(II)V"⟩, 17), (⟨"KitchenWheelsModel", "isTurner", "(I)Z"⟩, 17), (⟨"KitchenWheelsModel", "layTried", "(I)V"⟩, 17), (⟨"KitchenWheelsModel", "doesTried", "(II)Z"⟩, 17), (⟨"KitchenWheelsModel", "doersTried", "(I)I"⟩, 17), (⟨"KitchenWheelsModel", "haveAllMet", "()Z"⟩, 17), (⟨"KitchenWheelsModel", "onWheel", "(III)I"⟩, 17), (⟨"KitchenWheelsModel", "differenceTried", "()I"⟩, 17), (⟨"KitchenWheelsModel", "doneBy", "(II)I"⟩, 17), (⟨"KitchenWheelsModel", "isRight", "(IIIII)Z"⟩, 17), (⟨"KitchenWheelsModel", "noItems", "(III)I"⟩, 17), (⟨"KitchenWheelsModel", "isSeenSo", "(IIIII)Z"⟩, 17)]
theorem lw_r3 : ∀ q ∈ lw_privs_3, lw_okq q := List.forall_mem_cons.mpr ⟨lw_p32, List.forall_mem_cons.mpr ⟨lw_p33, List.forall_mem_cons.mpr ⟨lw_p34, List.forall_mem_cons.mpr ⟨lw_p35, List.forall_mem_cons.mpr ⟨lw_p36, List.forall_mem_cons.mpr ⟨lw_p37, List.forall_mem_cons.mpr ⟨lw_p38, List.forall_mem_cons.mpr ⟨lw_p39, List.forall_mem_cons.mpr ⟨lw_p40, List.forall_mem_cons.mpr ⟨lw_p41, List.forall_mem_cons.mpr ⟨lw_p42, List.forall_mem_cons.mpr ⟨lw_p43, List.forall_mem_cons.mpr ⟨lw_p44, List.forall_mem_cons.mpr ⟨lw_p45, List.forall_mem_cons.mpr ⟨lw_p46, List.forall_mem_cons.mpr ⟨lw_p47, fun _ h => absurd h List.not_mem_nil⟩⟩⟩⟩⟩⟩⟩⟩⟩⟩⟩⟩⟩⟩⟩⟩
theorem lw_p48 : lw_okq (⟨"KitchenWheelsModel", "firstDoer", "(I)I"⟩, 17) := ⟨⟨by decide +kernel, by decide +kernel⟩, List.mem_of_getElem? (i := 842) (by decide +kernel), List.mem_of_getElem? (i := 1178) (by decide +kernel), List.mem_of_getElem? (i := 1179) (by decide +kernel)⟩
theorem lw_p49 : lw_okq (⟨"KitchenWheelsModel", "isTurnedSo", "(IIIII)Z"⟩, 17) := ⟨⟨by decide +kernel, by decide +kernel⟩, List.mem_of_getElem? (i := 842) (by decide +kernel), List.mem_of_getElem? (i := 1186) (by decide +kernel), List.mem_of_getElem? (i := 1187) (by decide +kernel)⟩
theorem lw_p50 : lw_okq (⟨"KitchenWheelsModel", "areTogether", "(III)Z"⟩, 17) := ⟨⟨by decide +kernel, by decide +kernel⟩, List.mem_of_getElem? (i := 842) (by decide +kernel), List.mem_of_getElem? (i := 1194) (by decide +kernel), List.mem_of_getElem? (i := 1195) (by decide +kernel)⟩
theorem lw_p51 : lw_okq (⟨"KitchenWheelsModel", "doneInAll", "(I)I"⟩, 17) := ⟨⟨by decide +kernel, by decide +kernel⟩, List.mem_of_getElem? (i := 842) (by decide +kernel), List.mem_of_getElem? (i := 1212) (by decide +kernel), List.mem_of_getElem? (i := 1213) (by decide +kernel)⟩
theorem lw_p52 : lw_okq (⟨"KitchenWheelsModel", "isOf", "(II)Z"⟩, 17) := ⟨⟨by decide +kernel, by decide +kernel⟩, List.mem_of_getElem? (i := 842) (by decide +kernel), List.mem_of_getElem? (i := 1232) (by decide +kernel), List.mem_of_getElem? (i := 1233) (by decide +kernel)⟩
theorem lw_p53 : lw_okq (⟨"KitchenWheelsModel", "sizeOf", "(I)I"⟩, 17) := ⟨⟨by decide +kernel, by decide +kernel⟩, List.mem_of_getElem? (i := 842) (by decide +kernel), List.mem_of_getElem? (i := 1240) (by decide +kernel), List.mem_of_getElem? (i := 1241) (by decide +kernel)⟩
theorem lw_p54 : lw_okq (⟨"KitchenWheelsModel", "begin", "(I)V"⟩, 17) := ⟨⟨by decide +kernel, by decide +kernel⟩, List.mem_of_getElem? (i := 842) (by decide +kernel), List.mem_of_getElem? (i := 1244) (by decide +kernel), List.mem_of_getElem? (i := 1245) (by decide +kernel)⟩
theorem lw_p55 : lw_okq (⟨"KitchenWheelsModel", "onesSize", "(I)I"⟩, 17) := ⟨⟨by decide +kernel, by decide +kernel⟩, List.mem_of_getElem? (i := 842) (by decide +kernel), List.mem_of_getElem? (i := 1248) (by decide +kernel), List.mem_of_getElem? (i := 1249) (by decide +kernel)⟩
theorem lw_p56 : lw_okq (⟨"KitchenWheelsModel", "lentSize", "(I)I"⟩, 17) := ⟨⟨by decide +kernel, by decide +kernel⟩, List.mem_of_getElem? (i := 842) (by decide +kernel), List.mem_of_getElem? (i := 1252) (by decide +kernel), List.mem_of_getElem? (i := 1253) (by decide +kernel)⟩
theorem lw_p57 : lw_okq (⟨"KitchenWheelsModel", "mark", "(I)I"⟩, 17) := ⟨⟨by decide +kernel, by decide +kernel⟩, List.mem_of_getElem? (i := 842) (by decide +kernel), List.mem_of_getElem? (i := 1256) (by decide +kernel), List.mem_of_getElem? (i := 1257) (by decide +kernel)⟩
theorem lw_p58 : lw_okq (⟨"KitchenWheelsModel", "onesMark", "(I)I"⟩, 17) := ⟨⟨by decide +kernel, by decide +kernel⟩, List.mem_of_getElem? (i := 842) (by decide +kernel), List.mem_of_getElem? (i := 1260) (by decide +kernel), List.mem_of_getElem? (i := 1261) (by decide +kernel)⟩
theorem lw_p59 : lw_okq (⟨"KitchenWheelsModel", "lentMark", "(I)I"⟩, 17) := ⟨⟨by decide +kernel, by decide +kernel⟩, List.mem_of_getElem? (i := 842) (by decide +kernel), List.mem_of_getElem? (i := 1264) (by decide +kernel), List.mem_of_getElem? (i := 1265) (by decide +kernel)⟩
theorem lw_p60 : lw_okq (⟨"KitchenWheelsModel", "lawsSize", "(I)I"⟩, 17) := ⟨⟨by decide +kernel, by decide +kernel⟩, List.mem_of_getElem? (i := 842) (by decide +kernel), List.mem_of_getElem? (i := 1268) (by decide +kernel), List.mem_of_getElem? (i := 1269) (by decide +kernel)⟩
theorem lw_p61 : lw_okq (⟨"KitchenWheelsModel", "lawsMark", "(I)I"⟩, 17) := ⟨⟨by decide +kernel, by decide +kernel⟩, List.mem_of_getElem? (i := 842) (by decide +kernel), List.mem_of_getElem? (i := 1272) (by decide +kernel), List.mem_of_getElem? (i := 1273) (by decide +kernel)⟩
def lw_privs_4 : List (MethodName × Nat) := [(⟨"KitchenWheelsModel", "firstDoer", "(I)I"⟩, 17), (⟨"KitchenWheelsModel", "isTurnedSo", "(IIIII)Z"⟩, 17), (⟨"KitchenWheelsModel", "areTogether", "(III)Z"⟩, 17), (⟨"KitchenWheelsModel", "doneInAll", "(I)I"⟩, 17), (⟨"KitchenWheelsModel", "isOf", "(II)Z"⟩, 17), (⟨"KitchenWheelsModel", "sizeOf", "(I)I"⟩, 17), (⟨"KitchenWheelsModel", "begin", "(I)V"⟩, 17), (⟨"KitchenWheelsModel", "onesSize", "(I)I"⟩, 17), (⟨"KitchenWheelsModel", "lentSize", "(I)I"⟩, 17), (⟨"KitchenWheelsModel", "mark", "(I)I"⟩, 17), (⟨"KitchenWheelsModel", "onesMark", "(I)I"⟩, 17), (⟨"KitchenWheelsModel", "lentMark", "(I)I"⟩, 17), (⟨"KitchenWheelsModel", "lawsSize", "(I)I"⟩, 17), (⟨"KitchenWheelsModel", "lawsMark", "(I)I"⟩, 17)]
theorem lw_r4 : ∀ q ∈ lw_privs_4, lw_okq q := List.forall_mem_cons.mpr ⟨lw_p48, List.forall_mem_cons.mpr ⟨lw_p49, List.forall_mem_cons.mpr ⟨lw_p50, List.forall_mem_cons.mpr ⟨lw_p51, List.forall_mem_cons.mpr ⟨lw_p52, List.forall_mem_cons.mpr ⟨lw_p53, List.forall_mem_cons.mpr ⟨lw_p54, List.forall_mem_cons.mpr ⟨lw_p55, List.forall_mem_cons.mpr ⟨lw_p56, List.forall_mem_cons.mpr ⟨lw_p57, List.forall_mem_cons.mpr ⟨lw_p58, List.forall_mem_cons.mpr ⟨lw_p59, List.forall_mem_cons.mpr ⟨lw_p60, List.forall_mem_cons.mpr ⟨lw_p61, fun _ h => absurd h List.not_mem_nil⟩⟩⟩⟩⟩⟩⟩⟩⟩⟩⟩⟩⟩⟩
def lw_privs : List (MethodName × Nat) := lw_privs_1 ++ (lw_privs_2 ++ (lw_privs_3 ++ (lw_privs_4)))
def lw_tbl : List Cond := k2_sels lw_privs ++ tables_1
theorem lw_privs_ok : ∀ q ∈ lw_privs, lw_okq q := by
  show ∀ q ∈ lw_privs_1 ++ (lw_privs_2 ++ (lw_privs_3 ++ (lw_privs_4))), lw_okq q
  exact List.forall_mem_append.mpr ⟨lw_r1, List.forall_mem_append.mpr ⟨lw_r2, List.forall_mem_append.mpr ⟨lw_r3, lw_r4⟩⟩⟩
-- ===== end of PART A; then your names; then what follows =====
end
section
/-! ===== BEGIN words of one list among another's, by their places ===== -/
theorem goodIn_r {big : List Cond} (ws : List Cond) (ps : List Nat) (hp : ws = ps.filterMap (fun i => big[i]?)) (h : ws.all goodWord = true) : GoodIn big ws := by
  intro w hw
  have h1 := List.all_eq_true.mp h w hw
  rw [hp] at hw
  obtain ⟨i, -, hi⟩ := List.mem_filterMap.mp hw
  have hm : w ∈ big := by first | exact List.mem_of_getElem? hi | exact List.getElem?_mem hi
  exact ⟨hm, good_of_word h1⟩
theorem goodIn_app {big a b : List Cond} (ha : GoodIn big a) (hb : GoodIn big b) : GoodIn big (a ++ b) := fun w h => (List.mem_append.mp h).elim (ha w) (hb w)
theorem goodIn_ca {big a b : List Cond} {c : Cond} (ha : GoodIn big (c :: a)) (hb : GoodIn big b) : GoodIn big (c :: (a ++ b)) := fun w h => (List.mem_cons.mp h).elim (fun e => ha w (List.mem_cons.mpr (Or.inl e))) (fun h => (List.mem_append.mp h).elim (fun h => ha w (List.mem_cons.mpr (Or.inr h))) (hb w))
theorem goodIn_sub {big ws : List Cond} (hm : ∀ w ∈ ws, w ∈ big) (h : ws.all goodWord = true) : GoodIn big ws := fun w hw => ⟨hm w hw, good_of_word (List.all_eq_true.mp h w hw)⟩
/-! ===== END ===== -/
/-! ===== BEGIN printed: names, fields, word lists, decode rows ===== -/
def RX0 : String := "KitchenWheels$Both"
def TX0 : u_T := fun k => match k with
  | 0 => ("KitchenWheels$Turner", "number", "I", true)
  | _ => ("KitchenWheels$Turner", "by", "I", true)
def tyX0 : Nat → FieldType := fun k => match k with
  | 0 => .int
  | _ => .int
abbrev wsX00 : List Cond := u_ws RX0 TX0 2
theorem nmX0 : ∀ a, a < 2 → ∀ b, b < 2 → a ≠ b → (TX0 a).2.1 ≠ (TX0 b).2.1 := by decide +kernel
theorem tyX0_ok : ∀ k, k < 2 → parseFieldDescriptor (TX0 k).2.2.1 = some (tyX0 k) := by decide +kernel
abbrev cX0_init : ByteArray := prog_2_method_1_code
def yX0_init : MethodName := ⟨RX0, "<init>", "(II)V"⟩
abbrev cX0_ownKind : ByteArray := prog_2_method_2_code
def yX0_ownKind : MethodName := ⟨RX0, "ownKind", "()I"⟩
abbrev cX0_howFar : ByteArray := prog_2_method_3_code
def yX0_howFar : MethodName := ⟨RX0, "howFar", "(I)I"⟩
abbrev cX0_mark : ByteArray := prog_2_method_4_code
def yX0_mark : MethodName := ⟨RX0, "mark", "(LKitchenWheels$Trace;II)I"⟩
def RX1 : String := "KitchenWheels$Foreteller"
def TX1 : u_T := fun k => match k with
  | 0 => ("KitchenWheels$Foreteller", "trial", "LKitchenWheels$Kitchen;", true)
  | 1 => ("KitchenWheels$Foreteller", "ofPeople", "[I", true)
  | 2 => ("KitchenWheels$Foreteller", "cases", "[J", true)
  | _ => ("KitchenWheels$Foreteller", "nextCases", "[J", true)
def tyX1 : Nat → FieldType := fun k => match k with
  | 0 => .object "KitchenWheels$Kitchen"
  | 1 => .array .int
  | 2 => .array .long
  | _ => .array .long
abbrev wsX10 : List Cond := u_ws RX1 TX1 4
theorem nmX1 : ∀ a, a < 4 → ∀ b, b < 4 → a ≠ b → (TX1 a).2.1 ≠ (TX1 b).2.1 := by decide +kernel
theorem tyX1_ok : ∀ k, k < 4 → parseFieldDescriptor (TX1 k).2.2.1 = some (tyX1 k) := by decide +kernel
abbrev cX1_init : ByteArray := prog_3_method_1_code
def yX1_init : MethodName := ⟨RX1, "<init>", "()V"⟩
abbrev cX1_timesIn : ByteArray := prog_3_method_2_code
def yX1_timesIn : MethodName := ⟨RX1, "timesIn", "(LKitchenWheels$Kitchen;III)I"⟩
abbrev cX1_firstMeeting : ByteArray := prog_3_method_3_code
def yX1_firstMeeting : MethodName := ⟨RX1, "firstMeeting", "(LKitchenWheels$Kitchen;II)I"⟩
abbrev cX1_weeksUntilAllMet : ByteArray := prog_3_method_4_code
def yX1_weeksUntilAllMet : MethodName := ⟨RX1, "weeksUntilAllMet", "(LKitchenWheels$Kitchen;)I"⟩
abbrev cX1_weeksUntilAnew : ByteArray := prog_3_method_5_code
def yX1_weeksUntilAnew : MethodName := ⟨RX1, "weeksUntilAnew", "(LKitchenWheels$Kitchen;)I"⟩
abbrev cX1_fairestTurn : ByteArray := prog_3_method_6_code
def yX1_fairestTurn : MethodName := ⟨RX1, "fairestTurn", "(LKitchenWheels$Kitchen;I)I"⟩
abbrev cX1_spreadTurnedBy : ByteArray := prog_3_method_7_code
def yX1_spreadTurnedBy : MethodName := ⟨RX1, "spreadTurnedBy", "(LKitchenWheels$Kitchen;II)I"⟩
abbrev cX1_spreadAsTurned : ByteArray := prog_3_method_8_code
def yX1_spreadAsTurned : MethodName := ⟨RX1, "spreadAsTurned", "(LKitchenWheels$Kitchen;I)I"⟩
abbrev cX1_countWeek : ByteArray := prog_3_method_9_code
def yX1_countWeek : MethodName := ⟨RX1, "countWeek", "(LKitchenWheels$Kitchen;II)V"⟩
abbrev cX1_spreadOver : ByteArray := prog_3_method_10_code
def yX1_spreadOver : MethodName := ⟨RX1, "spreadOver", "(I)I"⟩
abbrev cX1_swapFor : ByteArray := prog_3_method_11_code
def yX1_swapFor : MethodName := ⟨RX1, "swapFor", "(LKitchenWheels$Kitchen;III)I"⟩
abbrev cX1_swapNames : ByteArray := prog_3_method_12_code
def yX1_swapNames : MethodName := ⟨RX1, "swapNames", "(II)V"⟩
abbrev cX1_nameToWrite : ByteArray := prog_3_method_13_code
def yX1_nameToWrite : MethodName := ⟨RX1, "nameToWrite", "(LKitchenWheels$Kitchen;)I"⟩
abbrev cX1_turnedSeen : ByteArray := prog_3_method_14_code
def yX1_turnedSeen : MethodName := ⟨RX1, "turnedSeen", "(LKitchenWheels$Kitchen;ILKitchenWheels$Rows;III)I"⟩
abbrev cX1_leastOf : ByteArray := prog_3_method_15_code
def yX1_leastOf : MethodName := ⟨RX1, "leastOf", "(I)I"⟩
abbrev cX1_kindsSeen : ByteArray := prog_3_method_16_code
def yX1_kindsSeen : MethodName := ⟨RX1, "kindsSeen", "(LKitchenWheels$Kitchen;ILKitchenWheels$Rows;III)I"⟩
abbrev cX1_pairsIn : ByteArray := prog_3_method_17_code
def yX1_pairsIn : MethodName := ⟨RX1, "pairsIn", "(LKitchenWheels$Kitchen;I)I"⟩
abbrev cX1_casesOf : ByteArray := prog_3_method_18_code
def yX1_casesOf : MethodName := ⟨RX1, "casesOf", "(LKitchenWheels$Kitchen;IIII)J"⟩
abbrev cX1_passForgetful : ByteArray := prog_3_method_19_code
def yX1_passForgetful : MethodName := ⟨RX1, "passForgetful", "(LKitchenWheels$Kitchen;II)V"⟩
abbrev cX1_doneByDraws : ByteArray := prog_3_method_20_code
def yX1_doneByDraws : MethodName := ⟨RX1, "doneByDraws", "(LKitchenWheels$Kitchen;II)I"⟩
def RX2 : String := "KitchenWheels$Kitchen"
def TX2 : u_T := fun k => match k with
  | 0 => ("KitchenWheels$Kitchen", "names", "[I", true)
  | 1 => ("KitchenWheels$Kitchen", "jobs", "[I", true)
  | 2 => ("KitchenWheels$Kitchen", "turners", "[LKitchenWheels$Turner;", true)
  | 3 => ("KitchenWheels$Kitchen", "times", "[I", true)
  | 4 => ("KitchenWheels$Kitchen", "nameSlots", "I", false)
  | 5 => ("KitchenWheels$Kitchen", "jobSlots", "I", false)
  | 6 => ("KitchenWheels$Kitchen", "turnerCount", "I", false)
  | 7 => ("KitchenWheels$Kitchen", "week", "I", false)
  | 8 => ("KitchenWheels$Kitchen", "turned", "I", false)
  | _ => ("KitchenWheels$Kitchen", "away", "I", false)
def tyX2 : Nat → FieldType := fun k => match k with
  | 0 => .array .int
  | 1 => .array .int
  | 2 => .array (.object "KitchenWheels$Turner")
  | 3 => .array .int
  | 4 => .int
  | 5 => .int
  | 6 => .int
  | 7 => .int
  | 8 => .int
  | _ => .int
abbrev wsX20 : List Cond := u_ws RX2 TX2 10
theorem nmX2 : ∀ a, a < 10 → ∀ b, b < 10 → a ≠ b → (TX2 a).2.1 ≠ (TX2 b).2.1 := by decide +kernel
theorem tyX2_ok : ∀ k, k < 10 → parseFieldDescriptor (TX2 k).2.2.1 = some (tyX2 k) := by decide +kernel
abbrev cX2_init : ByteArray := prog_4_method_1_code
def yX2_init : MethodName := ⟨RX2, "<init>", "()V"⟩
abbrev cX2_isThere : ByteArray := prog_4_method_2_code
def yX2_isThere : MethodName := ⟨RX2, "isThere", "()Z"⟩
abbrev cX2_become : ByteArray := prog_4_method_3_code
def yX2_become : MethodName := ⟨RX2, "become", "(LKitchenWheels$Kitchen;)V"⟩
abbrev cX2_turnerAt : ByteArray := prog_4_method_4_code
def yX2_turnerAt : MethodName := ⟨RX2, "turnerAt", "(I)LKitchenWheels$Turner;"⟩
abbrev cX2_jobHad : ByteArray := prog_4_method_5_code
def yX2_jobHad : MethodName := ⟨RX2, "jobHad", "(II)I"⟩
abbrev cX2_doerIn : ByteArray := prog_4_method_6_code
def yX2_doerIn : MethodName := ⟨RX2, "doerIn", "(III)I"⟩
abbrev cX2_jobsOf : ByteArray := prog_4_method_7_code
def yX2_jobsOf : MethodName := ⟨RX2, "jobsOf", "(III)I"⟩
abbrev cX2_doersOf : ByteArray := prog_4_method_8_code
def yX2_doersOf : MethodName := ⟨RX2, "doersOf", "(III)I"⟩
abbrev cX2_passWeek : ByteArray := prog_4_method_9_code
def yX2_passWeek : MethodName := ⟨RX2, "passWeek", "()V"⟩
abbrev cX2_turnedNext : ByteArray := prog_4_method_10_code
def yX2_turnedNext : MethodName := ⟨RX2, "turnedNext", "(II)I"⟩
abbrev cX2_turnedBehind : ByteArray := prog_4_method_11_code
def yX2_turnedBehind : MethodName := ⟨RX2, "turnedBehind", "(I)I"⟩
abbrev cX2_awayBehind : ByteArray := prog_4_method_12_code
def yX2_awayBehind : MethodName := ⟨RX2, "awayBehind", "(I)I"⟩
abbrev cX2_peopleOnIt : ByteArray := prog_4_method_13_code
def yX2_peopleOnIt : MethodName := ⟨RX2, "peopleOnIt", "()I"⟩
abbrev cX2_jobsOnIt : ByteArray := prog_4_method_14_code
def yX2_jobsOnIt : MethodName := ⟨RX2, "jobsOnIt", "()I"⟩
abbrev cX2_bitsOf : ByteArray := prog_4_method_15_code
def yX2_bitsOf : MethodName := ⟨RX2, "bitsOf", "([II)I"⟩
abbrev cX2_allTimesOf : ByteArray := prog_4_method_16_code
def yX2_allTimesOf : MethodName := ⟨RX2, "allTimesOf", "(I)I"⟩
abbrev cX2_allTimes : ByteArray := prog_4_method_17_code
def yX2_allTimes : MethodName := ⟨RX2, "allTimes", "()I"⟩
def RX3 : String := "KitchenWheels$Law"
def TX3 : u_T := fun k => match k with
  | 0 => ("KitchenWheels$Turner", "number", "I", true)
  | _ => ("KitchenWheels$Turner", "by", "I", true)
def tyX3 : Nat → FieldType := fun k => match k with
  | 0 => .int
  | _ => .int
abbrev wsX30 : List Cond := u_ws RX3 TX3 2
theorem nmX3 : ∀ a, a < 2 → ∀ b, b < 2 → a ≠ b → (TX3 a).2.1 ≠ (TX3 b).2.1 := by decide +kernel
theorem tyX3_ok : ∀ k, k < 2 → parseFieldDescriptor (TX3 k).2.2.1 = some (tyX3 k) := by decide +kernel
abbrev cX3_init : ByteArray := prog_5_method_1_code
def yX3_init : MethodName := ⟨RX3, "<init>", "(II)V"⟩
abbrev cX3_ownKind : ByteArray := prog_5_method_2_code
def yX3_ownKind : MethodName := ⟨RX3, "ownKind", "()I"⟩
abbrev cX3_howFar : ByteArray := prog_5_method_3_code
def yX3_howFar : MethodName := ⟨RX3, "howFar", "(I)I"⟩
abbrev cX3_size : ByteArray := prog_5_method_4_code
def yX3_size : MethodName := ⟨RX3, "size", "(LKitchenWheels$Trace;II)I"⟩
abbrev cX3_mark : ByteArray := prog_5_method_5_code
def yX3_mark : MethodName := ⟨RX3, "mark", "(LKitchenWheels$Trace;II)I"⟩
def RX4 : String := "KitchenWheels$One"
def TX4 : u_T := fun k => match k with
  | 0 => ("KitchenWheels$Turner", "number", "I", true)
  | _ => ("KitchenWheels$Turner", "by", "I", true)
def tyX4 : Nat → FieldType := fun k => match k with
  | 0 => .int
  | _ => .int
abbrev wsX40 : List Cond := u_ws RX4 TX4 2
theorem nmX4 : ∀ a, a < 2 → ∀ b, b < 2 → a ≠ b → (TX4 a).2.1 ≠ (TX4 b).2.1 := by decide +kernel
theorem tyX4_ok : ∀ k, k < 2 → parseFieldDescriptor (TX4 k).2.2.1 = some (tyX4 k) := by decide +kernel
abbrev cX4_init : ByteArray := prog_6_method_1_code
def yX4_init : MethodName := ⟨RX4, "<init>", "(II)V"⟩
abbrev cX4_ownKind : ByteArray := prog_6_method_2_code
def yX4_ownKind : MethodName := ⟨RX4, "ownKind", "()I"⟩
abbrev cX4_howFar : ByteArray := prog_6_method_3_code
def yX4_howFar : MethodName := ⟨RX4, "howFar", "(I)I"⟩
abbrev cX4_size : ByteArray := prog_6_method_4_code
def yX4_size : MethodName := ⟨RX4, "size", "(LKitchenWheels$Trace;II)I"⟩
abbrev cX4_mark : ByteArray := prog_6_method_5_code
def yX4_mark : MethodName := ⟨RX4, "mark", "(LKitchenWheels$Trace;II)I"⟩
def RX5 : String := "KitchenWheels$Righter"
def TX5 : u_T := fun k => match k with
  | 0 => ("KitchenWheels$Turner", "number", "I", true)
  | _ => ("KitchenWheels$Turner", "by", "I", true)
def tyX5 : Nat → FieldType := fun k => match k with
  | 0 => .int
  | _ => .int
abbrev wsX50 : List Cond := u_ws RX5 TX5 2
theorem nmX5 : ∀ a, a < 2 → ∀ b, b < 2 → a ≠ b → (TX5 a).2.1 ≠ (TX5 b).2.1 := by decide +kernel
theorem tyX5_ok : ∀ k, k < 2 → parseFieldDescriptor (TX5 k).2.2.1 = some (tyX5 k) := by decide +kernel
abbrev cX5_init : ByteArray := prog_7_method_1_code
def yX5_init : MethodName := ⟨RX5, "<init>", "(II)V"⟩
abbrev cX5_ownKind : ByteArray := prog_7_method_2_code
def yX5_ownKind : MethodName := ⟨RX5, "ownKind", "()I"⟩
abbrev cX5_howFar : ByteArray := prog_7_method_3_code
def yX5_howFar : MethodName := ⟨RX5, "howFar", "(I)I"⟩
abbrev cX5_size : ByteArray := prog_7_method_4_code
def yX5_size : MethodName := ⟨RX5, "size", "(LKitchenWheels$Trace;II)I"⟩
def RX6 : String := "KitchenWheels$Rows"
def TX6 : u_T := fun k => match k with
  | 0 => ("KitchenWheels$Rows", "items", "[[I", true)
  | 1 => ("KitchenWheels$Rows", "lanes", "[I", true)
  | _ => ("KitchenWheels$Rows", "sizes", "[I", true)
def tyX6 : Nat → FieldType := fun k => match k with
  | 0 => .array (.array .int)
  | 1 => .array .int
  | _ => .array .int
abbrev wsX60 : List Cond := u_ws RX6 TX6 3
theorem nmX6 : ∀ a, a < 3 → ∀ b, b < 3 → a ≠ b → (TX6 a).2.1 ≠ (TX6 b).2.1 := by decide +kernel
theorem tyX6_ok : ∀ k, k < 3 → parseFieldDescriptor (TX6 k).2.2.1 = some (tyX6 k) := by decide +kernel
abbrev cX6_init : ByteArray := prog_8_method_1_code
def yX6_init : MethodName := ⟨RX6, "<init>", "()V"⟩
abbrev cX6_isRow : ByteArray := prog_8_method_2_code
def yX6_isRow : MethodName := ⟨RX6, "isRow", "(I)Z"⟩
abbrev cX6_isMissing : ByteArray := prog_8_method_3_code
def yX6_isMissing : MethodName := ⟨RX6, "isMissing", "(I)Z"⟩
abbrev cX6_laneOf : ByteArray := prog_8_method_4_code
def yX6_laneOf : MethodName := ⟨RX6, "laneOf", "(I)I"⟩
abbrev cX6_findingAt : ByteArray := prog_8_method_5_code
def yX6_findingAt : MethodName := ⟨RX6, "findingAt", "(III)I"⟩
abbrev cX6_lay : ByteArray := prog_8_method_6_code
def yX6_lay : MethodName := ⟨RX6, "lay", "(III)V"⟩
abbrev cX6_itemAt : ByteArray := prog_8_method_7_code
def yX6_itemAt : MethodName := ⟨RX6, "itemAt", "(II)I"⟩
abbrev cX6_put : ByteArray := prog_8_method_8_code
def yX6_put : MethodName := ⟨RX6, "put", "(III)I"⟩
abbrev cX6_move : ByteArray := prog_8_method_9_code
def yX6_move : MethodName := ⟨RX6, "move", "(IIIII)V"⟩
abbrev cX6_lose : ByteArray := prog_8_method_10_code
def yX6_lose : MethodName := ⟨RX6, "lose", "(I)I"⟩
abbrev cX6_present : ByteArray := prog_8_method_11_code
def yX6_present : MethodName := ⟨RX6, "present", "()I"⟩
def RX7 : String := "KitchenWheels$Step"
def TX7 : u_T := fun k => match k with
  | 0 => ("KitchenWheels$Turner", "number", "I", true)
  | _ => ("KitchenWheels$Turner", "by", "I", true)
def tyX7 : Nat → FieldType := fun k => match k with
  | 0 => .int
  | _ => .int
abbrev wsX70 : List Cond := u_ws RX7 TX7 2
theorem nmX7 : ∀ a, a < 2 → ∀ b, b < 2 → a ≠ b → (TX7 a).2.1 ≠ (TX7 b).2.1 := by decide +kernel
theorem tyX7_ok : ∀ k, k < 2 → parseFieldDescriptor (TX7 k).2.2.1 = some (tyX7 k) := by decide +kernel
abbrev cX7_init : ByteArray := prog_9_method_1_code
def yX7_init : MethodName := ⟨RX7, "<init>", "(II)V"⟩
abbrev cX7_ownKind : ByteArray := prog_9_method_2_code
def yX7_ownKind : MethodName := ⟨RX7, "ownKind", "()I"⟩
abbrev cX7_howFar : ByteArray := prog_9_method_3_code
def yX7_howFar : MethodName := ⟨RX7, "howFar", "(I)I"⟩
abbrev cX7_size : ByteArray := prog_9_method_4_code
def yX7_size : MethodName := ⟨RX7, "size", "(LKitchenWheels$Trace;II)I"⟩
abbrev cX7_mark : ByteArray := prog_9_method_5_code
def yX7_mark : MethodName := ⟨RX7, "mark", "(LKitchenWheels$Trace;II)I"⟩
def RX8 : String := "KitchenWheels$Tape"
def TX8 : u_T := fun k => match k with
  | 0 => ("KitchenWheels$Tape", "bytes", "[I", true)
  | 1 => ("KitchenWheels$Tape", "length", "I", false)
  | 2 => ("KitchenWheels$Tape", "draft", "LKitchenWheels$Kitchen;", true)
  | 3 => ("KitchenWheels$Tape", "faultNumber", "I", false)
  | _ => ("KitchenWheels$Tape", "place", "I", false)
def tyX8 : Nat → FieldType := fun k => match k with
  | 0 => .array .int
  | 1 => .int
  | 2 => .object "KitchenWheels$Kitchen"
  | 3 => .int
  | _ => .int
abbrev wsX80 : List Cond := u_ws RX8 TX8 5
theorem nmX8 : ∀ a, a < 5 → ∀ b, b < 5 → a ≠ b → (TX8 a).2.1 ≠ (TX8 b).2.1 := by decide +kernel
theorem tyX8_ok : ∀ k, k < 5 → parseFieldDescriptor (TX8 k).2.2.1 = some (tyX8 k) := by decide +kernel
abbrev cX8_init : ByteArray := prog_10_method_1_code
def yX8_init : MethodName := ⟨RX8, "<init>", "()V"⟩
abbrev cX8_take : ByteArray := prog_10_method_2_code
def yX8_take : MethodName := ⟨RX8, "take", "(I)Z"⟩
abbrev cX8_read : ByteArray := prog_10_method_3_code
def yX8_read : MethodName := ⟨RX8, "read", "()Z"⟩
abbrev cX8_readWheel : ByteArray := prog_10_method_4_code
def yX8_readWheel : MethodName := ⟨RX8, "readWheel", "(I[I)I"⟩
abbrev cX8_readTurner : ByteArray := prog_10_method_5_code
def yX8_readTurner : MethodName := ⟨RX8, "readTurner", "(I)V"⟩
abbrev cX8_readBy : ByteArray := prog_10_method_6_code
def yX8_readBy : MethodName := ⟨RX8, "readBy", "()I"⟩
abbrev cX8_passes : ByteArray := prog_10_method_7_code
def yX8_passes : MethodName := ⟨RX8, "passes", "(I)Z"⟩
abbrev cX8_byteAt : ByteArray := prog_10_method_8_code
def yX8_byteAt : MethodName := ⟨RX8, "byteAt", "(I)I"⟩
abbrev cX8_nameOf : ByteArray := prog_10_method_9_code
def yX8_nameOf : MethodName := ⟨RX8, "nameOf", "(I)I"⟩
abbrev cX8_kindOf : ByteArray := prog_10_method_10_code
def yX8_kindOf : MethodName := ⟨RX8, "kindOf", "(I)I"⟩
def RX9 : String := "KitchenWheels$Trace"
def TX9 : u_T := fun k => match k with
  | 0 => ("KitchenWheels$Trace", "numbers", "[I", true)
  | _ => ("KitchenWheels$Trace", "length", "I", false)
def tyX9 : Nat → FieldType := fun k => match k with
  | 0 => .array .int
  | _ => .int
abbrev wsX90 : List Cond := u_ws RX9 TX9 2
theorem nmX9 : ∀ a, a < 2 → ∀ b, b < 2 → a ≠ b → (TX9 a).2.1 ≠ (TX9 b).2.1 := by decide +kernel
theorem tyX9_ok : ∀ k, k < 2 → parseFieldDescriptor (TX9 k).2.2.1 = some (tyX9 k) := by decide +kernel
abbrev cX9_init : ByteArray := prog_11_method_1_code
def yX9_init : MethodName := ⟨RX9, "<init>", "()V"⟩
abbrev cX9_add : ByteArray := prog_11_method_2_code
def yX9_add : MethodName := ⟨RX9, "add", "(I)V"⟩
def RX10 : String := "KitchenWheels$Turner"
def TX10 : u_T := fun k => match k with
  | _ => ("", "", "", false)
def tyX10 : Nat → FieldType := fun k => match k with
  | _ => .int
abbrev wsX100 : List Cond := u_ws RX10 TX10 0
theorem nmX10 : ∀ a, a < 0 → ∀ b, b < 0 → a ≠ b → (TX10 a).2.1 ≠ (TX10 b).2.1 := by decide +kernel
theorem tyX10_ok : ∀ k, k < 0 → parseFieldDescriptor (TX10 k).2.2.1 = some (tyX10 k) := by decide +kernel
abbrev cX10_init : ByteArray := prog_12_method_1_code
def yX10_init : MethodName := ⟨RX10, "<init>", "(II)V"⟩
abbrev cX10_made : ByteArray := prog_12_method_2_code
def yX10_made : MethodName := ⟨RX10, "made", "(III)LKitchenWheels$Turner;"⟩
abbrev cX10_isOfKind : ByteArray := prog_12_method_3_code
def yX10_isOfKind : MethodName := ⟨RX10, "isOfKind", "(LKitchenWheels$Turner;I)Z"⟩
abbrev cX10_size : ByteArray := prog_12_method_6_code
def yX10_size : MethodName := ⟨RX10, "size", "(LKitchenWheels$Trace;II)I"⟩
abbrev cX10_mark : ByteArray := prog_12_method_7_code
def yX10_mark : MethodName := ⟨RX10, "mark", "(LKitchenWheels$Trace;II)I"⟩
def RX11 : String := "KitchenWheels"
def TX11 : u_T := fun k => match k with
  | 0 => ("KitchenWheels", "rows", "LKitchenWheels$Rows;", true)
  | 1 => ("KitchenWheels", "tape", "LKitchenWheels$Tape;", true)
  | 2 => ("KitchenWheels", "now", "LKitchenWheels$Kitchen;", true)
  | 3 => ("KitchenWheels", "foreteller", "LKitchenWheels$Foreteller;", true)
  | 4 => ("KitchenWheels", "bodies", "LKitchenWheels$Trace;", true)
  | 5 => ("KitchenWheels", "acts", "[LKitchenWheels$Kitchen;", true)
  | 6 => ("KitchenWheels", "images", "[LKitchenWheels$Kitchen;", true)
  | 7 => ("KitchenWheels", "oldestAct", "I", false)
  | 8 => ("KitchenWheels", "keptActs", "I", false)
  | 9 => ("KitchenWheels", "latestFault", "I", false)
  | _ => ("KitchenWheels", "latestFinding", "I", false)
def tyX11 : Nat → FieldType := fun k => match k with
  | 0 => .object "KitchenWheels$Rows"
  | 1 => .object "KitchenWheels$Tape"
  | 2 => .object "KitchenWheels$Kitchen"
  | 3 => .object "KitchenWheels$Foreteller"
  | 4 => .object "KitchenWheels$Trace"
  | 5 => .array (.object "KitchenWheels$Kitchen")
  | 6 => .array (.object "KitchenWheels$Kitchen")
  | 7 => .int
  | 8 => .int
  | 9 => .int
  | _ => .int
abbrev wsX110 : List Cond := u_ws RX11 TX11 11
theorem nmX11 : ∀ a, a < 11 → ∀ b, b < 11 → a ≠ b → (TX11 a).2.1 ≠ (TX11 b).2.1 := by decide +kernel
theorem tyX11_ok : ∀ k, k < 11 → parseFieldDescriptor (TX11 k).2.2.1 = some (tyX11 k) := by decide +kernel
abbrev cX11_init : ByteArray := prog_1_method_1_code
def yX11_init : MethodName := ⟨RX11, "<init>", "()V"⟩
abbrev cX11_row : ByteArray := prog_1_method_2_code
def yX11_row : MethodName := ⟨RX11, "row", "(III)I"⟩
abbrev cX11_set : ByteArray := prog_1_method_3_code
def yX11_set : MethodName := ⟨RX11, "set", "(III)I"⟩
abbrev cX11_copy : ByteArray := prog_1_method_4_code
def yX11_copy : MethodName := ⟨RX11, "copy", "(IIIII)I"⟩
abbrev cX11_drop : ByteArray := prog_1_method_5_code
def yX11_drop : MethodName := ⟨RX11, "drop", "(I)I"⟩
abbrev cX11_feed : ByteArray := prog_1_method_6_code
def yX11_feed : MethodName := ⟨RX11, "feed", "(I)I"⟩
abbrev cX11_kitchen : ByteArray := prog_1_method_7_code
def yX11_kitchen : MethodName := ⟨RX11, "kitchen", "()I"⟩
abbrev cX11_fault : ByteArray := prog_1_method_8_code
def yX11_fault : MethodName := ⟨RX11, "fault", "()I"⟩
abbrev cX11_undo : ByteArray := prog_1_method_9_code
def yX11_undo : MethodName := ⟨RX11, "undo", "()I"⟩
abbrev cX11_weeks : ByteArray := prog_1_method_10_code
def yX11_weeks : MethodName := ⟨RX11, "weeks", "(I)I"⟩
abbrev cX11_leave : ByteArray := prog_1_method_11_code
def yX11_leave : MethodName := ⟨RX11, "leave", "(I)I"⟩
abbrev cX11_name : ByteArray := prog_1_method_12_code
def yX11_name : MethodName := ⟨RX11, "name", "(II)I"⟩
abbrev cX11_job : ByteArray := prog_1_method_13_code
def yX11_job : MethodName := ⟨RX11, "job", "(II)I"⟩
abbrev cX11_turn : ByteArray := prog_1_method_14_code
def yX11_turn : MethodName := ⟨RX11, "turn", "(I)I"⟩
abbrev cX11_done : ByteArray := prog_1_method_15_code
def yX11_done : MethodName := ⟨RX11, "done", "(II)I"⟩
abbrev cX11_slot : ByteArray := prog_1_method_16_code
def yX11_slot : MethodName := ⟨RX11, "slot", "(II)I"⟩
abbrev cX11_turner : ByteArray := prog_1_method_17_code
def yX11_turner : MethodName := ⟨RX11, "turner", "(II)I"⟩
abbrev cX11_hasJobs : ByteArray := prog_1_method_18_code
def yX11_hasJobs : MethodName := ⟨RX11, "hasJobs", "(II)I"⟩
abbrev cX11_whoDoes : ByteArray := prog_1_method_19_code
def yX11_whoDoes : MethodName := ⟨RX11, "whoDoes", "(II)I"⟩
abbrev cX11_often : ByteArray := prog_1_method_20_code
def yX11_often : MethodName := ⟨RX11, "often", "(III)I"⟩
abbrev cX11_meets : ByteArray := prog_1_method_21_code
def yX11_meets : MethodName := ⟨RX11, "meets", "(II)I"⟩
abbrev cX11_allMet : ByteArray := prog_1_method_22_code
def yX11_allMet : MethodName := ⟨RX11, "allMet", "()I"⟩
abbrev cX11_round : ByteArray := prog_1_method_23_code
def yX11_round : MethodName := ⟨RX11, "round", "()I"⟩
abbrev cX11_fairest : ByteArray := prog_1_method_24_code
def yX11_fairest : MethodName := ⟨RX11, "fairest", "(II)I"⟩
abbrev cX11_owed : ByteArray := prog_1_method_25_code
def yX11_owed : MethodName := ⟨RX11, "owed", "(I)I"⟩
abbrev cX11_right : ByteArray := prog_1_method_26_code
def yX11_right : MethodName := ⟨RX11, "right", "(IIII)I"⟩
abbrev cX11_twice : ByteArray := prog_1_method_27_code
def yX11_twice : MethodName := ⟨RX11, "twice", "()I"⟩
abbrev cX11_seen : ByteArray := prog_1_method_28_code
def yX11_seen : MethodName := ⟨RX11, "seen", "(IIII)I"⟩
abbrev cX11_who : ByteArray := prog_1_method_29_code
def yX11_who : MethodName := ⟨RX11, "who", "(IIII)I"⟩
abbrev cX11_pairs : ByteArray := prog_1_method_30_code
def yX11_pairs : MethodName := ⟨RX11, "pairs", "(I)I"⟩
abbrev cX11_forgets : ByteArray := prog_1_method_31_code
def yX11_forgets : MethodName := ⟨RX11, "forgets", "(IIIII)J"⟩
abbrev cX11_drawn : ByteArray := prog_1_method_32_code
def yX11_drawn : MethodName := ⟨RX11, "drawn", "(III)I"⟩
abbrev cX11_image : ByteArray := prog_1_method_33_code
def yX11_image : MethodName := ⟨RX11, "image", "(I)I"⟩
abbrev cX11_restore : ByteArray := prog_1_method_34_code
def yX11_restore : MethodName := ⟨RX11, "restore", "(I)I"⟩
abbrev cX11_kind : ByteArray := prog_1_method_35_code
def yX11_kind : MethodName := ⟨RX11, "kind", "(I)I"⟩
abbrev cX11_as : ByteArray := prog_1_method_36_code
def yX11_as : MethodName := ⟨RX11, "as", "(II)I"⟩
abbrev cX11_ask : ByteArray := prog_1_method_37_code
def yX11_ask : MethodName := ⟨RX11, "ask", "(II)I"⟩
abbrev cX11_trace : ByteArray := prog_1_method_38_code
def yX11_trace : MethodName := ⟨RX11, "trace", "(I)I"⟩
abbrev cX11_count : ByteArray := prog_1_method_39_code
def yX11_count : MethodName := ⟨RX11, "count", "(I)I"⟩
abbrev cX11_status : ByteArray := prog_1_method_40_code
def yX11_status : MethodName := ⟨RX11, "status", "()I"⟩
abbrev cX11_finding : ByteArray := prog_1_method_41_code
def yX11_finding : MethodName := ⟨RX11, "finding", "(I)I"⟩
abbrev cX11_unfound : ByteArray := prog_1_method_42_code
def yX11_unfound : MethodName := ⟨RX11, "unfound", "(I)I"⟩
abbrev cX11_write : ByteArray := prog_1_method_43_code
def yX11_write : MethodName := ⟨RX11, "write", "([IIII)I"⟩
abbrev cX11_keepAct : ByteArray := prog_1_method_44_code
def yX11_keepAct : MethodName := ⟨RX11, "keepAct", "()V"⟩
abbrev cX11_forgetActs : ByteArray := prog_1_method_45_code
def yX11_forgetActs : MethodName := ⟨RX11, "forgetActs", "()V"⟩
abbrev cX11_keepIn : ByteArray := prog_1_method_46_code
def yX11_keepIn : MethodName := ⟨RX11, "keepIn", "([LKitchenWheels$Kitchen;I)V"⟩
abbrev cX11_within : ByteArray := prog_1_method_47_code
def yX11_within : MethodName := ⟨RX11, "within", "(III)Z"⟩
abbrev cX11_isPerson : ByteArray := prog_1_method_48_code
def yX11_isPerson : MethodName := ⟨RX11, "isPerson", "(I)Z"⟩
abbrev cX11_isJob : ByteArray := prog_1_method_49_code
def yX11_isJob : MethodName := ⟨RX11, "isJob", "(I)Z"⟩
abbrev cX11_holds : ByteArray := prog_1_method_50_code
def yX11_holds : MethodName := ⟨RX11, "holds", "(II)Z"⟩
abbrev cX11_rest : ByteArray := prog_1_method_51_code
def yX11_rest : MethodName := ⟨RX11, "rest", "(II)I"⟩
abbrev cX11_commonPart : ByteArray := prog_1_method_52_code
def yX11_commonPart : MethodName := ⟨RX11, "commonPart", "(JJ)J"⟩
def RX12 : String := "KitchenWheelsModel"
def TX12 : u_T := fun k => match k with
  | 0 => ("KitchenWheelsModel", "row", "[I", true)
  | 1 => ("KitchenWheelsModel", "isKitchen", "Z", false)
  | 2 => ("KitchenWheelsModel", "undos", "I", false)
  | 3 => ("KitchenWheelsModel", "isKept", "[Z", true)
  | 4 => ("KitchenWheelsModel", "lanes", "[I", true)
  | 5 => ("KitchenWheelsModel", "sizes", "[I", true)
  | 6 => ("KitchenWheelsModel", "items", "[I", true)
  | 7 => ("KitchenWheelsModel", "tape", "[I", true)
  | 8 => ("KitchenWheelsModel", "length", "I", false)
  | 9 => ("KitchenWheelsModel", "fault", "I", false)
  | 10 => ("KitchenWheelsModel", "status", "I", false)
  | 11 => ("KitchenWheelsModel", "trace", "[I", true)
  | 12 => ("KitchenWheelsModel", "traced", "I", false)
  | 13 => ("KitchenWheelsModel", "at", "I", false)
  | 14 => ("KitchenWheelsModel", "wrong", "I", false)
  | 15 => ("KitchenWheelsModel", "number", "I", false)
  | _ => ("KitchenWheelsModel", "doers", "[I", true)
def tyX12 : Nat → FieldType := fun k => match k with
  | 0 => .array .int
  | 1 => .boolean
  | 2 => .int
  | 3 => .array .boolean
  | 4 => .array .int
  | 5 => .array .int
  | 6 => .array .int
  | 7 => .array .int
  | 8 => .int
  | 9 => .int
  | 10 => .int
  | 11 => .array .int
  | 12 => .int
  | 13 => .int
  | 14 => .int
  | 15 => .int
  | _ => .array .int
abbrev wsX120 : List Cond := u_ws RX12 TX12 17
theorem nmX12 : ∀ a, a < 17 → ∀ b, b < 17 → a ≠ b → (TX12 a).2.1 ≠ (TX12 b).2.1 := by decide +kernel
theorem tyX12_ok : ∀ k, k < 17 → parseFieldDescriptor (TX12 k).2.2.1 = some (tyX12 k) := by decide +kernel
abbrev cX12_init : ByteArray := prog_14_method_1_code
def yX12_init : MethodName := ⟨RX12, "<init>", "()V"⟩
abbrev cX12_in : ByteArray := prog_14_method_2_code
def yX12_in : MethodName := ⟨RX12, "in", "(JJJ)Z"⟩
abbrev cX12_has : ByteArray := prog_14_method_3_code
def yX12_has : MethodName := ⟨RX12, "has", "(II)Z"⟩
abbrev cX12_find : ByteArray := prog_14_method_4_code
def yX12_find : MethodName := ⟨RX12, "find", "(I)I"⟩
abbrev cX12_well : ByteArray := prog_14_method_5_code
def yX12_well : MethodName := ⟨RX12, "well", "(I)I"⟩
abbrev cX12_isRow : ByteArray := prog_14_method_6_code
def yX12_isRow : MethodName := ⟨RX12, "isRow", "(I)Z"⟩
abbrev cX12_row : ByteArray := prog_14_method_7_code
def yX12_row : MethodName := ⟨RX12, "row", "(III)I"⟩
abbrev cX12_narrow : ByteArray := prog_14_method_8_code
def yX12_narrow : MethodName := ⟨RX12, "narrow", "(II)I"⟩
abbrev cX12_set : ByteArray := prog_14_method_9_code
def yX12_set : MethodName := ⟨RX12, "set", "(III)I"⟩
abbrev cX12_isSpan : ByteArray := prog_14_method_10_code
def yX12_isSpan : MethodName := ⟨RX12, "isSpan", "(III)Z"⟩
abbrev cX12_copy : ByteArray := prog_14_method_11_code
def yX12_copy : MethodName := ⟨RX12, "copy", "(IIIII)I"⟩
abbrev cX12_drop : ByteArray := prog_14_method_12_code
def yX12_drop : MethodName := ⟨RX12, "drop", "(I)I"⟩
abbrev cX12_feed : ByteArray := prog_14_method_13_code
def yX12_feed : MethodName := ⟨RX12, "feed", "(I)I"⟩
abbrev cX12_isLetter : ByteArray := prog_14_method_14_code
def yX12_isLetter : MethodName := ⟨RX12, "isLetter", "(I)Z"⟩
abbrev cX12_isFigure : ByteArray := prog_14_method_15_code
def yX12_isFigure : MethodName := ⟨RX12, "isFigure", "(I)Z"⟩
abbrev cX12_refuse : ByteArray := prog_14_method_16_code
def yX12_refuse : MethodName := ⟨RX12, "refuse", "(I)Z"⟩
abbrev cX12_sign : ByteArray := prog_14_method_17_code
def yX12_sign : MethodName := ⟨RX12, "sign", "(I)Z"⟩
abbrev cX12_readsNumber : ByteArray := prog_14_method_18_code
def yX12_readsNumber : MethodName := ⟨RX12, "readsNumber", "(II)Z"⟩
abbrev cX12_readsWheel : ByteArray := prog_14_method_19_code
def yX12_readsWheel : MethodName := ⟨RX12, "readsWheel", "(II)I"⟩
abbrev cX12_kindOfLetter : ByteArray := prog_14_method_20_code
def yX12_kindOfLetter : MethodName := ⟨RX12, "kindOfLetter", "(I)I"⟩
abbrev cX12_readsTurner : ByteArray := prog_14_method_21_code
def yX12_readsTurner : MethodName := ⟨RX12, "readsTurner", "()Z"⟩
abbrev cX12_isSort : ByteArray := prog_14_method_22_code
def yX12_isSort : MethodName := ⟨RX12, "isSort", "()Z"⟩
abbrev cX12_reads : ByteArray := prog_14_method_23_code
def yX12_reads : MethodName := ⟨RX12, "reads", "()Z"⟩
abbrev cX12_kitchen : ByteArray := prog_14_method_24_code
def yX12_kitchen : MethodName := ⟨RX12, "kitchen", "()I"⟩
abbrev cX12_fault : ByteArray := prog_14_method_25_code
def yX12_fault : MethodName := ⟨RX12, "fault", "()I"⟩
abbrev cX12_copyTown : ByteArray := prog_14_method_26_code
def yX12_copyTown : MethodName := ⟨RX12, "copyTown", "(II)V"⟩
abbrev cX12_keepPast : ByteArray := prog_14_method_27_code
def yX12_keepPast : MethodName := ⟨RX12, "keepPast", "()V"⟩
abbrev cX12_undo : ByteArray := prog_14_method_28_code
def yX12_undo : MethodName := ⟨RX12, "undo", "()I"⟩
abbrev cX12_isSix : ByteArray := prog_14_method_29_code
def yX12_isSix : MethodName := ⟨RX12, "isSix", "(I)Z"⟩
abbrev cX12_nameAt : ByteArray := prog_14_method_30_code
def yX12_nameAt : MethodName := ⟨RX12, "nameAt", "(II)I"⟩
abbrev cX12_jobOf : ByteArray := prog_14_method_31_code
def yX12_jobOf : MethodName := ⟨RX12, "jobOf", "(II)I"⟩
abbrev cX12_doerOf : ByteArray := prog_14_method_32_code
def yX12_doerOf : MethodName := ⟨RX12, "doerOf", "(II)I"⟩
abbrev cX12_far : ByteArray := prog_14_method_33_code
def yX12_far : MethodName := ⟨RX12, "far", "(III)I"⟩
abbrev cX12_farOf : ByteArray := prog_14_method_34_code
def yX12_farOf : MethodName := ⟨RX12, "farOf", "(II)I"⟩
abbrev cX12_turnBy : ByteArray := prog_14_method_35_code
def yX12_turnBy : MethodName := ⟨RX12, "turnBy", "(II)V"⟩
abbrev cX12_pass : ByteArray := prog_14_method_36_code
def yX12_pass : MethodName := ⟨RX12, "pass", "(II)V"⟩
abbrev cX12_passAsTold : ByteArray := prog_14_method_37_code
def yX12_passAsTold : MethodName := ⟨RX12, "passAsTold", "(I)V"⟩
abbrev cX12_layTried : ByteArray := prog_14_method_38_code
def yX12_layTried : MethodName := ⟨RX12, "layTried", "(I)V"⟩
abbrev cX12_weeks : ByteArray := prog_14_method_39_code
def yX12_weeks : MethodName := ⟨RX12, "weeks", "(I)I"⟩
abbrev cX12_leave : ByteArray := prog_14_method_40_code
def yX12_leave : MethodName := ⟨RX12, "leave", "(I)I"⟩
abbrev cX12_name : ByteArray := prog_14_method_41_code
def yX12_name : MethodName := ⟨RX12, "name", "(II)I"⟩
abbrev cX12_job : ByteArray := prog_14_method_42_code
def yX12_job : MethodName := ⟨RX12, "job", "(II)I"⟩
abbrev cX12_turn : ByteArray := prog_14_method_43_code
def yX12_turn : MethodName := ⟨RX12, "turn", "(I)I"⟩
abbrev cX12_done : ByteArray := prog_14_method_44_code
def yX12_done : MethodName := ⟨RX12, "done", "(II)I"⟩
abbrev cX12_slot : ByteArray := prog_14_method_45_code
def yX12_slot : MethodName := ⟨RX12, "slot", "(II)I"⟩
abbrev cX12_isTurner : ByteArray := prog_14_method_46_code
def yX12_isTurner : MethodName := ⟨RX12, "isTurner", "(I)Z"⟩
abbrev cX12_turner : ByteArray := prog_14_method_47_code
def yX12_turner : MethodName := ⟨RX12, "turner", "(II)I"⟩
abbrev cX12_doesTried : ByteArray := prog_14_method_48_code
def yX12_doesTried : MethodName := ⟨RX12, "doesTried", "(II)Z"⟩
abbrev cX12_hasJobs : ByteArray := prog_14_method_49_code
def yX12_hasJobs : MethodName := ⟨RX12, "hasJobs", "(II)I"⟩
abbrev cX12_doersTried : ByteArray := prog_14_method_50_code
def yX12_doersTried : MethodName := ⟨RX12, "doersTried", "(I)I"⟩
abbrev cX12_whoDoes : ByteArray := prog_14_method_51_code
def yX12_whoDoes : MethodName := ⟨RX12, "whoDoes", "(II)I"⟩
abbrev cX12_often : ByteArray := prog_14_method_52_code
def yX12_often : MethodName := ⟨RX12, "often", "(III)I"⟩
abbrev cX12_meets : ByteArray := prog_14_method_53_code
def yX12_meets : MethodName := ⟨RX12, "meets", "(II)I"⟩
abbrev cX12_onWheel : ByteArray := prog_14_method_54_code
def yX12_onWheel : MethodName := ⟨RX12, "onWheel", "(III)I"⟩
abbrev cX12_haveAllMet : ByteArray := prog_14_method_55_code
def yX12_haveAllMet : MethodName := ⟨RX12, "haveAllMet", "()Z"⟩
abbrev cX12_allMet : ByteArray := prog_14_method_56_code
def yX12_allMet : MethodName := ⟨RX12, "allMet", "()I"⟩
abbrev cX12_round : ByteArray := prog_14_method_57_code
def yX12_round : MethodName := ⟨RX12, "round", "()I"⟩
abbrev cX12_doneBy : ByteArray := prog_14_method_58_code
def yX12_doneBy : MethodName := ⟨RX12, "doneBy", "(II)I"⟩
abbrev cX12_differenceTried : ByteArray := prog_14_method_59_code
def yX12_differenceTried : MethodName := ⟨RX12, "differenceTried", "()I"⟩
abbrev cX12_fairest : ByteArray := prog_14_method_60_code
def yX12_fairest : MethodName := ⟨RX12, "fairest", "(II)I"⟩
abbrev cX12_owed : ByteArray := prog_14_method_61_code
def yX12_owed : MethodName := ⟨RX12, "owed", "(I)I"⟩
abbrev cX12_isRight : ByteArray := prog_14_method_62_code
def yX12_isRight : MethodName := ⟨RX12, "isRight", "(IIIII)Z"⟩
abbrev cX12_right : ByteArray := prog_14_method_63_code
def yX12_right : MethodName := ⟨RX12, "right", "(IIII)I"⟩
abbrev cX12_twice : ByteArray := prog_14_method_64_code
def yX12_twice : MethodName := ⟨RX12, "twice", "()I"⟩
abbrev cX12_noItems : ByteArray := prog_14_method_65_code
def yX12_noItems : MethodName := ⟨RX12, "noItems", "(III)I"⟩
abbrev cX12_firstDoer : ByteArray := prog_14_method_66_code
def yX12_firstDoer : MethodName := ⟨RX12, "firstDoer", "(I)I"⟩
abbrev cX12_isSeenSo : ByteArray := prog_14_method_67_code
def yX12_isSeenSo : MethodName := ⟨RX12, "isSeenSo", "(IIIII)Z"⟩
abbrev cX12_seen : ByteArray := prog_14_method_68_code
def yX12_seen : MethodName := ⟨RX12, "seen", "(IIII)I"⟩
abbrev cX12_isTurnedSo : ByteArray := prog_14_method_69_code
def yX12_isTurnedSo : MethodName := ⟨RX12, "isTurnedSo", "(IIIII)Z"⟩
abbrev cX12_who : ByteArray := prog_14_method_70_code
def yX12_who : MethodName := ⟨RX12, "who", "(IIII)I"⟩
abbrev cX12_areTogether : ByteArray := prog_14_method_71_code
def yX12_areTogether : MethodName := ⟨RX12, "areTogether", "(III)Z"⟩
abbrev cX12_pairs : ByteArray := prog_14_method_72_code
def yX12_pairs : MethodName := ⟨RX12, "pairs", "(I)I"⟩
abbrev cX12_forgets : ByteArray := prog_14_method_73_code
def yX12_forgets : MethodName := ⟨RX12, "forgets", "(IIIII)J"⟩
abbrev cX12_doneInAll : ByteArray := prog_14_method_74_code
def yX12_doneInAll : MethodName := ⟨RX12, "doneInAll", "(I)I"⟩
abbrev cX12_drawn : ByteArray := prog_14_method_75_code
def yX12_drawn : MethodName := ⟨RX12, "drawn", "(III)I"⟩
abbrev cX12_image : ByteArray := prog_14_method_76_code
def yX12_image : MethodName := ⟨RX12, "image", "(I)I"⟩
abbrev cX12_restore : ByteArray := prog_14_method_77_code
def yX12_restore : MethodName := ⟨RX12, "restore", "(I)I"⟩
abbrev cX12_kind : ByteArray := prog_14_method_78_code
def yX12_kind : MethodName := ⟨RX12, "kind", "(I)I"⟩
abbrev cX12_isOf : ByteArray := prog_14_method_79_code
def yX12_isOf : MethodName := ⟨RX12, "isOf", "(II)Z"⟩
abbrev cX12_as : ByteArray := prog_14_method_80_code
def yX12_as : MethodName := ⟨RX12, "as", "(II)I"⟩
abbrev cX12_begin : ByteArray := prog_14_method_81_code
def yX12_begin : MethodName := ⟨RX12, "begin", "(I)V"⟩
abbrev cX12_lentSize : ByteArray := prog_14_method_82_code
def yX12_lentSize : MethodName := ⟨RX12, "lentSize", "(I)I"⟩
abbrev cX12_onesSize : ByteArray := prog_14_method_83_code
def yX12_onesSize : MethodName := ⟨RX12, "onesSize", "(I)I"⟩
abbrev cX12_lawsSize : ByteArray := prog_14_method_84_code
def yX12_lawsSize : MethodName := ⟨RX12, "lawsSize", "(I)I"⟩
abbrev cX12_sizeOf : ByteArray := prog_14_method_85_code
def yX12_sizeOf : MethodName := ⟨RX12, "sizeOf", "(I)I"⟩
abbrev cX12_lentMark : ByteArray := prog_14_method_86_code
def yX12_lentMark : MethodName := ⟨RX12, "lentMark", "(I)I"⟩
abbrev cX12_onesMark : ByteArray := prog_14_method_87_code
def yX12_onesMark : MethodName := ⟨RX12, "onesMark", "(I)I"⟩
abbrev cX12_mark : ByteArray := prog_14_method_88_code
def yX12_mark : MethodName := ⟨RX12, "mark", "(I)I"⟩
abbrev cX12_lawsMark : ByteArray := prog_14_method_89_code
def yX12_lawsMark : MethodName := ⟨RX12, "lawsMark", "(I)I"⟩
abbrev cX12_ask : ByteArray := prog_14_method_90_code
def yX12_ask : MethodName := ⟨RX12, "ask", "(II)I"⟩
abbrev cX12_trace : ByteArray := prog_14_method_91_code
def yX12_trace : MethodName := ⟨RX12, "trace", "(I)I"⟩
abbrev cX12_count : ByteArray := prog_14_method_92_code
def yX12_count : MethodName := ⟨RX12, "count", "(I)I"⟩
abbrev cX12_status : ByteArray := prog_14_method_93_code
def yX12_status : MethodName := ⟨RX12, "status", "()I"⟩
def RJ6 : String := "java/lang/Integer"
def TJ6 : u_T := fun k => match k with
  | _ => ("", "", "", false)
def tyJ6 : Nat → FieldType := fun k => match k with
  | _ => .int
abbrev wsJ60 : List Cond := u_ws RJ6 TJ6 0
theorem nmJ6 : ∀ a, a < 0 → ∀ b, b < 0 → a ≠ b → (TJ6 a).2.1 ≠ (TJ6 b).2.1 := by decide +kernel
theorem tyJ6_ok : ∀ k, k < 0 → parseFieldDescriptor (TJ6 k).2.2.1 = some (tyJ6 k) := by decide +kernel
abbrev cJ6_bitCount_0f7a4 : ByteArray := prog_15_method_49_code
def yJ6_bitCount_0f7a4 : MethodName := ⟨RJ6, "bitCount", "(I)I"⟩
def RJ9 : String := "java/lang/Math"
def TJ9 : u_T := fun k => match k with
  | _ => ("", "", "", false)
def tyJ9 : Nat → FieldType := fun k => match k with
  | _ => .int
abbrev wsJ90 : List Cond := u_ws RJ9 TJ9 0
theorem nmJ9 : ∀ a, a < 0 → ∀ b, b < 0 → a ≠ b → (TJ9 a).2.1 ≠ (TJ9 b).2.1 := by decide +kernel
theorem tyJ9_ok : ∀ k, k < 0 → parseFieldDescriptor (TJ9 k).2.2.1 = some (tyJ9 k) := by decide +kernel
abbrev cJ9_max_7cf53 : ByteArray := prog_16_method_65_code
def yJ9_max_7cf53 : MethodName := ⟨RJ9, "max", "(II)I"⟩
abbrev cJ9_min_7cf53 : ByteArray := prog_16_method_69_code
def yJ9_min_7cf53 : MethodName := ⟨RJ9, "min", "(II)I"⟩
def RJ10 : String := "java/lang/System"
def TJ10 : u_T := fun k => match k with
  | _ => ("", "", "", false)
def tyJ10 : Nat → FieldType := fun k => match k with
  | _ => .int
abbrev wsJ100 : List Cond := u_ws RJ10 TJ10 0
theorem nmJ10 : ∀ a, a < 0 → ∀ b, b < 0 → a ≠ b → (TJ10 a).2.1 ≠ (TJ10 b).2.1 := by decide +kernel
theorem tyJ10_ok : ∀ k, k < 0 → parseFieldDescriptor (TJ10 k).2.2.1 = some (tyJ10 k) := by decide +kernel
def RJ7 : String := "java/util/Arrays"
def TJ7 : u_T := fun k => match k with
  | _ => ("", "", "", false)
def tyJ7 : Nat → FieldType := fun k => match k with
  | _ => .int
abbrev wsJ70 : List Cond := u_ws RJ7 TJ7 0
theorem nmJ7 : ∀ a, a < 0 → ∀ b, b < 0 → a ≠ b → (TJ7 a).2.1 ≠ (TJ7 b).2.1 := by decide +kernel
theorem tyJ7_ok : ∀ k, k < 0 → parseFieldDescriptor (TJ7 k).2.2.1 = some (tyJ7 k) := by decide +kernel
abbrev cJ7_fill_d0a16 : ByteArray := prog_18_method_101_code
def yJ7_fill_d0a16 : MethodName := ⟨RJ7, "fill", "([JJ)V"⟩
abbrev cJ7_fill_53178 : ByteArray := prog_18_method_103_code
def yJ7_fill_53178 : MethodName := ⟨RJ7, "fill", "([II)V"⟩
def RL : String := "KitchenWheelsLaw"
abbrev cL_law : ByteArray := code
def yL_law : MethodName := ⟨RL, "law", "([I)Z"⟩
abbrev vwCl : List vw_C := [(RX0, TX0, 2), (RX1, TX1, 4), (RX2, TX2, 10), (RX3, TX3, 2), (RX4, TX4, 2), (RX5, TX5, 2), (RX6, TX6, 3), (RX7, TX7, 2), (RX8, TX8, 5), (RX9, TX9, 2), (RX11, TX11, 11), (RX12, TX12, 17)]
theorem inX0 : ∀ w ∈ wsX00, w ∈ lw_tbl := by decide +kernel
theorem inX1 : ∀ w ∈ wsX10, w ∈ lw_tbl := by decide +kernel
theorem inX2 : ∀ w ∈ wsX20, w ∈ lw_tbl := by decide +kernel
theorem inX3 : ∀ w ∈ wsX30, w ∈ lw_tbl := by decide +kernel
theorem inX4 : ∀ w ∈ wsX40, w ∈ lw_tbl := by decide +kernel
theorem inX5 : ∀ w ∈ wsX50, w ∈ lw_tbl := by decide +kernel
theorem inX6 : ∀ w ∈ wsX60, w ∈ lw_tbl := by decide +kernel
theorem inX7 : ∀ w ∈ wsX70, w ∈ lw_tbl := by decide +kernel
theorem inX8 : ∀ w ∈ wsX80, w ∈ lw_tbl := by decide +kernel
theorem inX9 : ∀ w ∈ wsX90, w ∈ lw_tbl := by decide +kernel
theorem inX11 : ∀ w ∈ wsX110, w ∈ lw_tbl := by decide +kernel
theorem inX12 : ∀ w ∈ wsX120, w ∈ lw_tbl := by decide +kernel
end
section
/-! ===== the heap of this system as a list of cells: cell i lies at the address N + i; references are places of the list ===== -/
abbrev kw_E : Type := (Nat × vp_A) ⊕ (Nat × List Value)
abbrev kw_H : Type := List kw_E
def kw_v (N : Nat) (v : Value) : Value := match v with
  | .ref i => .ref (N + i)
  | w => w
def kw_a (N : Nat) (a : vp_A) : vp_A := (a.1, match a.2 with
  | .inr (.inr (.inr (.inr f))) => .inr (.inr (.inr (.inr (fun k => (f k).map (fun i => N + i)))))
  | w => w)
def kw_e (N : Nat) (C : Nat → ClassId) (c : kw_E) : va_E := match c with
  | .inl (t, a) => .inl (C t, kw_a N a)
  | .inr (ci, fs) => .inr (ci, fs.map (kw_v N))
def kw_w (N : Nat) (C : Nat → ClassId) (hp : kw_H) : va_W := hp.mapIdx (fun i c => (N + i, kw_e N C c))
theorem kw_w_at (N : Nat) (C : Nat → ClassId) (hp : kw_H) (i : Nat) : (kw_w N C hp)[i]? = (hp[i]?).map (fun c => (N + i, kw_e N C c)) := by
  unfold kw_w
  rw [List.getElem?_mapIdx]
theorem kw_w_get {N : Nat} {C : Nat → ClassId} {hp : kw_H} {i : Nat} {c : kw_E} (h : hp[i]? = some c) : (kw_w N C hp)[i]? = some (N + i, kw_e N C c) := by
  rw [kw_w_at, h]; rfl
theorem kw_w_len (N : Nat) (C : Nat → ClassId) (hp : kw_H) : (kw_w N C hp).length = hp.length := by
  unfold kw_w
  rw [List.length_mapIdx]
theorem kw_w_set (N : Nat) (C : Nat → ClassId) (hp : kw_H) (i : Nat) (c : kw_E) : kw_w N C (hp.set i c) = (kw_w N C hp).set i (N + i, kw_e N C c) := by
  apply List.ext_getElem?
  intro j
  rw [kw_w_at, List.getElem?_set, List.getElem?_set, kw_w_len, kw_w_at]
  by_cases h : i = j
  · subst h
    by_cases hl : i < hp.length <;> simp [hl]
  · simp [h]
theorem kw_w_push (N : Nat) (C : Nat → ClassId) (hp : kw_H) (c : kw_E) : kw_w N C (hp ++ [c]) = kw_w N C hp ++ [(N + hp.length, kw_e N C c)] := by
  unfold kw_w
  rw [List.mapIdx_append]
  simp
theorem kw_w_in {N : Nat} {C : Nat → ClassId} {hp : kw_H} {k : Nat} {q : Nat × va_E} (h : (kw_w N C hp)[k]? = some q) : q.1 = N + k ∧ k < hp.length := by
  rw [kw_w_at] at h
  cases hc : hp[k]? with
  | none => rw [hc] at h; cases h
  | some c =>
    rw [hc] at h
    cases h
    exact ⟨rfl, (List.getElem?_eq_some_iff.mp hc).1⟩
theorem kw_w_D (N : Nat) (C : Nat → ClassId) (hp : kw_H) : va_D (fun q => N ≤ q) (kw_w N C hp) := by
  refine ⟨fun i j p q hi hj hpq => ?_, fun k q hk => ?_⟩
  · have h1 := (kw_w_in hi).1
    have h2 := (kw_w_in hj).1
    omega
  · rw [(kw_w_in hk).1]
    exact Nat.le_add_right _ _
/-! what a walk knows of the heap's growth, by the frame's own record -/
section KwKnow
variable {p : Program} {l : Launch} {e : Env} {R : Room} {s : State} {m : MethodId} {args : Array Value} {below : List Frame} {meth : Method} {c : Code} {H : Heap} {locs : List Loc} {cells slots : Nat} {Q : State → Prop} {g : JFrame}
def kw_sz (H : Heap) : List Nat := H.toList.map (fun c : Cell => c.slots.size)
def kw_SP (H0 H : Heap) : Prop := H0.size ≤ H.size ∧ (kw_sz H).take H0.size = kw_sz H0
theorem kw_sz_len (H : Heap) : (kw_sz H).length = H.size := by simp [kw_sz]
theorem kw_SP_of {H0 H : Heap} (h0 : H0.size ≤ H.size) (h : ∀ (a : Nat) (c : Cell), H0[a]? = some c → ∃ c' : Cell, H[a]? = some c' ∧ c'.slots.size = c.slots.size) : kw_SP H0 H := by
  refine ⟨h0, List.ext_getElem? fun i => ?_⟩
  by_cases hi : i < H0.size
  · rw [List.getElem?_take_of_lt hi]
    have hc : H0[i]? = some H0[i] := Array.getElem?_eq_getElem hi
    obtain ⟨c', h1, h2⟩ := h i _ hc
    simp only [kw_sz, List.getElem?_map, Array.getElem?_toList, h1, hc, Option.map_some, h2]
  · rw [List.getElem?_eq_none (by rw [List.length_take, kw_sz_len]; omega), List.getElem?_eq_none (by rw [kw_sz_len]; omega)]
theorem kw_know (k : kw_SP s.heap H → H.size ≤ s.heap.size + cells → ((kw_sz H).drop s.heap.size).sum ≤ slots → W p l e R s m args below meth c H locs cells slots Q g) : W p l e R s m args below meth c H locs cells slots Q g := by
  intro T hT X
  have h := X.same
  have hh : (T.setVm s.vm).heap = H := hT
  obtain ⟨-, h2, h3, -, h5, h6⟩ := h
  rw [hh] at h2 h3 h5
  have h7 : ∀ (a : Nat) (c : Cell), s.heap[a]? = some c → ∃ c' : Cell, H[a]? = some c' ∧ c'.slots.size = c.slots.size := fun a c hc => by
    obtain ⟨c', g1, -, g3, -⟩ := h6 a c hc
    rw [hh] at g1
    exact ⟨c', g1, g3⟩
  refine k (kw_SP_of h2 h7) h3 ?_ T hT X
  have e1 : (kw_sz H).drop s.heap.size = (H.toList.drop s.heap.size).map (fun c : Cell => c.slots.size) := by simp [kw_sz, List.map_drop]
  rw [e1]
  exact h5
theorem kw_tight {cells' slots' : Nat} (hc : H.size ≤ s.heap.size + cells') (hs : ((kw_sz H).drop s.heap.size).sum ≤ slots') (k : W p l e R s m args below meth c H locs cells' slots' Q g) : W p l e R s m args below meth c H locs cells slots Q g := by
  intro T hT X
  refine k T hT { X with same := ?_ }
  have hh : (T.setVm s.vm).heap = H := hT
  obtain ⟨h1, h2, h3, h4, h5, h6⟩ := X.same
  have e1 : (kw_sz H).drop s.heap.size = (H.toList.drop s.heap.size).map (fun c : Cell => c.slots.size) := by simp [kw_sz, List.map_drop]
  refine ⟨h1, h2, ?_, h4, ?_, h6⟩
  · rw [hh]; exact hc
  · rw [hh, ← e1]; exact hs
theorem kw_sum_join {H0 H1 H2 : Heap} {a b : Nat} (h1 : H0.size ≤ H1.size) (h2 : kw_SP H1 H2) (ha : ((kw_sz H1).drop H0.size).sum ≤ a) (hb : ((kw_sz H2).drop H1.size).sum ≤ b) : ((kw_sz H2).drop H0.size).sum ≤ a + b := by
  have e : (kw_sz H2) = kw_sz H1 ++ (kw_sz H2).drop H1.size := by
    conv => lhs; rw [← List.take_append_drop H1.size (kw_sz H2)]
    rw [h2.2]
  rw [e, List.drop_append_of_le_length (by rw [kw_sz_len]; exact h1), List.sum_append]
  omega
theorem kw_SP_rf (H : Heap) : kw_SP H H := ⟨Nat.le_refl _, by rw [List.take_of_length_le (by rw [kw_sz_len]; exact Nat.le_refl _)]⟩
end KwKnow
end
section
/-! ===== the judgement kw_V: the machine stands in the method md at pc, over the heap hp, and comes to an end with Q ===== -/
abbrev kw_G : Type := Launch × Nat × va_G × (Nat → ClassId)
/-- a method: its name, its code, its locals, what it returns, the frames and the locals' words that its callees want -/
abbrev kw_M : Type := MethodName × ByteArray × Nat × Option FieldType × Nat × Nat
def kw_ty (C : Nat → ClassId) : List (ClassId × FieldType) := [(C 0, .int), (C 1, .long), (C 2, .boolean), (C 3, .object "KitchenWheels$Turner"), (C 4, .object "KitchenWheels$Kitchen"), (C 5, .array .int)]
def kw_isN : Cond → Bool
  | .methodLinkNest .. | .declares .. | .castable .. | .arrayOver (.object _) | .arrayOver (.array _) => true
  | _ => false
def kw_T : List Cond := lw_tbl.filter goodWord
def kw_kinds : List String := ["KitchenWheels$One", "KitchenWheels$Step", "KitchenWheels$Both", "KitchenWheels$Law", "KitchenWheels$Righter"]
def kw_Nc : List (String × String) := [("KitchenWheels$One", "KitchenWheels$Step"), ("KitchenWheels$One", "KitchenWheels$Both"), ("KitchenWheels$One", "KitchenWheels$Law"), ("KitchenWheels$One", "KitchenWheels$Righter"), ("KitchenWheels$Step", "KitchenWheels$Both"), ("KitchenWheels$Step", "KitchenWheels$Law"), ("KitchenWheels$Step", "KitchenWheels$Righter"), ("KitchenWheels$Both", "KitchenWheels$Step"), ("KitchenWheels$Both", "KitchenWheels$Law"), ("KitchenWheels$Both", "KitchenWheels$Righter"), ("KitchenWheels$Law", "KitchenWheels$One"), ("KitchenWheels$Law", "KitchenWheels$Step"), ("KitchenWheels$Law", "KitchenWheels$Both"), ("KitchenWheels$Law", "KitchenWheels$Righter"), ("KitchenWheels$Righter", "KitchenWheels$One"), ("KitchenWheels$Righter", "KitchenWheels$Step"), ("KitchenWheels$Righter", "KitchenWheels$Both")]
def kw_Z (G : kw_G) (U : State) : Prop := va_K G.2.2.1 vwCl (kw_ty G.2.2.2) U ∧ (∀ w ∈ lw_tbl, kw_isN w = true → w.before #[] U = true) ∧ (∀ q ∈ kw_Nc, va_Nc q.1 q.2 U)
theorem kw_N_moved {w : Cond} {s U : State} (hw : kw_isN w = true) (hW : s.WarmedH U.vm) (h : w.before #[] s = true) : w.before #[] U = true := by
  match w, hw, h with
  | .methodLinkNest a i x y, _, h => exact va_Nw.warmM hW h
  | .declares x, _, h => exact va_Nw.warmD hW h
  | .castable a b, _, h => exact va_Nw.warmC hW h
  | .arrayOver (.object C), _, h => exact va_AO.moved hW.alike h
  | .arrayOver (.array t), _, h => exact Stand.arrayOver_alikeB hW.alike h
theorem kw_Z_moved {G : kw_G} {s U : State} (hW : s.WarmedH U.vm) (h : kw_Z G s) : kw_Z G U :=
  ⟨va_K.moved hW.alike h.1, fun w hw hn => kw_N_moved hn hW (h.2.1 w hw hn), fun q hq => va_Nc.moved hW.alike (h.2.2 q hq)⟩
theorem kw_Z_same {G : kw_G} {s U : State} (hv : s.vm = U.vm) (h : kw_Z G s) : kw_Z G U := by
  have ha : s.vm.Alike U.vm := by rw [hv]; exact Vm.Alike.refl _
  refine ⟨va_K.moved ha h.1, fun w hw hn => ?_, fun q hq => va_Nc.moved ha (h.2.2 q hq)⟩
  have h1 := h.2.1 w hw hn
  match w, hn, h1 with
  | .methodLinkNest a i x y, _, h => exact va_tabs rfl hv h
  | .declares x, _, h => exact va_tabs rfl hv h
  | .castable a b, _, h => exact va_tabs rfl hv h
  | .arrayOver (.object C), _, h => exact va_AO.moved ha h
  | .arrayOver (.array t), _, h => exact Stand.arrayOver_alikeB ha h
def kw_rm (md : kw_M) (n : Nat) : Room := { frames := md.2.2.2.2.1, cells := 3900 - n, slots := 1848 * (3900 - n), locals := md.2.2.2.2.2 }
def kw_ws (md : kw_M) : List Cond := .code md.1 md.2.1 md.2.2.1 md.2.2.2.1 :: kw_T
def kw_R (G : kw_G) (hp : kw_H) (H : Heap) : Prop := H.size = G.2.1 + hp.length ∧ hp.length ≤ 3900 ∧ va_P G.2.2.1 vwCl (kw_w G.2.1 G.2.2.2 hp) H
def kw_Q (G : kw_G) (Q : Option Value → kw_H → Prop) : Array Value → State → Outcome → State → Prop := fun _ st o t =>
  ∃ (r : Option Value) (hp : kw_H), o = .returned (r.map (kw_v G.2.1)) ∧ Q r hp ∧ kw_R G hp t.heap ∧ va_F (fun q => G.2.1 ≤ q) st t ∧ kw_SP st.heap t.heap ∧ ((kw_sz t.heap).drop st.heap.size).sum ≤ 1848 * (t.heap.size - st.heap.size)
/-- the contract of a call: from every state that holds hp, with the arguments As: it returns, with Q -/
def kw_Met (G : kw_G) (md : kw_M) (As : List Value) (hp : kw_H) (Q : Option Value → kw_H → Prop) : Prop :=
  Met G.1 md.1 (kw_ws md) (kw_rm md hp.length) (va_Pc (As.map (kw_v G.2.1)) (fun U => kw_Z G U ∧ kw_R G hp U.heap)) (kw_Q G Q) (3900 - hp.length) (1848 * (3900 - hp.length)) (fun q => G.2.1 ≤ q)
/-- what stands all through a method's body -/
def kw_C (G : kw_G) (md : kw_M) (n0 : Nat) (p : Program) (s : State) (m : MethodId) (args : Array Value) (meth : Method) (c : Code) : Prop :=
  p.tables.exec = Jvm.exec ∧ c.code = md.2.1 ∧ c.maxLocals = md.2.2.1 ∧ meth.sig.returnType = md.2.2.2.1 ∧ meth.locks = false ∧ meth.name = md.1.name ∧ s.vm.findClass md.1.cls = some m.cls ∧ (∀ w ∈ kw_T, w.before args s = true) ∧ kw_Z G s ∧ s.heap.size = G.2.1 + n0
/-- the locals: a place a local; none: nothing is known of it -/
def kw_pr (N : Nat) : Nat → List (Option Value) → List (Nat × Value)
  | _, [] => []
  | i, none :: l => kw_pr N (i + 1) l
  | i, some v :: l => (i, kw_v N v) :: kw_pr N (i + 1) l
def kw_V (G : kw_G) (md : kw_M) (pc : Nat) (L : List (Option Value)) (S : List Value) (hp : kw_H) (Q : Option Value → kw_H → Prop) : Prop :=
  ∀ (n0 : Nat) (p : Program) (e : Env) (s : State) (m : MethodId) (args : Array Value) (below : List Frame) (meth : Method) (c : Code) (H : Heap) (locs : List Loc) (ls : Array Slot),
    kw_C G md n0 p s m args meth c → n0 ≤ hp.length → kw_R G hp H → va_S (fun q => G.2.1 ≤ q) s.heap H locs → lv_has ls md.2.2.1 (kw_pr G.2.1 0 L) →
    W p G.1 e (kw_rm md n0) s m args below meth c H locs (H.size - s.heap.size) (1848 * (H.size - s.heap.size)) (MQ below (kw_Q G Q) args s (3900 - n0) (1848 * (3900 - n0)) (fun q => G.2.1 ≤ q)) (F0 m pc ls (S.map (kw_v G.2.1)))
theorem kw_pr_mem {N : Nat} : ∀ {i : Nat} {L : List (Option Value)} {q : Nat × Value}, q ∈ kw_pr N i L ↔ ∃ (j : Nat) (v : Value), L[j]? = some (some v) ∧ q = (i + j, kw_v N v)
  | i, [], q => by simp [kw_pr]
  | i, none :: l, q => by
    rw [kw_pr, kw_pr_mem]
    constructor
    · rintro ⟨j, v, h1, h2⟩
      exact ⟨j + 1, v, by simpa using h1, by rw [h2]; congr 1; omega⟩
    · rintro ⟨j, v, h1, h2⟩
      cases j with
      | zero => simp at h1
      | succ j => exact ⟨j, v, by simpa using h1, by rw [h2]; congr 1; omega⟩
  | i, some v :: l, q => by
    rw [kw_pr, List.mem_cons, kw_pr_mem]
    constructor
    · rintro (h | ⟨j, v, h1, h2⟩)
      · exact ⟨0, v, rfl, h⟩
      · exact ⟨j + 1, v, by simpa using h1, by rw [h2]; congr 1; omega⟩
    · rintro ⟨j, w, h1, h2⟩
      cases j with
      | zero =>
        simp at h1
        subst h1
        exact Or.inl h2
      | succ j => exact Or.inr ⟨j, w, by simpa using h1, by rw [h2]; congr 1; omega⟩
theorem kw_lat {N nL i : Nat} {ls : Array Slot} {L : List (Option Value)} {v : Value} (h : lv_has ls nL (kw_pr N 0 L)) (hi : L[i]? = some (some v)) : ls[i]? = some (.val (kw_v N v)) :=
  h.2.2 (i, kw_v N v) (kw_pr_mem.mpr ⟨i, v, hi, by simp⟩)
theorem kw_lsub {N nL : Nat} {ls : Array Slot} {L L' : List (Option Value)} (h : lv_has ls nL (kw_pr N 0 L)) (hs : ∀ (i : Nat) (v : Value), L'[i]? = some (some v) → L[i]? = some (some v)) : lv_has ls nL (kw_pr N 0 L') := by
  refine ⟨h.1, h.2.1, fun q hq => ?_⟩
  obtain ⟨j, v, h1, h2⟩ := kw_pr_mem.mp hq
  exact h.2.2 q (kw_pr_mem.mpr ⟨j, v, hs j v h1, h2⟩)
theorem kw_v_cat (N : Nat) (v : Value) : (kw_v N v).category = v.category := by cases v <;> rfl
/-- a store into local i -/
def kw_kill (L : List (Option Value)) (i : Nat) : List (Option Value) := match i with
  | 0 => L
  | j + 1 => match L[j]? with
    | some (some w) => if w.category = 2 then L.set j none else L
    | _ => L
def kw_st (L : List (Option Value)) (i : Nat) (v : Value) : List (Option Value) := (kw_kill L i).set i (some v)
def kw_st2 (L : List (Option Value)) (i : Nat) (v : Value) : List (Option Value) := ((kw_kill L i).set i (some v)).set (i + 1) none
theorem kw_kill_at {L : List (Option Value)} {i j : Nat} {w : Value} (h : (kw_kill L i)[j]? = some (some w)) : L[j]? = some (some w) ∧ ¬ (j + 1 = i ∧ w.category = 2) := by
  unfold kw_kill at h
  split at h
  · exact ⟨h, by omega⟩
  · rename_i k
    split at h
    · rename_i w2 hw2
      split at h
      · rename_i h2
        rw [List.getElem?_set] at h
        by_cases e : k = j
        · subst e
          simp at h
        · simp [e] at h
          exact ⟨h, by omega⟩
      · rename_i h2
        refine ⟨h, fun ⟨a, b⟩ => ?_⟩
        have : j = k := by omega
        subst this
        rw [h] at hw2
        cases hw2
        exact h2 b
    · rename_i hne
      refine ⟨h, fun ⟨a, b⟩ => ?_⟩
      have : j = k := by omega
      subst this
      exact hne w h
theorem kw_lst {N nL i : Nat} {ls : Array Slot} {L : List (Option Value)} {v : Value} {lv' : List (Nat × Value)} (hl : (i, kw_v N v) :: (kw_pr N 0 L).filter (fun q => !(q.1 == i) && !(q.1 + 1 == i && q.2.category == 2)) = lv') (h : lv_has ls nL lv') : lv_has ls nL (kw_pr N 0 (kw_st L i v)) := by
  refine ⟨h.1, h.2.1, fun q hq => h.2.2 q ?_⟩
  rw [← hl]
  obtain ⟨j, w, h1, h2⟩ := kw_pr_mem.mp hq
  unfold kw_st at h1
  rw [List.getElem?_set] at h1
  by_cases e : i = j
  · subst e
    by_cases hlt : i < (kw_kill L i).length
    · simp [hlt] at h1
      subst h1
      rw [h2]
      simp
    · simp [hlt] at h1
  · simp [e] at h1
    obtain ⟨g1, g2⟩ := kw_kill_at h1
    refine List.mem_cons_of_mem _ (List.mem_filter.mpr ⟨kw_pr_mem.mpr ⟨j, w, g1, h2⟩, ?_⟩)
    rw [h2]
    simp only [Nat.zero_add, kw_v_cat]
    have e1 : (j == i) = false := by simp; omega
    rw [e1]
    by_cases e2 : j + 1 = i
    · have : ¬ w.category = 2 := fun z => g2 ⟨e2, z⟩
      simp [e2, this]
    · simp [e2]
theorem kw_lst2 {N nL i : Nat} {ls : Array Slot} {L : List (Option Value)} {v : Value} {lv' : List (Nat × Value)} (hl : (i, kw_v N v) :: (kw_pr N 0 L).filter (fun q => !(q.1 == i) && (!(q.1 == i + 1) && !(q.1 + 1 == i && q.2.category == 2))) = lv') (h : lv_has ls nL lv') : lv_has ls nL (kw_pr N 0 (kw_st2 L i v)) := by
  refine ⟨h.1, h.2.1, fun q hq => h.2.2 q ?_⟩
  rw [← hl]
  obtain ⟨j, w, h1, h2⟩ := kw_pr_mem.mp hq
  unfold kw_st2 at h1
  rw [List.getElem?_set] at h1
  by_cases e0 : i + 1 = j
  · subst e0
    by_cases hlt : i + 1 < ((kw_kill L i).set i (some v)).length <;> simp [hlt] at h1
  · simp only [e0, if_false] at h1
    rw [List.getElem?_set] at h1
    by_cases e : i = j
    · subst e
      by_cases hlt : i < (kw_kill L i).length
      · simp [hlt] at h1
        subst h1
        rw [h2]
        simp
      · simp [hlt] at h1
    · simp [e] at h1
      obtain ⟨g1, g2⟩ := kw_kill_at h1
      refine List.mem_cons_of_mem _ (List.mem_filter.mpr ⟨kw_pr_mem.mpr ⟨j, w, g1, h2⟩, ?_⟩)
      rw [h2]
      simp only [Nat.zero_add, kw_v_cat]
      have e1 : (j == i) = false := by simp; omega
      have e3 : (j == i + 1) = false := by simp; omega
      rw [e1, e3]
      by_cases e2 : j + 1 = i
      · have : ¬ w.category = 2 := fun z => g2 ⟨e2, z⟩
        simp [e2, this]
      · simp [e2]
end
section
section KwRows
variable {G : kw_G} {md : kw_M} {pc : Nat} {L : List (Option Value)} {S : List Value} {hp : kw_H} {Q : Option Value → kw_H → Prop}
theorem kw_iadd {x y : Int32} (d : decode md.2.1 pc = .ok (.iadd, 1)) (k : kw_V G md (pc + 1) L (.int (x + y) :: S) hp Q) : kw_V G md pc L (.int y :: .int x :: S) hp Q := by
  intro n0 p e s m args below meth c H locs ls hC hn hR hS hl
  exact lv_iadd hC.1 hC.2.1 d (k n0 p e s m args below meth c H locs ls hC hn hR hS hl)
theorem kw_isub {x y : Int32} (d : decode md.2.1 pc = .ok (.isub, 1)) (k : kw_V G md (pc + 1) L (.int (x - y) :: S) hp Q) : kw_V G md pc L (.int y :: .int x :: S) hp Q := by
  intro n0 p e s m args below meth c H locs ls hC hn hR hS hl
  exact lv_isub hC.1 hC.2.1 d (k n0 p e s m args below meth c H locs ls hC hn hR hS hl)
theorem kw_imul {x y : Int32} (d : decode md.2.1 pc = .ok (.imul, 1)) (k : kw_V G md (pc + 1) L (.int (x * y) :: S) hp Q) : kw_V G md pc L (.int y :: .int x :: S) hp Q := by
  intro n0 p e s m args below meth c H locs ls hC hn hR hS hl
  exact lv_imul hC.1 hC.2.1 d (k n0 p e s m args below meth c H locs ls hC hn hR hS hl)
theorem kw_iand {x y : Int32} (d : decode md.2.1 pc = .ok (.iand, 1)) (k : kw_V G md (pc + 1) L (.int (x &&& y) :: S) hp Q) : kw_V G md pc L (.int y :: .int x :: S) hp Q := by
  intro n0 p e s m args below meth c H locs ls hC hn hR hS hl
  exact lv_iand hC.1 hC.2.1 d (k n0 p e s m args below meth c H locs ls hC hn hR hS hl)
theorem kw_ior {x y : Int32} (d : decode md.2.1 pc = .ok (.ior, 1)) (k : kw_V G md (pc + 1) L (.int (x ||| y) :: S) hp Q) : kw_V G md pc L (.int y :: .int x :: S) hp Q := by
  intro n0 p e s m args below meth c H locs ls hC hn hR hS hl
  exact lv_ior hC.1 hC.2.1 d (k n0 p e s m args below meth c H locs ls hC hn hR hS hl)
theorem kw_ixor {x y : Int32} (d : decode md.2.1 pc = .ok (.ixor, 1)) (k : kw_V G md (pc + 1) L (.int (x ^^^ y) :: S) hp Q) : kw_V G md pc L (.int y :: .int x :: S) hp Q := by
  intro n0 p e s m args below meth c H locs ls hC hn hR hS hl
  exact lv_ixor hC.1 hC.2.1 d (k n0 p e s m args below meth c H locs ls hC hn hR hS hl)
theorem kw_ishl {x y : Int32} (d : decode md.2.1 pc = .ok (.ishl, 1)) (k : kw_V G md (pc + 1) L (.int (x <<< (y &&& 31)) :: S) hp Q) : kw_V G md pc L (.int y :: .int x :: S) hp Q := by
  intro n0 p e s m args below meth c H locs ls hC hn hR hS hl
  exact lv_ishl hC.1 hC.2.1 d (k n0 p e s m args below meth c H locs ls hC hn hR hS hl)
theorem kw_ishr {x y : Int32} (d : decode md.2.1 pc = .ok (.ishr, 1)) (k : kw_V G md (pc + 1) L (.int (x >>> (y &&& 31)) :: S) hp Q) : kw_V G md pc L (.int y :: .int x :: S) hp Q := by
  intro n0 p e s m args below meth c H locs ls hC hn hR hS hl
  exact lv_ishr hC.1 hC.2.1 d (k n0 p e s m args below meth c H locs ls hC hn hR hS hl)
theorem kw_iushr {x y : Int32} (d : decode md.2.1 pc = .ok (.iushr, 1)) (k : kw_V G md (pc + 1) L (.int ((x.toUInt32 >>> (y.toUInt32 &&& Int32.toUInt32 31)).toInt32) :: S) hp Q) : kw_V G md pc L (.int y :: .int x :: S) hp Q := by
  intro n0 p e s m args below meth c H locs ls hC hn hR hS hl
  exact lv_iushr hC.1 hC.2.1 d rfl (k n0 p e s m args below meth c H locs ls hC hn hR hS hl)
theorem kw_idiv {x y : Int32} (d : decode md.2.1 pc = .ok (.idiv, 1)) (hne : ¬ y = 0) (k : kw_V G md (pc + 1) L (.int (x / y) :: S) hp Q) : kw_V G md pc L (.int y :: .int x :: S) hp Q := by
  intro n0 p e s m args below meth c H locs ls hC hn hR hS hl
  exact lv_idiv hC.1 hC.2.1 d hne (k n0 p e s m args below meth c H locs ls hC hn hR hS hl)
theorem kw_irem {x y : Int32} (d : decode md.2.1 pc = .ok (.irem, 1)) (hne : ¬ y = 0) (k : kw_V G md (pc + 1) L (.int (x - x / y * y) :: S) hp Q) : kw_V G md pc L (.int y :: .int x :: S) hp Q := by
  intro n0 p e s m args below meth c H locs ls hC hn hR hS hl
  exact lv_irem hC.1 hC.2.1 d hne (k n0 p e s m args below meth c H locs ls hC hn hR hS hl)
theorem kw_ineg {x : Int32} (d : decode md.2.1 pc = .ok (.ineg, 1)) (k : kw_V G md (pc + 1) L (.int (-x) :: S) hp Q) : kw_V G md pc L (.int x :: S) hp Q := by
  intro n0 p e s m args below meth c H locs ls hC hn hR hS hl
  exact lv_ineg hC.1 hC.2.1 d (k n0 p e s m args below meth c H locs ls hC hn hR hS hl)
theorem kw_ladd {x y : Int64} (d : decode md.2.1 pc = .ok (.ladd, 1)) (k : kw_V G md (pc + 1) L (.long (x + y) :: S) hp Q) : kw_V G md pc L (.long y :: .long x :: S) hp Q := by
  intro n0 p e s m args below meth c H locs ls hC hn hR hS hl
  exact lv_ladd hC.1 hC.2.1 d (k n0 p e s m args below meth c H locs ls hC hn hR hS hl)
theorem kw_lmul {x y : Int64} (d : decode md.2.1 pc = .ok (.lmul, 1)) (k : kw_V G md (pc + 1) L (.long (x * y) :: S) hp Q) : kw_V G md pc L (.long y :: .long x :: S) hp Q := by
  intro n0 p e s m args below meth c H locs ls hC hn hR hS hl
  exact lv_lmul hC.1 hC.2.1 d (k n0 p e s m args below meth c H locs ls hC hn hR hS hl)
theorem kw_ldiv {x y : Int64} (d : decode md.2.1 pc = .ok (.ldiv, 1)) (hne : ¬ y = 0) (k : kw_V G md (pc + 1) L (.long (x / y) :: S) hp Q) : kw_V G md pc L (.long y :: .long x :: S) hp Q := by
  intro n0 p e s m args below meth c H locs ls hC hn hR hS hl
  exact lv_ldiv hC.1 hC.2.1 d hne (k n0 p e s m args below meth c H locs ls hC hn hR hS hl)
theorem kw_lrem {x y : Int64} (d : decode md.2.1 pc = .ok (.lrem, 1)) (hne : ¬ y = 0) (k : kw_V G md (pc + 1) L (.long (x - x / y * y) :: S) hp Q) : kw_V G md pc L (.long y :: .long x :: S) hp Q := by
  intro n0 p e s m args below meth c H locs ls hC hn hR hS hl
  exact lv_lrem hC.1 hC.2.1 d hne (k n0 p e s m args below meth c H locs ls hC hn hR hS hl)
theorem kw_lcmp {x y : Int64} (d : decode md.2.1 pc = .ok (.lcmp, 1)) (k : kw_V G md (pc + 1) L (.int (lg_cmp x y) :: S) hp Q) : kw_V G md pc L (.long y :: .long x :: S) hp Q := by
  intro n0 p e s m args below meth c H locs ls hC hn hR hS hl
  exact W.lcmp hC.1 hC.2.1 d (k n0 p e s m args below meth c H locs ls hC hn hR hS hl)
theorem kw_i2l {x : Int32} (d : decode md.2.1 pc = .ok (.i2l, 1)) (k : kw_V G md (pc + 1) L (.long x.toInt64 :: S) hp Q) : kw_V G md pc L (.int x :: S) hp Q := by
  intro n0 p e s m args below meth c H locs ls hC hn hR hS hl
  exact lv_i2l hC.1 hC.2.1 d rfl (k n0 p e s m args below meth c H locs ls hC hn hR hS hl)
theorem kw_l2i {x : Int64} (d : decode md.2.1 pc = .ok (.l2i, 1)) (k : kw_V G md (pc + 1) L (.int x.toInt32 :: S) hp Q) : kw_V G md pc L (.long x :: S) hp Q := by
  intro n0 p e s m args below meth c H locs ls hC hn hR hS hl
  exact lv_l2i hC.1 hC.2.1 d rfl (k n0 p e s m args below meth c H locs ls hC hn hR hS hl)
theorem kw_i2b {x : Int32} (d : decode md.2.1 pc = .ok (.i2b, 1)) (k : kw_V G md (pc + 1) L (.int x.toInt8.toInt32 :: S) hp Q) : kw_V G md pc L (.int x :: S) hp Q := by
  intro n0 p e s m args below meth c H locs ls hC hn hR hS hl
  exact lv_i2b hC.1 hC.2.1 d rfl (k n0 p e s m args below meth c H locs ls hC hn hR hS hl)
theorem kw_i2s {x : Int32} (d : decode md.2.1 pc = .ok (.i2s, 1)) (k : kw_V G md (pc + 1) L (.int x.toInt16.toInt32 :: S) hp Q) : kw_V G md pc L (.int x :: S) hp Q := by
  intro n0 p e s m args below meth c H locs ls hC hn hR hS hl
  exact lv_i2s hC.1 hC.2.1 d rfl (k n0 p e s m args below meth c H locs ls hC hn hR hS hl)
theorem kw_iconst {n : Int} {v : Int32} (d : decode md.2.1 pc = .ok (.iconst n, 1)) (hv : Int32.ofInt n = v) (k : kw_V G md (pc + 1) L (.int v :: S) hp Q) : kw_V G md pc L (S) hp Q := by
  intro n0 p e s m args below meth c H locs ls hC hn hR hS hl
  exact lv_iconst hC.1 hC.2.1 d hv (k n0 p e s m args below meth c H locs ls hC hn hR hS hl)
theorem kw_bipush {n : Int} {v : Int32} (d : decode md.2.1 pc = .ok (.bipush n, 2)) (hv : (Int8.ofInt n).toInt32 = v) (k : kw_V G md (pc + 2) L (.int v :: S) hp Q) : kw_V G md pc L (S) hp Q := by
  intro n0 p e s m args below meth c H locs ls hC hn hR hS hl
  exact lv_bipush hC.1 hC.2.1 d hv (k n0 p e s m args below meth c H locs ls hC hn hR hS hl)
theorem kw_sipush {n : Int} {v : Int32} (d : decode md.2.1 pc = .ok (.sipush n, 3)) (hv : (Int16.ofInt n).toInt32 = v) (k : kw_V G md (pc + 3) L (.int v :: S) hp Q) : kw_V G md pc L (S) hp Q := by
  intro n0 p e s m args below meth c H locs ls hC hn hR hS hl
  exact lv_sipush hC.1 hC.2.1 d hv (k n0 p e s m args below meth c H locs ls hC hn hR hS hl)
theorem kw_lconst {n : Fin 2} {v : Int64} (d : decode md.2.1 pc = .ok (.lconst n, 1)) (hv : Int64.ofNat (n : Nat) = v) (k : kw_V G md (pc + 1) L (.long v :: S) hp Q) : kw_V G md pc L (S) hp Q := by
  intro n0 p e s m args below meth c H locs ls hC hn hR hS hl
  exact lv_lconst hC.1 hC.2.1 d hv (k n0 p e s m args below meth c H locs ls hC hn hR hS hl)
theorem kw_aconst_null  (d : decode md.2.1 pc = .ok (.aconst_null, 1)) (k : kw_V G md (pc + 1) L (.null :: S) hp Q) : kw_V G md pc L (S) hp Q := by
  intro n0 p e s m args below meth c H locs ls hC hn hR hS hl
  exact lv_null hC.1 hC.2.1 d (k n0 p e s m args below meth c H locs ls hC hn hR hS hl)
theorem kw_ldc {i : Nat} {v : Int32} (d : decode md.2.1 pc = .ok (.ldc i, 2)) (hw : Cond.constant md.1.cls i v ∈ kw_T) (k : kw_V G md (pc + 2) L (.int v :: S) hp Q) : kw_V G md pc L (S) hp Q := by
  intro n0 p e s m args below meth c H locs ls hC hn hR hS hl
  exact lv_ldc hC.1 hC.2.1 hC.2.2.2.2.2.2.1 (hC.2.2.2.2.2.2.2.1 _ hw) d (k n0 p e s m args below meth c H locs ls hC hn hR hS hl)
theorem kw_ldc_w {i : Nat} {v : Int32} (d : decode md.2.1 pc = .ok (.ldc_w i, 3)) (hw : Cond.constant md.1.cls i v ∈ kw_T) (k : kw_V G md (pc + 3) L (.int v :: S) hp Q) : kw_V G md pc L (S) hp Q := by
  intro n0 p e s m args below meth c H locs ls hC hn hR hS hl
  exact lv_ldcw hC.1 hC.2.1 hC.2.2.2.2.2.2.1 (hC.2.2.2.2.2.2.2.1 _ hw) d (k n0 p e s m args below meth c H locs ls hC hn hR hS hl)
theorem kw_ldc2_w {i : Nat} {v : Int64} (d : decode md.2.1 pc = .ok (.ldc2_w i, 3)) (hw : Cond.constantLong md.1.cls i v ∈ kw_T) (k : kw_V G md (pc + 3) L (.long v :: S) hp Q) : kw_V G md pc L (S) hp Q := by
  intro n0 p e s m args below meth c H locs ls hC hn hR hS hl
  exact lv_ldc2 hC.1 hC.2.1 hC.2.2.2.2.2.2.1 (hC.2.2.2.2.2.2.2.1 _ hw) d (k n0 p e s m args below meth c H locs ls hC hn hR hS hl)
theorem kw_iload {i : Nat} {x : Int32} (d : decode md.2.1 pc = .ok (.iload i, 2)) (hv : L[i]? = some (some (.int x))) (k : kw_V G md (pc + 2) L (.int x :: S) hp Q) : kw_V G md pc L (S) hp Q := by
  intro n0 p e s m args below meth c H locs ls hC hn hR hS hl
  exact lv_iload hC.1 hC.2.1 d (kw_lat hl hv) (k n0 p e s m args below meth c H locs ls hC hn hR hS hl)
theorem kw_iload_n {i : Fin 4} {x : Int32} (d : decode md.2.1 pc = .ok (.iload_n i, 1)) (hv : L[(i : Nat)]? = some (some (.int x))) (k : kw_V G md (pc + 1) L (.int x :: S) hp Q) : kw_V G md pc L (S) hp Q := by
  intro n0 p e s m args below meth c H locs ls hC hn hR hS hl
  exact lv_iload_n hC.1 hC.2.1 d rfl (kw_lat hl hv) (k n0 p e s m args below meth c H locs ls hC hn hR hS hl)
theorem kw_lload {i : Nat} {x : Int64} (d : decode md.2.1 pc = .ok (.lload i, 2)) (hv : L[i]? = some (some (.long x))) (k : kw_V G md (pc + 2) L (.long x :: S) hp Q) : kw_V G md pc L (S) hp Q := by
  intro n0 p e s m args below meth c H locs ls hC hn hR hS hl
  exact lv_lload hC.1 hC.2.1 d (kw_lat hl hv) (k n0 p e s m args below meth c H locs ls hC hn hR hS hl)
theorem kw_lload_n {i : Fin 4} {x : Int64} (d : decode md.2.1 pc = .ok (.lload_n i, 1)) (hv : L[(i : Nat)]? = some (some (.long x))) (k : kw_V G md (pc + 1) L (.long x :: S) hp Q) : kw_V G md pc L (S) hp Q := by
  intro n0 p e s m args below meth c H locs ls hC hn hR hS hl
  exact lv_lload_n hC.1 hC.2.1 d rfl (kw_lat hl hv) (k n0 p e s m args below meth c H locs ls hC hn hR hS hl)
theorem kw_aload {i : Nat} {x : Nat} (d : decode md.2.1 pc = .ok (.aload i, 2)) (hv : L[i]? = some (some (.ref x))) (k : kw_V G md (pc + 2) L (.ref x :: S) hp Q) : kw_V G md pc L (S) hp Q := by
  intro n0 p e s m args below meth c H locs ls hC hn hR hS hl
  exact lv_aload hC.1 hC.2.1 d (kw_lat hl hv) (k n0 p e s m args below meth c H locs ls hC hn hR hS hl)
theorem kw_aload_n {i : Fin 4} {x : Nat} (d : decode md.2.1 pc = .ok (.aload_n i, 1)) (hv : L[(i : Nat)]? = some (some (.ref x))) (k : kw_V G md (pc + 1) L (.ref x :: S) hp Q) : kw_V G md pc L (S) hp Q := by
  intro n0 p e s m args below meth c H locs ls hC hn hR hS hl
  exact lv_aload_n hC.1 hC.2.1 d rfl (kw_lat hl hv) (k n0 p e s m args below meth c H locs ls hC hn hR hS hl)
theorem kw_aloadN {i : Nat} (d : decode md.2.1 pc = .ok (.aload i, 2)) (hv : L[i]? = some (some .null)) (k : kw_V G md (pc + 2) L (.null :: S) hp Q) : kw_V G md pc L (S) hp Q := by
  intro n0 p e s m args below meth c H locs ls hC hn hR hS hl
  exact lv_aloadN hC.1 hC.2.1 d (kw_lat hl hv) (k n0 p e s m args below meth c H locs ls hC hn hR hS hl)
theorem kw_aload_nN {i : Fin 4} (d : decode md.2.1 pc = .ok (.aload_n i, 1)) (hv : L[(i : Nat)]? = some (some .null)) (k : kw_V G md (pc + 1) L (.null :: S) hp Q) : kw_V G md pc L (S) hp Q := by
  intro n0 p e s m args below meth c H locs ls hC hn hR hS hl
  exact lv_aload_nN hC.1 hC.2.1 d rfl (kw_lat hl hv) (k n0 p e s m args below meth c H locs ls hC hn hR hS hl)
theorem kw_istore {i : Nat} {x : Int32} {L' : List (Option Value)} (d : decode md.2.1 pc = .ok (.istore i, 2)) (hi : i < md.2.2.1) (hL : kw_st L i (.int x) = L') (k : kw_V G md (pc + 2) L' S hp Q) : kw_V G md pc L (.int x :: S) hp Q := by
  intro n0 p e s m args below meth c H locs ls hC hn hR hS hl
  refine lv_istore hC.1 hC.2.1 d hl hi rfl fun ls' hl' => ?_
  refine k n0 p e s m args below meth c H locs ls' hC hn hR hS ?_
  rw [← hL]
  exact kw_lst (v := (.int x)) rfl hl'
theorem kw_istore_n {i : Fin 4} {x : Int32} {L' : List (Option Value)} (d : decode md.2.1 pc = .ok (.istore_n i, 1)) (hi : (i : Nat) < md.2.2.1) (hL : kw_st L (i : Nat) (.int x) = L') (k : kw_V G md (pc + 1) L' S hp Q) : kw_V G md pc L (.int x :: S) hp Q := by
  intro n0 p e s m args below meth c H locs ls hC hn hR hS hl
  refine lv_istore_n hC.1 hC.2.1 d rfl hl hi rfl fun ls' hl' => ?_
  refine k n0 p e s m args below meth c H locs ls' hC hn hR hS ?_
  rw [← hL]
  exact kw_lst (v := (.int x)) rfl hl'
theorem kw_lstore {i : Nat} {x : Int64} {L' : List (Option Value)} (d : decode md.2.1 pc = .ok (.lstore i, 2)) (hi : i + 1 < md.2.2.1) (hL : kw_st2 L i (.long x) = L') (k : kw_V G md (pc + 2) L' S hp Q) : kw_V G md pc L (.long x :: S) hp Q := by
  intro n0 p e s m args below meth c H locs ls hC hn hR hS hl
  refine lv_lstore hC.1 hC.2.1 d hl hi rfl fun ls' hl' => ?_
  refine k n0 p e s m args below meth c H locs ls' hC hn hR hS ?_
  rw [← hL]
  exact kw_lst2 (v := (.long x)) rfl hl'
theorem kw_lstore_n {i : Fin 4} {x : Int64} {L' : List (Option Value)} (d : decode md.2.1 pc = .ok (.lstore_n i, 1)) (hi : (i : Nat) + 1 < md.2.2.1) (hL : kw_st2 L (i : Nat) (.long x) = L') (k : kw_V G md (pc + 1) L' S hp Q) : kw_V G md pc L (.long x :: S) hp Q := by
  intro n0 p e s m args below meth c H locs ls hC hn hR hS hl
  refine lv_lstore_n hC.1 hC.2.1 d rfl hl hi rfl fun ls' hl' => ?_
  refine k n0 p e s m args below meth c H locs ls' hC hn hR hS ?_
  rw [← hL]
  exact kw_lst2 (v := (.long x)) rfl hl'
theorem kw_astore {i : Nat} {x : Nat} {L' : List (Option Value)} (d : decode md.2.1 pc = .ok (.astore i, 2)) (hi : i < md.2.2.1) (hL : kw_st L i (.ref x) = L') (k : kw_V G md (pc + 2) L' S hp Q) : kw_V G md pc L (.ref x :: S) hp Q := by
  intro n0 p e s m args below meth c H locs ls hC hn hR hS hl
  refine lv_astore hC.1 hC.2.1 d hl hi rfl fun ls' hl' => ?_
  refine k n0 p e s m args below meth c H locs ls' hC hn hR hS ?_
  rw [← hL]
  exact kw_lst (v := (.ref x)) rfl hl'
theorem kw_astore_n {i : Fin 4} {x : Nat} {L' : List (Option Value)} (d : decode md.2.1 pc = .ok (.astore_n i, 1)) (hi : (i : Nat) < md.2.2.1) (hL : kw_st L (i : Nat) (.ref x) = L') (k : kw_V G md (pc + 1) L' S hp Q) : kw_V G md pc L (.ref x :: S) hp Q := by
  intro n0 p e s m args below meth c H locs ls hC hn hR hS hl
  refine lv_astore_n hC.1 hC.2.1 d rfl hl hi rfl fun ls' hl' => ?_
  refine k n0 p e s m args below meth c H locs ls' hC hn hR hS ?_
  rw [← hL]
  exact kw_lst (v := (.ref x)) rfl hl'
theorem kw_astoreN {i : Nat} {L' : List (Option Value)} (d : decode md.2.1 pc = .ok (.astore i, 2)) (hi : i < md.2.2.1) (hL : kw_st L i .null = L') (k : kw_V G md (pc + 2) L' S hp Q) : kw_V G md pc L (.null :: S) hp Q := by
  intro n0 p e s m args below meth c H locs ls hC hn hR hS hl
  refine lv_astoreN hC.1 hC.2.1 d hl hi rfl fun ls' hl' => ?_
  refine k n0 p e s m args below meth c H locs ls' hC hn hR hS ?_
  rw [← hL]
  exact kw_lst (v := .null) rfl hl'
theorem kw_astore_nN {i : Fin 4} {L' : List (Option Value)} (d : decode md.2.1 pc = .ok (.astore_n i, 1)) (hi : (i : Nat) < md.2.2.1) (hL : kw_st L (i : Nat) .null = L') (k : kw_V G md (pc + 1) L' S hp Q) : kw_V G md pc L (.null :: S) hp Q := by
  intro n0 p e s m args below meth c H locs ls hC hn hR hS hl
  refine lv_astore_nN hC.1 hC.2.1 d rfl hl hi rfl fun ls' hl' => ?_
  refine k n0 p e s m args below meth c H locs ls' hC hn hR hS ?_
  rw [← hL]
  exact kw_lst (v := .null) rfl hl'
theorem kw_iinc {i : Nat} {x : Int32} {n : Int} {L' : List (Option Value)} (d : decode md.2.1 pc = .ok (.iinc i n, 3)) (hv : L[i]? = some (some (.int x))) (hi : i < md.2.2.1) (hL : kw_st L i (.int (x + Int32.ofInt n)) = L') (k : kw_V G md (pc + 3) L' S hp Q) : kw_V G md pc L S hp Q := by
  intro n0 p e s m args below meth c H locs ls hC hn hR hS hl
  obtain ⟨j, hj⟩ := List.getElem?_of_mem (kw_pr_mem.mpr ⟨i, .int x, hv, rfl⟩ : ((0 + i, kw_v G.2.1 (.int x)) : Nat × Value) ∈ kw_pr G.2.1 0 L)
  rw [Nat.zero_add] at hj
  refine lv_iinc hC.1 hC.2.1 d hl hj rfl hi rfl fun ls' hl' => ?_
  refine k n0 p e s m args below meth c H locs ls' hC hn hR hS ?_
  rw [← hL]
  exact kw_lst (v := .int (x + Int32.ofInt n)) rfl hl'
theorem kw_dup {a : Value} (d : decode md.2.1 pc = .ok (.dup, 1)) (h1 : a.category = 1) (k : kw_V G md (pc + 1) L (a :: a :: S) hp Q) : kw_V G md pc L (a :: S) hp Q := by
  intro n0 p e s m args below meth c H locs ls hC hn hR hS hl
  exact lv_dup hC.1 hC.2.1 d ((kw_v_cat _ _).trans h1) (k n0 p e s m args below meth c H locs ls hC hn hR hS hl)
theorem kw_pop {a : Value} (d : decode md.2.1 pc = .ok (.pop, 1)) (h1 : a.category = 1) (k : kw_V G md (pc + 1) L (S) hp Q) : kw_V G md pc L (a :: S) hp Q := by
  intro n0 p e s m args below meth c H locs ls hC hn hR hS hl
  exact lv_pop hC.1 hC.2.1 d ((kw_v_cat _ _).trans h1) (k n0 p e s m args below meth c H locs ls hC hn hR hS hl)
theorem kw_dup2 {a b : Value} (d : decode md.2.1 pc = .ok (.dup2, 1)) (h1 : a.category = 1) (h2 : b.category = 1) (k : kw_V G md (pc + 1) L (a :: b :: a :: b :: S) hp Q) : kw_V G md pc L (a :: b :: S) hp Q := by
  intro n0 p e s m args below meth c H locs ls hC hn hR hS hl
  exact lv_dup2_11 hC.1 hC.2.1 d ((kw_v_cat _ _).trans h1) ((kw_v_cat _ _).trans h2) (k n0 p e s m args below meth c H locs ls hC hn hR hS hl)
theorem kw_if_eq {x : Int32} {off : Int} (t : Nat) (d : decode md.2.1 pc = .ok (.ifCond .eq off, 3)) (ht : (pc : Int) + off = (t : Int)) (kt : x = 0 → kw_V G md t L S hp Q) (kf : ¬ x = 0 → kw_V G md (pc + 3) L S hp Q) : kw_V G md pc L (.int x :: S) hp Q := by
  intro n0 p e s m args below meth c H locs ls hC hn hR hS hl
  exact lv_if_eq hC.1 hC.2.1 d ht (fun h => kt h n0 p e s m args below meth c H locs ls hC hn hR hS hl) (fun h => kf h n0 p e s m args below meth c H locs ls hC hn hR hS hl)
theorem kw_icmp_eq {x y : Int32} {off : Int} (t : Nat) (d : decode md.2.1 pc = .ok (.if_icmp .eq off, 3)) (ht : (pc : Int) + off = (t : Int)) (kt : x = y → kw_V G md t L S hp Q) (kf : ¬ x = y → kw_V G md (pc + 3) L S hp Q) : kw_V G md pc L (.int y :: .int x :: S) hp Q := by
  intro n0 p e s m args below meth c H locs ls hC hn hR hS hl
  exact lv_icmp_eq hC.1 hC.2.1 d ht (fun h => kt h n0 p e s m args below meth c H locs ls hC hn hR hS hl) (fun h => kf h n0 p e s m args below meth c H locs ls hC hn hR hS hl)
theorem kw_if_ne {x : Int32} {off : Int} (t : Nat) (d : decode md.2.1 pc = .ok (.ifCond .ne off, 3)) (ht : (pc : Int) + off = (t : Int)) (kt : ¬ x = 0 → kw_V G md t L S hp Q) (kf : x = 0 → kw_V G md (pc + 3) L S hp Q) : kw_V G md pc L (.int x :: S) hp Q := by
  intro n0 p e s m args below meth c H locs ls hC hn hR hS hl
  exact lv_if_ne hC.1 hC.2.1 d ht (fun h => kt h n0 p e s m args below meth c H locs ls hC hn hR hS hl) (fun h => kf h n0 p e s m args below meth c H locs ls hC hn hR hS hl)
theorem kw_icmp_ne {x y : Int32} {off : Int} (t : Nat) (d : decode md.2.1 pc = .ok (.if_icmp .ne off, 3)) (ht : (pc : Int) + off = (t : Int)) (kt : ¬ x = y → kw_V G md t L S hp Q) (kf : x = y → kw_V G md (pc + 3) L S hp Q) : kw_V G md pc L (.int y :: .int x :: S) hp Q := by
  intro n0 p e s m args below meth c H locs ls hC hn hR hS hl
  exact lv_icmp_ne hC.1 hC.2.1 d ht (fun h => kt h n0 p e s m args below meth c H locs ls hC hn hR hS hl) (fun h => kf h n0 p e s m args below meth c H locs ls hC hn hR hS hl)
theorem kw_if_lt {x : Int32} {off : Int} (t : Nat) (d : decode md.2.1 pc = .ok (.ifCond .lt off, 3)) (ht : (pc : Int) + off = (t : Int)) (kt : x < 0 → kw_V G md t L S hp Q) (kf : ¬ x < 0 → kw_V G md (pc + 3) L S hp Q) : kw_V G md pc L (.int x :: S) hp Q := by
  intro n0 p e s m args below meth c H locs ls hC hn hR hS hl
  exact lv_if_lt hC.1 hC.2.1 d ht (fun h => kt h n0 p e s m args below meth c H locs ls hC hn hR hS hl) (fun h => kf h n0 p e s m args below meth c H locs ls hC hn hR hS hl)
theorem kw_icmp_lt {x y : Int32} {off : Int} (t : Nat) (d : decode md.2.1 pc = .ok (.if_icmp .lt off, 3)) (ht : (pc : Int) + off = (t : Int)) (kt : x < y → kw_V G md t L S hp Q) (kf : ¬ x < y → kw_V G md (pc + 3) L S hp Q) : kw_V G md pc L (.int y :: .int x :: S) hp Q := by
  intro n0 p e s m args below meth c H locs ls hC hn hR hS hl
  exact lv_icmp_lt hC.1 hC.2.1 d ht (fun h => kt h n0 p e s m args below meth c H locs ls hC hn hR hS hl) (fun h => kf h n0 p e s m args below meth c H locs ls hC hn hR hS hl)
theorem kw_if_ge {x : Int32} {off : Int} (t : Nat) (d : decode md.2.1 pc = .ok (.ifCond .ge off, 3)) (ht : (pc : Int) + off = (t : Int)) (kt : 0 ≤ x → kw_V G md t L S hp Q) (kf : ¬ 0 ≤ x → kw_V G md (pc + 3) L S hp Q) : kw_V G md pc L (.int x :: S) hp Q := by
  intro n0 p e s m args below meth c H locs ls hC hn hR hS hl
  exact lv_if_ge hC.1 hC.2.1 d ht (fun h => kt h n0 p e s m args below meth c H locs ls hC hn hR hS hl) (fun h => kf h n0 p e s m args below meth c H locs ls hC hn hR hS hl)
theorem kw_icmp_ge {x y : Int32} {off : Int} (t : Nat) (d : decode md.2.1 pc = .ok (.if_icmp .ge off, 3)) (ht : (pc : Int) + off = (t : Int)) (kt : y ≤ x → kw_V G md t L S hp Q) (kf : ¬ y ≤ x → kw_V G md (pc + 3) L S hp Q) : kw_V G md pc L (.int y :: .int x :: S) hp Q := by
  intro n0 p e s m args below meth c H locs ls hC hn hR hS hl
  exact lv_icmp_ge hC.1 hC.2.1 d ht (fun h => kt h n0 p e s m args below meth c H locs ls hC hn hR hS hl) (fun h => kf h n0 p e s m args below meth c H locs ls hC hn hR hS hl)
theorem kw_if_gt {x : Int32} {off : Int} (t : Nat) (d : decode md.2.1 pc = .ok (.ifCond .gt off, 3)) (ht : (pc : Int) + off = (t : Int)) (kt : 0 < x → kw_V G md t L S hp Q) (kf : ¬ 0 < x → kw_V G md (pc + 3) L S hp Q) : kw_V G md pc L (.int x :: S) hp Q := by
  intro n0 p e s m args below meth c H locs ls hC hn hR hS hl
  exact lv_if_gt hC.1 hC.2.1 d ht (fun h => kt h n0 p e s m args below meth c H locs ls hC hn hR hS hl) (fun h => kf h n0 p e s m args below meth c H locs ls hC hn hR hS hl)
theorem kw_icmp_gt {x y : Int32} {off : Int} (t : Nat) (d : decode md.2.1 pc = .ok (.if_icmp .gt off, 3)) (ht : (pc : Int) + off = (t : Int)) (kt : y < x → kw_V G md t L S hp Q) (kf : ¬ y < x → kw_V G md (pc + 3) L S hp Q) : kw_V G md pc L (.int y :: .int x :: S) hp Q := by
  intro n0 p e s m args below meth c H locs ls hC hn hR hS hl
  exact lv_icmp_gt hC.1 hC.2.1 d ht (fun h => kt h n0 p e s m args below meth c H locs ls hC hn hR hS hl) (fun h => kf h n0 p e s m args below meth c H locs ls hC hn hR hS hl)
theorem kw_if_le {x : Int32} {off : Int} (t : Nat) (d : decode md.2.1 pc = .ok (.ifCond .le off, 3)) (ht : (pc : Int) + off = (t : Int)) (kt : x ≤ 0 → kw_V G md t L S hp Q) (kf : ¬ x ≤ 0 → kw_V G md (pc + 3) L S hp Q) : kw_V G md pc L (.int x :: S) hp Q := by
  intro n0 p e s m args below meth c H locs ls hC hn hR hS hl
  exact lv_if_le hC.1 hC.2.1 d ht (fun h => kt h n0 p e s m args below meth c H locs ls hC hn hR hS hl) (fun h => kf h n0 p e s m args below meth c H locs ls hC hn hR hS hl)
theorem kw_icmp_le {x y : Int32} {off : Int} (t : Nat) (d : decode md.2.1 pc = .ok (.if_icmp .le off, 3)) (ht : (pc : Int) + off = (t : Int)) (kt : x ≤ y → kw_V G md t L S hp Q) (kf : ¬ x ≤ y → kw_V G md (pc + 3) L S hp Q) : kw_V G md pc L (.int y :: .int x :: S) hp Q := by
  intro n0 p e s m args below meth c H locs ls hC hn hR hS hl
  exact lv_icmp_le hC.1 hC.2.1 d ht (fun h => kt h n0 p e s m args below meth c H locs ls hC hn hR hS hl) (fun h => kf h n0 p e s m args below meth c H locs ls hC hn hR hS hl)
theorem kw_goto {off : Int} (t : Nat) (d : decode md.2.1 pc = .ok (.goto off, 3)) (ht : (pc : Int) + off = (t : Int)) (k : kw_V G md t L S hp Q) : kw_V G md pc L S hp Q := by
  intro n0 p e s m args below meth c H locs ls hC hn hR hS hl
  exact lv_goto hC.1 hC.2.1 d ht (k n0 p e s m args below meth c H locs ls hC hn hR hS hl)
theorem kw_ifnull {off : Int} {a : Nat} (d : decode md.2.1 pc = .ok (.ifnull off, 3)) (k : kw_V G md (pc + 3) L S hp Q) : kw_V G md pc L (.ref a :: S) hp Q := by
  intro n0 p e s m args below meth c H locs ls hC hn hR hS hl
  exact lv_ifnull hC.1 hC.2.1 d (k n0 p e s m args below meth c H locs ls hC hn hR hS hl)
theorem kw_ifnullN {off : Int} (t : Nat) (d : decode md.2.1 pc = .ok (.ifnull off, 3)) (ht : (pc : Int) + off = (t : Int)) (k : kw_V G md t L S hp Q) : kw_V G md pc L (.null :: S) hp Q := by
  intro n0 p e s m args below meth c H locs ls hC hn hR hS hl
  exact lv_ifnullN hC.1 hC.2.1 d ht (k n0 p e s m args below meth c H locs ls hC hn hR hS hl)
theorem kw_ifnonnull {off : Int} {a : Nat} (t : Nat) (d : decode md.2.1 pc = .ok (.ifnonnull off, 3)) (ht : (pc : Int) + off = (t : Int)) (k : kw_V G md t L S hp Q) : kw_V G md pc L (.ref a :: S) hp Q := by
  intro n0 p e s m args below meth c H locs ls hC hn hR hS hl
  exact lv_ifnonnull hC.1 hC.2.1 d ht (k n0 p e s m args below meth c H locs ls hC hn hR hS hl)
theorem kw_ifnonnullN {off : Int} (d : decode md.2.1 pc = .ok (.ifnonnull off, 3)) (k : kw_V G md (pc + 3) L S hp Q) : kw_V G md pc L (.null :: S) hp Q := by
  intro n0 p e s m args below meth c H locs ls hC hn hR hS hl
  exact lv_ifnonnullN hC.1 hC.2.1 d (k n0 p e s m args below meth c H locs ls hC hn hR hS hl)
theorem kw_lookup {dflt : Int} {ps : Array (Int × Int)} {len : Nat} {x : Int32} {off : Int} (t : Nat) (d : decode md.2.1 pc = .ok (.lookupswitch dflt ps, len)) (hp0 : (ps.toList.zip (ps.toList.drop 1)).all (fun (a, next) => a.1 < next.1) = true) (ho : Op.lookupswitch.offset ps.toList dflt x.toInt = off) (ht : (pc : Int) + off = (t : Int)) (k : kw_V G md t L S hp Q) : kw_V G md pc L (.int x :: S) hp Q := by
  intro n0 p e s m args below meth c H locs ls hC hn hR hS hl
  exact lv_lookup hC.1 hC.2.1 d hp0 ho ht (k n0 p e s m args below meth c H locs ls hC hn hR hS hl)
theorem kw_tableOut {dflt lo hi : Int} {offs : Array Int} {len : Nat} {x : Int32} (t : Nat) (d : decode md.2.1 pc = .ok (.tableswitch dflt lo hi offs, len)) (h : x.toInt < lo ∨ hi < x.toInt) (ht : (pc : Int) + dflt = (t : Int)) (k : kw_V G md t L S hp Q) : kw_V G md pc L (.int x :: S) hp Q := by
  intro n0 p e s m args below meth c H locs ls hC hn hR hS hl
  exact lv_tableOut hC.1 hC.2.1 d h ht (k n0 p e s m args below meth c H locs ls hC hn hR hS hl)
theorem kw_tableIn {dflt lo hi : Int} {offs : Array Int} {len : Nat} {x : Int32} {off : Int} (t : Nat) (d : decode md.2.1 pc = .ok (.tableswitch dflt lo hi offs, len)) (h1 : ¬ x.toInt < lo) (h2 : ¬ hi < x.toInt) (ho : offs[(x.toInt - lo).toNat]? = some off) (ht : (pc : Int) + off = (t : Int)) (k : kw_V G md t L S hp Q) : kw_V G md pc L (.int x :: S) hp Q := by
  intro n0 p e s m args below meth c H locs ls hC hn hR hS hl
  exact lv_tableIn hC.1 hC.2.1 d h1 h2 ho ht (k n0 p e s m args below meth c H locs ls hC hn hR hS hl)
def kw_mk : List Bool → List (Option Value) → List (Option Value)
  | true :: b, x :: l => x :: kw_mk b l
  | false :: b, _ :: l => none :: kw_mk b l
  | _, _ => []
theorem kw_mk_at : ∀ (b : List Bool) (l : List (Option Value)) (i : Nat) (v : Value), (kw_mk b l)[i]? = some (some v) → l[i]? = some (some v)
  | true :: b, x :: l, i, v, h => by
    cases i with
    | zero => simpa [kw_mk] using h
    | succ i => simpa using kw_mk_at b l i v (by simpa [kw_mk] using h)
  | false :: b, x :: l, i, v, h => by
    cases i with
    | zero => simp [kw_mk] at h
    | succ i => simpa using kw_mk_at b l i v (by simpa [kw_mk] using h)
  | [], l, i, v, h => by simp [kw_mk] at h
  | true :: b, [], i, v, h => by simp [kw_mk] at h
  | false :: b, [], i, v, h => by simp [kw_mk] at h
theorem kw_mask (b : List Bool) {L' : List (Option Value)} (hL : kw_mk b L = L') (k : kw_V G md pc L' S hp Q) : kw_V G md pc L S hp Q := by
  intro n0 p e s m args below meth c H locs ls hC hn hR hS hl
  exact k n0 p e s m args below meth c H locs ls hC hn hR hS (kw_lsub hl (fun i v h => kw_mk_at b L i v (by rw [hL]; exact h)))
end KwRows
end
section
/-! ===== returns, objects, arrays ===== -/
section KwHeap
variable {G : kw_G} {md : kw_M} {pc : Nat} {L : List (Option Value)} {S : List Value} {hp : kw_H} {Q : Option Value → kw_H → Prop}
theorem kw_le1 {n0 : Nat} {p : Program} {s : State} {m : MethodId} {args : Array Value} {meth : Method} {c : Code} {H : Heap} (hC : kw_C G md n0 p s m args meth c) (hn : n0 ≤ hp.length) (hR : kw_R G hp H) : H.size - s.heap.size ≤ 3900 - n0 := by
  have h1 := hC.2.2.2.2.2.2.2.2.2
  have h2 := hR.1
  have h3 := hR.2.1
  omega
theorem kw_le2 {n0 : Nat} {p : Program} {s : State} {m : MethodId} {args : Array Value} {meth : Method} {c : Code} {H : Heap} (hC : kw_C G md n0 p s m args meth c) (hn : n0 ≤ hp.length) (hR : kw_R G hp H) : 1848 * (H.size - s.heap.size) ≤ 1848 * (3900 - n0) :=
  Nat.mul_le_mul_left _ (kw_le1 hC hn hR)
theorem kw_iret {x : Int32} (hr : md.2.2.2.1 = some .int) (d : decode md.2.1 pc = .ok (.ireturn, 1)) (hq : Q (some (.int x)) hp) : kw_V G md pc L [.int x] hp Q := by
  intro n0 p e s m args below meth c H locs ls hC hn hR hS hl
  refine kw_know fun hsp hsz hsum => ?_
  refine W.widen (k := 3900 - n0) (n := 1848 * (3900 - n0)) (kw_le1 hC hn hR) (kw_le2 hC hn hR) ?_
  exact W.iret (v := x) hC.1 hC.2.1 (hC.2.2.2.1.trans hr) (fun t ht hW => ⟨some (.int x), hp, rfl, hq, by rw [ht]; exact hR, hS.F ht, by rw [ht]; exact hsp, by rw [ht]; exact hsum⟩) hS.2.2 d hC.2.2.2.2.1
theorem kw_zret {x : Int32} (hr : md.2.2.2.1 = some .boolean) (hx : x = 0 ∨ x = 1) (d : decode md.2.1 pc = .ok (.ireturn, 1)) (hq : Q (some (.int x)) hp) : kw_V G md pc L [.int x] hp Q := by
  intro n0 p e s m args below meth c H locs ls hC hn hR hS hl
  refine kw_know fun hsp hsz hsum => ?_
  refine W.widen (k := 3900 - n0) (n := 1848 * (3900 - n0)) (kw_le1 hC hn hR) (kw_le2 hC hn hR) ?_
  exact W.zret (v := x) (ty := .boolean) hC.1 hC.2.1 (hC.2.2.2.1.trans hr) (by rcases hx with rfl | rfl <;> rfl) (fun t ht hW => ⟨some (.int x), hp, rfl, hq, by rw [ht]; exact hR, hS.F ht, by rw [ht]; exact hsp, by rw [ht]; exact hsum⟩) hS.2.2 d hC.2.2.2.2.1
theorem kw_lret {x : Int64} (hr : md.2.2.2.1 = some .long) (d : decode md.2.1 pc = .ok (.lreturn, 1)) (hq : Q (some (.long x)) hp) : kw_V G md pc L [.long x] hp Q := by
  intro n0 p e s m args below meth c H locs ls hC hn hR hS hl
  refine kw_know fun hsp hsz hsum => ?_
  refine W.widen (k := 3900 - n0) (n := 1848 * (3900 - n0)) (kw_le1 hC hn hR) (kw_le2 hC hn hR) ?_
  exact W.lret (v := x) hC.1 hC.2.1 (hC.2.2.2.1.trans hr) (fun t ht hW => ⟨some (.long x), hp, rfl, hq, by rw [ht]; exact hR, hS.F ht, by rw [ht]; exact hsp, by rw [ht]; exact hsum⟩) hS.2.2 d hC.2.2.2.2.1
theorem kw_vret (hr : md.2.2.2.1 = none) (d : decode md.2.1 pc = .ok (.return_, 1)) (hq : Q none hp) : kw_V G md pc L [] hp Q := by
  intro n0 p e s m args below meth c H locs ls hC hn hR hS hl
  refine kw_know fun hsp hsz hsum => ?_
  refine W.widen (k := 3900 - n0) (n := 1848 * (3900 - n0)) (kw_le1 hC hn hR) (kw_le2 hC hn hR) ?_
  exact W.vret hC.1 hC.2.1 (hC.2.2.2.1.trans hr) (fun t ht hW => ⟨none, hp, rfl, hq, by rw [ht]; exact hR, hS.F ht, by rw [ht]; exact hsp, by rw [ht]; exact hsum⟩) hS.2.2 d hC.2.2.2.2.1
theorem kw_aret {n : String} {a : Nat} (hr : md.2.2.2.1 = some (.object n)) (d : decode md.2.1 pc = .ok (.areturn, 1)) (hq : Q (some (.ref a)) hp) : kw_V G md pc L [.ref a] hp Q := by
  intro n0 p e s m args below meth c H locs ls hC hn hR hS hl
  refine kw_know fun hsp hsz hsum => ?_
  refine W.widen (k := 3900 - n0) (n := 1848 * (3900 - n0)) (kw_le1 hC hn hR) (kw_le2 hC hn hR) ?_
  exact W.aret (v := .ref (G.2.1 + a)) hC.1 hC.2.1 (hC.2.2.2.1.trans hr) (Or.inl ⟨n, rfl⟩) (Or.inr ⟨_, rfl⟩) (fun t ht hW => ⟨some (.ref a), hp, rfl, hq, by rw [ht]; exact hR, hS.F ht, by rw [ht]; exact hsp, by rw [ht]; exact hsum⟩) hS.2.2 d hC.2.2.2.2.1
theorem kw_aretN {n : String} (hr : md.2.2.2.1 = some (.object n)) (d : decode md.2.1 pc = .ok (.areturn, 1)) (hq : Q (some .null) hp) : kw_V G md pc L [.null] hp Q := by
  intro n0 p e s m args below meth c H locs ls hC hn hR hS hl
  refine kw_know fun hsp hsz hsum => ?_
  refine W.widen (k := 3900 - n0) (n := 1848 * (3900 - n0)) (kw_le1 hC hn hR) (kw_le2 hC hn hR) ?_
  exact W.aret (v := .null) hC.1 hC.2.1 (hC.2.2.2.1.trans hr) (Or.inl ⟨n, rfl⟩) (Or.inl rfl) (fun t ht hW => ⟨some .null, hp, rfl, hq, by rw [ht]; exact hR, hS.F ht, by rw [ht]; exact hsp, by rw [ht]; exact hsum⟩) hS.2.2 d hC.2.2.2.2.1
/-- words by their places -/
theorem kw_in {w : Cond} (i : Nat) (h : lw_tbl[i]? = some w) (hg : goodWord w = true) : w ∈ kw_T := List.mem_filter.mpr ⟨List.mem_of_getElem? h, hg⟩
theorem kw_inN {G : kw_G} {s : State} {w : Cond} (i : Nat) (h : lw_tbl[i]? = some w) (hg : kw_isN w = true) (hZ : kw_Z G s) : w.before #[] s = true := hZ.2.1 w (List.mem_of_getElem? h) hg
/-- a class of the worlds: its words -/
def kw_cls (ci : Nat) (C : String) (T : u_T) (N : Nat) : Prop := vwCl[ci]? = some (C, T, N) ∧ ∀ w ∈ u_ws C T N, w ∈ kw_T
theorem kw_cls_of {ci : Nat} {C : String} {T : u_T} {N : Nat} (h : vwCl[ci]? = some (C, T, N)) (hi : ∀ w ∈ u_ws C T N, w ∈ lw_tbl) : kw_cls ci C T N := by
  refine ⟨h, fun w hw => List.mem_filter.mpr ⟨hi w hw, ?_⟩⟩
  obtain ⟨k, -, rfl⟩ := List.mem_map.mp hw
  unfold u_lay
  split <;> rfl
/-- a field's link in a class's pool -/
def kw_fl (own : String) (i : Nat) (T : u_T) (k : Nat) : Prop := ∃ ref : String, Cond.fieldLink own i ref (T k).2.1 (T k).2.2.1 ∈ kw_T ∧ (ref = (T k).1 ∨ Cond.sameField ref (T k).1 (T k).2.1 (T k).2.2.1 ∈ kw_T)
theorem kw_same {s : State} {args : Array Value} {ref : String} {T : u_T} {k : Nat} (hts : ∀ w ∈ kw_T, w.before args s = true) (h : ref = (T k).1 ∨ Cond.sameField ref (T k).1 (T k).2.1 (T k).2.2.1 ∈ kw_T) : ∀ x, s.fieldFound? (T k).1 (T k).2.1 (T k).2.2.1 = some x → s.fieldFound? ref (T k).2.1 (T k).2.2.1 = some x := by
  rcases h with rfl | h
  · exact fun _ h => h
  · exact fun x hx => u_same (hts _ h) x hx
theorem kw_get {i ci k N a : Nat} {C : String} {T : u_T} {fs : List Value} {v : Value} (hcl : kw_cls ci C T N) (hk : k < N) (hf : kw_fl md.1.cls i T k) (d : decode md.2.1 pc = .ok (.getfield i, 3)) (ho : hp[a]? = some (.inr (ci, fs))) (hv : fs[k]? = some v) (kk : kw_V G md (pc + 3) L (v :: S) hp Q) : kw_V G md pc L (.ref a :: S) hp Q := by
  intro n0 p e s m args below meth c H locs ls hC hn hR hS hl
  obtain ⟨ref, hw, hs⟩ := hf
  have hts := hC.2.2.2.2.2.2.2.1
  exact va_get (D := G.2.2.1) (ci := ci) (v := kw_v G.2.1 v) hC.1 hC.2.1 hts hcl.2 hC.2.2.2.2.2.2.1 hC.2.2.2.2.2.2.2.2.1.1 hR.2.2 a (kw_w_get ho) hcl.1 k hk (hts _ hw) (kw_same hts hs) (by rw [List.getElem?_map, hv]; rfl) d (kk n0 p e s m args below meth c H locs ls hC hn hR hS hl)
theorem kw_step {pc' : Nat} {hp' : kw_H} (k : kw_V G md pc' L S hp' Q) {n0 : Nat} {p : Program} {e : Env} {s : State} {m : MethodId} {args : Array Value} {below : List Frame} {meth : Method} {c : Code} {H H1 : Heap} {locs1 : List Loc} {ls : Array Slot} (hC : kw_C G md n0 p s m args meth c) (hn : n0 ≤ hp.length) (hR : kw_R G hp H) (hlen : hp'.length = hp.length) (hpos : 0 < hp.length) (hP1 : va_P G.2.2.1 vwCl (kw_w G.2.1 G.2.2.2 hp') H1) (hS1 : va_S (fun q => G.2.1 ≤ q) s.heap H1 locs1) (hl : lv_has ls md.2.2.1 (kw_pr G.2.1 0 L)) :
    W p G.1 e (kw_rm md n0) s m args below meth c H1 locs1 (H.size - s.heap.size) (1848 * (H.size - s.heap.size)) (MQ below (kw_Q G Q) args s (3900 - n0) (1848 * (3900 - n0)) (fun q => G.2.1 ≤ q)) (F0 m pc' ls (S.map (kw_v G.2.1))) := by
  refine kw_know fun hsp hsz hsum => ?_
  have h1 := hC.2.2.2.2.2.2.2.2.2
  have h2 := hR.1
  have h3 : hp.length - 1 < hp'.length := by omega
  have h4 := (hP1 (hp.length - 1) _ (kw_w_get (List.getElem?_eq_getElem h3))).lt
  have e1 : H1.size = H.size := by
    have h5 : G.2.1 + (hp.length - 1) < H1.size := h4
    omega
  rw [← e1]
  exact k n0 p e s m args below meth c H1 locs1 ls hC (by omega) ⟨by rw [e1, hlen]; exact h2, by rw [hlen]; exact hR.2.1, hP1⟩ hS1 hl
theorem kw_pos {a : Nat} {x : kw_E} (h : hp[a]? = some x) : 0 < hp.length := Nat.lt_of_le_of_lt (Nat.zero_le _) (List.getElem?_eq_some_iff.mp h).1
theorem kw_put {i ci k N a : Nat} {C : String} {T : u_T} {tyF : Nat → FieldType} {fs : List Value} {v : Value} (hcl : kw_cls ci C T N) (hty : ∀ k, k < N → parseFieldDescriptor (T k).2.2.1 = some (tyF k)) (hnm : ∀ a, a < N → ∀ b, b < N → a ≠ b → (T a).2.1 ≠ (T b).2.1) (hk : k < N) (hf : kw_fl md.1.cls i T k) (hfin : (T k).2.2.2 = false) (d : decode md.2.1 pc = .ok (.putfield i, 3)) (ho : hp[a]? = some (.inr (ci, fs))) (hl : k < fs.length) (hv : narrow (tyF k) (kw_v G.2.1 v) = kw_v G.2.1 v ∧ fits (tyF k) (kw_v G.2.1 v) = true) (kk : kw_V G md (pc + 3) L S (hp.set a (.inr (ci, fs.set k v))) Q) : kw_V G md pc L (v :: .ref a :: S) hp Q := by
  intro n0 p e s m args below meth c H locs ls hC hn hR hS hl'
  obtain ⟨ref, hw, hs⟩ := hf
  have hts := hC.2.2.2.2.2.2.2.1
  refine va_put (D := G.2.2.1) (ci := ci) (v := kw_v G.2.1 v) (ty := tyF k) hC.1 hC.2.1 hts hcl.2 tyF hty hnm hC.2.2.2.2.2.2.1 hC.2.2.2.2.2.2.2.2.1.1 hR.2.2 (kw_w_D _ _ _) hS a (kw_w_get ho) hcl.1 k hk (hts _ hw) (kw_same hts hs) hfin (hty k hk) hv.1 hv.2 (by rw [List.length_map]; exact hl) d (fun H1 locs1 hP1 hD1 hS1 => ?_)
  refine kw_step kk hC hn hR (by simp) (kw_pos ho) ?_ hS1 hl'
  rw [kw_w_set]
  show va_P _ _ (List.set _ _ (_, .inr (ci, (fs.set k v).map (kw_v G.2.1)))) _
  rw [List.map_set]
  exact hP1
theorem kw_putF {i ci k N a : Nat} {C : String} {T : u_T} {tyF : Nat → FieldType} {fs : List Value} {v : Value} (hcl : kw_cls ci C T N) (hty : ∀ k, k < N → parseFieldDescriptor (T k).2.2.1 = some (tyF k)) (hnm : ∀ a, a < N → ∀ b, b < N → a ≠ b → (T a).2.1 ≠ (T b).2.1) (hk : k < N) (hf : kw_fl md.1.cls i T k) (hfin : (T k).2.2.2 = true) (hin : md.1.name = "<init>") (hdecl : (T k).1 = md.1.cls) (d : decode md.2.1 pc = .ok (.putfield i, 3)) (ho : hp[a]? = some (.inr (ci, fs))) (hl : k < fs.length) (hv : narrow (tyF k) (kw_v G.2.1 v) = kw_v G.2.1 v ∧ fits (tyF k) (kw_v G.2.1 v) = true) (kk : kw_V G md (pc + 3) L S (hp.set a (.inr (ci, fs.set k v))) Q) : kw_V G md pc L (v :: .ref a :: S) hp Q := by
  intro n0 p e s m args below meth c H locs ls hC hn hR hS hl'
  obtain ⟨ref, hw, hs⟩ := hf
  have hts := hC.2.2.2.2.2.2.2.1
  refine va_putF (D := G.2.2.1) (ci := ci) (v := kw_v G.2.1 v) (ty := tyF k) hC.1 hC.2.1 hts hcl.2 tyF hty hnm hC.2.2.2.2.2.2.1 hC.2.2.2.2.2.2.2.2.1.1 hR.2.2 (kw_w_D _ _ _) hS a (kw_w_get ho) hcl.1 k hk (hts _ hw) (kw_same hts hs) hfin (hC.2.2.2.2.2.1.trans hin) hdecl (hty k hk) hv.1 hv.2 (by rw [List.length_map]; exact hl) d (fun H1 locs1 hP1 hD1 hS1 => ?_)
  refine kw_step kk hC hn hR (by simp) (kw_pos ho) ?_ hS1 hl'
  rw [kw_w_set]
  show va_P _ _ (List.set _ _ (_, .inr (ci, (fs.set k v).map (kw_v G.2.1)))) _
  rw [List.map_set]
  exact hP1
/-! arrays: 0 int, 1 long, 2 boolean, 3 turners, 4 kitchens, 5 rows of ints -/
theorem kw_iald {a n : Nat} {f : Nat → Int32} {j : Int32} (d : decode md.2.1 pc = .ok (.iaload, 1)) (ha : hp[a]? = some (.inl (0, n, .inl f))) (hj : vp_in j n) (k : kw_V G md (pc + 1) L (.int (f j.toNatClampNeg) :: S) hp Q) : kw_V G md pc L (.int j :: .ref a :: S) hp Q := by
  intro n0 p e s m args below meth c H locs ls hC hn hR hS hl
  exact va_iald hC.1 hC.2.1 hC.2.2.2.2.2.2.2.2.1.1 hR.2.2 a 0 (kw_w_get ha) rfl hj d (k n0 p e s m args below meth c H locs ls hC hn hR hS hl)
theorem kw_zald {a n : Nat} {f : Nat → Int32} {j : Int32} (d : decode md.2.1 pc = .ok (.baload, 1)) (ha : hp[a]? = some (.inl (2, n, .inl f))) (hj : vp_in j n) (k : kw_V G md (pc + 1) L (.int (f j.toNatClampNeg) :: S) hp Q) : kw_V G md pc L (.int j :: .ref a :: S) hp Q := by
  intro n0 p e s m args below meth c H locs ls hC hn hR hS hl
  exact va_zald hC.1 hC.2.1 hC.2.2.2.2.2.2.2.2.1.1 hR.2.2 a 2 (kw_w_get ha) rfl hj d (k n0 p e s m args below meth c H locs ls hC hn hR hS hl)
theorem kw_lald {a n : Nat} {f : Nat → Int64} {j : Int32} (d : decode md.2.1 pc = .ok (.laload, 1)) (ha : hp[a]? = some (.inl (1, n, .inr (.inl f)))) (hj : vp_in j n) (k : kw_V G md (pc + 1) L (.long (f j.toNatClampNeg) :: S) hp Q) : kw_V G md pc L (.int j :: .ref a :: S) hp Q := by
  intro n0 p e s m args below meth c H locs ls hC hn hR hS hl
  exact va_lald hC.1 hC.2.1 hC.2.2.2.2.2.2.2.2.1.1 hR.2.2 a 1 (kw_w_get ha) rfl hj d (k n0 p e s m args below meth c H locs ls hC hn hR hS hl)
theorem kw_alen {a t : Nat} {x : vp_A} (ht : t < 6) (d : decode md.2.1 pc = .ok (.arraylength, 1)) (ha : hp[a]? = some (.inl (t, x))) (k : kw_V G md (pc + 1) L (.int (nI x.1) :: S) hp Q) : kw_V G md pc L (.ref a :: S) hp Q := by
  intro n0 p e s m args below meth c H locs ls hC hn hR hS hl
  obtain ⟨ty, hty⟩ : ∃ ty, (kw_ty G.2.2.2)[t]? = some (G.2.2.2 t, ty) := by
    rcases (show t = 0 ∨ t = 1 ∨ t = 2 ∨ t = 3 ∨ t = 4 ∨ t = 5 by omega) with rfl | rfl | rfl | rfl | rfl | rfl <;> exact ⟨_, rfl⟩
  exact va_alen (v := nI x.1) hC.1 hC.2.1 hC.2.2.2.2.2.2.2.2.1.1 hR.2.2 a t (kw_w_get ha) hty rfl d (k n0 p e s m args below meth c H locs ls hC hn hR hS hl)
theorem kw_rf (N : Nat) (r : Option Nat) : va_rf (r.map (fun i => N + i)) = kw_v N (va_rf r) := by cases r <;> rfl
theorem kw_aald {a n t : Nat} {f : Nat → Option Nat} {j : Int32} (ht : t = 3 ∨ t = 4 ∨ t = 5) (d : decode md.2.1 pc = .ok (.aaload, 1)) (ha : hp[a]? = some (.inl (t, n, .inr (.inr (.inr (.inr f)))))) (hj : vp_in j n) (k : kw_V G md (pc + 1) L (va_rf (f j.toNatClampNeg) :: S) hp Q) : kw_V G md pc L (.int j :: .ref a :: S) hp Q := by
  intro n0 p e s m args below meth c H locs ls hC hn hR hS hl
  have hk := k n0 p e s m args below meth c H locs ls hC hn hR hS hl
  rw [List.map_cons, ← kw_rf] at hk
  have hK := hC.2.2.2.2.2.2.2.2.1.1
  have hlt : j.toNatClampNeg < n := Nat.not_le.mp fun q => hj (Or.inr q)
  obtain ⟨ty, hty, hrf⟩ : ∃ ty, (kw_ty G.2.2.2)[t]? = some (G.2.2.2 t, ty) ∧ ty.isReference = true := by
    rcases ht with rfl | rfl | rfl <;> exact ⟨_, rfl, rfl⟩
  exact W.aald (v := va_rf ((f j.toNatClampNeg).map (fun i => G.2.1 + i))) (ty := ty) hC.1 hC.2.1 (hR.2.2 a _ (kw_w_get ha)) ((hK.2 t _ hty).1 n (fun q => va_rf ((f q).map (fun i => G.2.1 + i)))) hrf (fun q => by cases q) (by show ¬ (j < 0 ∨ (arrV _ _ _).slots.size ≤ _); rw [arrV_size]; exact hj) (arrV_read (G.2.2.2 t) (fun q => va_rf ((f q).map (fun i => G.2.1 + i))) hlt) rfl rfl d hk
theorem kw_iast {a n : Nat} {f : Nat → Int32} {j x : Int32} (d : decode md.2.1 pc = .ok (.iastore, 1)) (ha : hp[a]? = some (.inl (0, n, .inl f))) (hj : vp_in j n) (k : kw_V G md (pc + 1) L S (hp.set a (.inl (0, n, .inl (upd f j.toNatClampNeg x)))) Q) : kw_V G md pc L (.int x :: .int j :: .ref a :: S) hp Q := by
  intro n0 p e s m args below meth c H locs ls hC hn hR hS hl
  refine va_iast hC.1 hC.2.1 hC.2.2.2.2.2.2.2.2.1.1 hR.2.2 (kw_w_D _ _ _) hS a 0 (kw_w_get ha) rfl hj d (fun H1 locs1 hP1 hD1 hS1 => ?_)
  exact kw_step k hC hn hR (by simp) (kw_pos ha) (by rw [kw_w_set]; exact hP1) hS1 hl
theorem kw_last {a n : Nat} {f : Nat → Int64} {j : Int32} {x : Int64} (d : decode md.2.1 pc = .ok (.lastore, 1)) (ha : hp[a]? = some (.inl (1, n, .inr (.inl f)))) (hj : vp_in j n) (k : kw_V G md (pc + 1) L S (hp.set a (.inl (1, n, .inr (.inl (vp_updL f j.toNatClampNeg x))))) Q) : kw_V G md pc L (.long x :: .int j :: .ref a :: S) hp Q := by
  intro n0 p e s m args below meth c H locs ls hC hn hR hS hl
  refine va_last hC.1 hC.2.1 hC.2.2.2.2.2.2.2.2.1.1 hR.2.2 (kw_w_D _ _ _) hS a 1 (kw_w_get ha) rfl hj d (fun H1 locs1 hP1 hD1 hS1 => ?_)
  exact kw_step k hC hn hR (by simp) (kw_pos ha) (by rw [kw_w_set]; exact hP1) hS1 hl
theorem kw_zast {a n : Nat} {f : Nat → Int32} {j x : Int32} (hx : x = 0 ∨ x = 1) (d : decode md.2.1 pc = .ok (.bastore, 1)) (ha : hp[a]? = some (.inl (2, n, .inl f))) (hj : vp_in j n) (k : kw_V G md (pc + 1) L S (hp.set a (.inl (2, n, .inl (upd f j.toNatClampNeg x)))) Q) : kw_V G md pc L (.int x :: .int j :: .ref a :: S) hp Q := by
  intro n0 p e s m args below meth c H locs ls hC hn hR hS hl
  refine va_zast (x := x) hC.1 hC.2.1 hC.2.2.2.2.2.2.2.2.1.1 hR.2.2 (kw_w_D _ _ _) hS a 2 (kw_w_get ha) rfl hj d (fun H1 locs1 hP1 hD1 hS1 => ?_)
  have e1 : vp_nar .boolean x = x := by rcases hx with rfl | rfl <;> rfl
  rw [e1] at hP1
  exact kw_step k hC hn hR (by simp) (kw_pos ha) (by rw [kw_w_set]; exact hP1) hS1 hl
end KwHeap
end
section
/-! ===== references into arrays, makings, instanceof, arraycopy ===== -/
section KwMore
variable {G : kw_G} {md : kw_M} {pc : Nat} {L : List (Option Value)} {S : List Value} {hp : kw_H} {Q : Option Value → kw_H → Prop}
theorem kw_up (N : Nat) (f : Nat → Option Nat) (k : Nat) (r : Option Nat) : (fun q => (va_up f k r q).map (fun i => N + i)) = va_up (fun q => (f q).map (fun i => N + i)) k (r.map (fun i => N + i)) := by
  funext q
  unfold va_up
  split <;> rfl
theorem kw_aastN {a n t : Nat} {f : Nat → Option Nat} {j : Int32} (ht : t = 3 ∨ t = 4) (d : decode md.2.1 pc = .ok (.aastore, 1)) (ha : hp[a]? = some (.inl (t, n, .inr (.inr (.inr (.inr f)))))) (hj : vp_in j n) (k : kw_V G md (pc + 1) L S (hp.set a (.inl (t, n, .inr (.inr (.inr (.inr (va_up f j.toNatClampNeg none))))))) Q) : kw_V G md pc L (.null :: .int j :: .ref a :: S) hp Q := by
  intro n0 p e s m args below meth c H locs ls hC hn hR hS hl
  obtain ⟨C, hty⟩ : ∃ C, (kw_ty G.2.2.2)[t]? = some (G.2.2.2 t, .object C) := by
    rcases ht with rfl | rfl <;> exact ⟨_, rfl⟩
  refine va_astqN hC.1 hC.2.1 hC.2.2.2.2.2.2.2.2.1.1 hR.2.2 (kw_w_D _ _ _) hS a t (kw_w_get ha) hty hj d (fun H1 locs1 hP1 hD1 hS1 => ?_)
  refine kw_step k hC hn hR (by simp) (kw_pos ha) ?_ hS1 hl
  rw [kw_w_set]
  show va_P _ _ (List.set _ _ (_, .inl (_, _, .inr (.inr (.inr (.inr (fun q => (va_up f j.toNatClampNeg none q).map (fun i => G.2.1 + i)))))))) _
  rw [kw_up]
  exact hP1
/-- a reference to an object of class ci into an array of E -/
theorem kw_aast {a b n t ci i0 N : Nat} {f : Nat → Option Nat} {j : Int32} {C E : String} {T : u_T} {fs : List Value} (ht : ∀ D : Nat → ClassId, (kw_ty D)[t]? = some (D t, .object E)) (hcl : kw_cls ci C T N) (hw : C = E ∨ lw_tbl[i0]? = some (.castable C E)) (d : decode md.2.1 pc = .ok (.aastore, 1)) (ha : hp[a]? = some (.inl (t, n, .inr (.inr (.inr (.inr f)))))) (hb : hp[b]? = some (.inr (ci, fs))) (hj : vp_in j n) (k : kw_V G md (pc + 1) L S (hp.set a (.inl (t, n, .inr (.inr (.inr (.inr (va_up f j.toNatClampNeg (some b)))))))) Q) : kw_V G md pc L (.ref b :: .int j :: .ref a :: S) hp Q := by
  intro n0 p e s m args below meth c H locs ls hC hn hR hS hl
  have hK := hC.2.2.2.2.2.2.2.2.1.1
  have hfin : ∀ (H1 : Heap) (locs1 : List Loc), va_P G.2.2.1 vwCl ((kw_w G.2.1 G.2.2.2 hp).set a (G.2.1 + a, .inl (G.2.2.2 t, n, .inr (.inr (.inr (.inr (va_up (fun q => (f q).map (fun i => G.2.1 + i)) j.toNatClampNeg (some (G.2.1 + b)))))))) ) H1 → va_S (fun q => G.2.1 ≤ q) s.heap H1 locs1 → W p G.1 e (kw_rm md n0) s m args below meth c H1 locs1 (H.size - s.heap.size) (1848 * (H.size - s.heap.size)) (MQ below (kw_Q G Q) args s (3900 - n0) (1848 * (3900 - n0)) (fun q => G.2.1 ≤ q)) (F0 m (pc + 1) ls (S.map (kw_v G.2.1))) := by
    intro H1 locs1 hP1 hS1
    refine kw_step k hC hn hR (by simp) (kw_pos ha) ?_ hS1 hl
    rw [kw_w_set]
    show va_P _ _ (List.set _ _ (_, .inl (_, _, .inr (.inr (.inr (.inr (fun q => (va_up f j.toNatClampNeg (some b) q).map (fun i => G.2.1 + i)))))))) _
    rw [kw_up]
    exact hP1
  rcases hw with rfl | hw
  · exact va_astq (r := (C, T, N)) hC.1 hC.2.1 hK hR.2.2 (kw_w_D _ _ _) hS a t b ci (kw_w_get ha) (ht _) (kw_w_get hb) hcl.1 hj d (fun H1 locs1 hP1 hD1 hS1 => hfin H1 locs1 hP1 hS1)
  · exact va_astqO (r := (C, T, N)) hC.1 hC.2.1 hK hR.2.2 (kw_w_D _ _ _) hS a t b ci (kw_w_get ha) (ht _) (kw_inN i0 hw rfl hC.2.2.2.2.2.2.2.2.1) (kw_w_get hb) hcl.1 hj d (fun H1 locs1 hP1 hD1 hS1 => hfin H1 locs1 hP1 hS1)
theorem kw_push {hp' : kw_H} {pc' : Nat} {S' : List Value} (k : kw_V G md pc' L S' hp' Q) {n0 : Nat} {p : Program} {e : Env} {s : State} {m : MethodId} {args : Array Value} {below : List Frame} {meth : Method} {c : Code} {H H1 : Heap} {locs : List Loc} {ls : Array Slot} {cells slots d : Nat} (hC : kw_C G md n0 p s m args meth c) (hn : n0 ≤ hp.length) (hR : kw_R G hp H) (hS : va_S (fun q => G.2.1 ≤ q) s.heap H locs) (hl : lv_has ls md.2.2.1 (kw_pr G.2.1 0 L)) (hlen : hp'.length = hp.length + d) (hlim : hp.length + d ≤ 3900) (hz : H1.size = H.size + d) (hold : ∀ q : Nat, q < H.size → H1[q]? = H[q]?) (hP1 : va_P G.2.2.1 vwCl (kw_w G.2.1 G.2.2.2 hp') H1) (hc : cells ≤ H.size - s.heap.size + d) (hs : slots ≤ 1848 * (H.size - s.heap.size + d)) :
    W p G.1 e (kw_rm md n0) s m args below meth c H1 locs cells slots (MQ below (kw_Q G Q) args s (3900 - n0) (1848 * (3900 - n0)) (fun q => G.2.1 ≤ q)) (F0 m pc' ls (S'.map (kw_v G.2.1))) := by
  have h1 := hC.2.2.2.2.2.2.2.2.2
  have h2 := hR.1
  have e1 : H1.size - s.heap.size = H.size - s.heap.size + d := by omega
  refine W.widen (k := H1.size - s.heap.size) (n := 1848 * (H1.size - s.heap.size)) (by rw [e1]; exact hc) (by rw [e1]; exact hs) ?_
  exact k n0 p e s m args below meth c H1 locs ls hC (by omega) ⟨by omega, by omega, hP1⟩ ⟨by have := hS.1; omega, fun q g1 g2 => (hold q (Nat.lt_of_lt_of_le g1 hS.1)).trans (hS.2.1 q g1 g2), hS.2.2⟩ hl
theorem kw_room1 {n0 : Nat} {p : Program} {s : State} {m : MethodId} {args : Array Value} {meth : Method} {c : Code} {H : Heap} {d x : Nat} (hC : kw_C G md n0 p s m args meth c) (hn : n0 ≤ hp.length) (hR : kw_R G hp H) (hlim : hp.length + d ≤ 3900) (hx : x ≤ 1848 * d) : (H.size - s.heap.size) + d ≤ 3900 - n0 ∧ 1848 * (H.size - s.heap.size) + x ≤ 1848 * (3900 - n0) := by
  have h1 := hC.2.2.2.2.2.2.2.2.2
  have h2 := hR.1
  omega
/-- new C: its fields at their defaults -/
theorem kw_new {i ci N : Nat} {C : String} {T : u_T} {tyF : Nat → FieldType} {fs : List Value} (hcl : kw_cls ci C T N) (hty : ∀ k, k < N → parseFieldDescriptor (T k).2.2.1 = some (tyF k)) (hN : N ≤ 1848) (hfs : ∀ G : kw_G, ∀ j, j < N → defaultValue (tyF j) = vp_V (fs.map (kw_v G.2.1)) j) (hw1 : Cond.classLink md.1.cls i C ∈ kw_T) (hw2 : Cond.instantiable C N ∈ kw_T) (hw3 : Cond.initialized C ∈ kw_T) (d : decode md.2.1 pc = .ok (.new i, 3)) (hlim : hp.length + 1 ≤ 3900) (k : kw_V G md (pc + 3) L (.ref hp.length :: S) (hp ++ [.inr (ci, fs)]) Q) : kw_V G md pc L S hp Q := by
  intro n0 p e s m args below meth c H locs ls hC hn hR hS hl
  have hts := hC.2.2.2.2.2.2.2.1
  have hK := hC.2.2.2.2.2.2.2.2.1.1
  have hKn := hK.1 ci _ hcl.1
  have hr := kw_room1 (x := N) hC hn hR hlim (by omega)
  refine W.newcK hC.1 hC.2.1 hC.2.2.2.2.2.2.1 (hts _ hw1) (hts _ hw2) (hts _ hw3) rfl d hr.1 hr.2 hKn.2.1 rfl fun H1 kC hkC e1 z1 o1 => ?_
  have hk1 := hR.1
  have hP := hR.2.2
  have hold : ∀ (k : Nat) (x : Nat × va_E), (kw_w G.2.1 G.2.2.2 hp)[k]? = some x → H1[x.1]? = H[x.1]? := fun k x hx => o1 x.1 ((hP k x hx).lt)
  have hP1 : va_P G.2.2.1 vwCl (kw_w G.2.1 G.2.2.2 (hp ++ [.inr (ci, fs)])) H1 := by
    rw [kw_w_push]
    refine (hP.kept hold).app (fun k x hx => ?_)
    have hz : k < 1 := (List.getElem?_eq_some_iff.mp hx).1
    rw [show k = 0 by omega] at hx
    cases hx
    rw [hk1] at e1
    exact ⟨_, hcl.1, (u_born tyF hts hcl.2 hKn hkC e1 hty).to (hfs G)⟩
  have := kw_push (d := 1) k hC hn hR hS hl (by simp) hlim z1 o1 hP1 (cells := H.size - s.heap.size + 1) (slots := 1848 * (H.size - s.heap.size) + N) (e := e) (below := below) (Nat.le_refl _) (by omega)
  rw [List.map_cons] at this
  show W p G.1 e _ s m args below meth c H1 locs _ _ _ (F0 m (pc + 3) ls (.ref H.size :: _))
  rw [hk1]
  rw [hk1] at this
  exact this
theorem kw_newa {t N : Nat} {at0 : ArrayType} {n : Int32} {a0 : vp_A} (ht : ∀ D : Nat → ClassId, (kw_ty D)[t]? = some (D t, newarray.typeOf at0)) (hrf : ∀ (s : State) (cA : ClassId), va_RA s cA (newarray.typeOf at0) = (s.vm.findClass ("[" ++ (newarray.typeOf at0).toString) = some cA)) (ha0 : ∀ (M : Nat) (cA : ClassId), vp_cell cA (kw_a M a0) = arrV cA N (fun _ => defaultValue (newarray.typeOf at0))) (hw : Cond.arrayClass (newarray.typeOf at0) ∈ kw_T) (hn0 : ¬ n < 0) (hN : n.toNatClampNeg = N) (hNb : N ≤ 1848) (hbytes : N * componentBytes (newarray.typeOf at0) ≤ 536870912) (d : decode md.2.1 pc = .ok (.newarray at0, 2)) (hlim : hp.length + 1 ≤ 3900) (k : kw_V G md (pc + 2) L (.ref hp.length :: S) (hp ++ [.inl (t, a0)]) Q) : kw_V G md pc L (.int n :: S) hp Q := by
  intro n0 p e s m args below meth c H locs ls hC hn hR hS hl
  have hts := hC.2.2.2.2.2.2.2.1
  have hK := hC.2.2.2.2.2.2.2.2.1.1
  have hr := kw_room1 (x := N) hC hn hR hlim (by omega)
  refine va_newaK hC.1 hC.2.1 (hts _ hw) rfl d rfl hn0 hN hbytes hr.1 hr.2 rfl fun H1 cA e1 z1 o1 hAr hNm => ?_
  have hcA : G.2.2.2 t = cA := by
    have h1 := (hK.2 t _ (ht _)).2
    rw [hrf] at h1
    exact Option.some.inj (h1.symm.trans hNm)
  have hk1 := hR.1
  have hP := hR.2.2
  have hold : ∀ (k : Nat) (x : Nat × va_E), (kw_w G.2.1 G.2.2.2 hp)[k]? = some x → H1[x.1]? = H[x.1]? := fun k x hx => o1 x.1 ((hP k x hx).lt)
  have hP1 : va_P G.2.2.1 vwCl (kw_w G.2.1 G.2.2.2 (hp ++ [.inl (t, a0)])) H1 := by
    rw [kw_w_push]
    refine (hP.kept hold).app (fun k x hx => ?_)
    have hz : k < 1 := (List.getElem?_eq_some_iff.mp hx).1
    rw [show k = 0 by omega] at hx
    cases hx
    rw [hk1] at e1
    show H1[G.2.1 + hp.length]? = some (vp_cell (G.2.2.2 t) (kw_a G.2.1 a0))
    rw [ha0, hcA]
    exact e1
  have := kw_push (d := 1) k hC hn hR hS hl (by simp) hlim z1 o1 hP1 (cells := H.size - s.heap.size + 1) (slots := 1848 * (H.size - s.heap.size) + N) (e := e) (below := below) (Nat.le_refl _) (by omega)
  rw [List.map_cons] at this
  show W p G.1 e _ s m args below meth c H1 locs _ _ _ (F0 m (pc + 2) ls (.ref H.size :: _))
  rw [hk1]
  rw [hk1] at this
  exact this
theorem kw_anew {t N i i0 : Nat} {E : String} {n : Int32} (ht : ∀ D : Nat → ClassId, (kw_ty D)[t]? = some (D t, .object E)) (hw : Cond.classLink md.1.cls i E ∈ kw_T) (hov : lw_tbl[i0]? = some (.arrayOver (.object E))) (hn0 : ¬ n < 0) (hN : n.toNatClampNeg = N) (hNb : N ≤ 1848) (d : decode md.2.1 pc = .ok (.anewarray i, 3)) (hlim : hp.length + 1 ≤ 3900) (k : kw_V G md (pc + 3) L (.ref hp.length :: S) (hp ++ [.inl (t, N, .inr (.inr (.inr (.inr (fun _ => none)))))]) Q) : kw_V G md pc L (.int n :: S) hp Q := by
  intro n0 p e s m args below meth c H locs ls hC hn hR hS hl
  have hts := hC.2.2.2.2.2.2.2.1
  have hK := hC.2.2.2.2.2.2.2.2.1.1
  have hr := kw_room1 (x := N) hC hn hR hlim (by omega)
  subst hN
  refine W.anew hC.1 hC.2.1 hC.2.2.2.2.2.2.1 (hts _ hw) (va_AO.use (kw_inN (G := G) i0 hov rfl hC.2.2.2.2.2.2.2.2.1)) rfl d rfl hn0 (by omega) hr.1 hr.2 fun cA kA comp f1 f2 f3 f4 => ?_
  generalize hH1 : H.push ({ cls := cA, slots := Array.replicate n.toNatClampNeg .null, vm := .none } : Cell) = H1
  have z1 : H1.size = H.size + 1 := by rw [← hH1, Array.size_push]
  have e1 : H1[H.size]? = some (arrV cA n.toNatClampNeg (fun _ => .null)) := by rw [← hH1, Array.getElem?_push_size, ← arrV_new]
  have o1 : ∀ q : Nat, q < H.size → H1[q]? = H[q]? := fun q hq => by rw [← hH1, Array.getElem?_push, if_neg (Nat.ne_of_lt hq)]
  have hcA : G.2.2.2 t = cA := by
    obtain ⟨kA', comp', -, -, -, h4⟩ := (hK.2 t _ (ht _)).2
    exact Option.some.inj (h4.symm.trans f1)
  have hk1 := hR.1
  have hP := hR.2.2
  have hold : ∀ (k : Nat) (x : Nat × va_E), (kw_w G.2.1 G.2.2.2 hp)[k]? = some x → H1[x.1]? = H[x.1]? := fun k x hx => o1 x.1 ((hP k x hx).lt)
  have hP1 : va_P G.2.2.1 vwCl (kw_w G.2.1 G.2.2.2 (hp ++ [.inl (t, n.toNatClampNeg, .inr (.inr (.inr (.inr (fun _ => none)))))])) H1 := by
    rw [kw_w_push]
    refine (hP.kept hold).app (fun k x hx => ?_)
    have hz : k < 1 := (List.getElem?_eq_some_iff.mp hx).1
    rw [show k = 0 by omega] at hx
    cases hx
    rw [hk1] at e1
    show H1[G.2.1 + hp.length]? = some (vp_cell (G.2.2.2 t) _)
    rw [hcA]
    exact e1
  have := kw_push (d := 1) k hC hn hR hS hl (by simp) hlim z1 o1 hP1 (cells := H.size - s.heap.size + 1) (slots := 1848 * (H.size - s.heap.size) + n.toNatClampNeg) (e := e) (below := below) (Nat.le_refl _) (by omega)
  rw [List.map_cons] at this
  show W p G.1 e _ s m args below meth c H1 locs _ _ _ (F0 m (pc + 3) ls (.ref H.size :: _))
  rw [hk1]
  rw [hk1] at this
  exact this
/-- an object's class, as the tables have it -/
theorem kw_recv {s : State} {H : Heap} {a ci N : Nat} {C : String} {T : u_T} {fs : List Value} (hZ : kw_Z G s) (hR : kw_R G hp H) (hcl : kw_cls ci C T N) (ho : hp[a]? = some (.inr (ci, fs))) : ∃ cell : Cell, H[G.2.1 + a]? = some cell ∧ cell.vm.isStatics = false ∧ s.vm.findClass C = some cell.cls := va_recv hZ.1 hR.2.2 hcl.1 (kw_w_get ho)
theorem kw_instY {i i0 ci N a : Nat} {C nm : String} {T : u_T} {fs : List Value} (hcl : kw_cls ci C T N) (hw : Cond.classLink md.1.cls i nm ∈ kw_T) (hc : lw_tbl[i0]? = some (.castable C nm)) (d : decode md.2.1 pc = .ok (.instanceof i, 3)) (ho : hp[a]? = some (.inr (ci, fs))) (k : kw_V G md (pc + 3) L (.int 1 :: S) hp Q) : kw_V G md pc L (.ref a :: S) hp Q := by
  intro n0 p e s m args below meth c H locs ls hC hn hR hS hl
  exact va_instY (C := C) hC.1 hC.2.1 hC.2.2.2.2.2.2.1 (hC.2.2.2.2.2.2.2.1 _ hw) (kw_inN (G := G) i0 hc rfl hC.2.2.2.2.2.2.2.2.1) (kw_recv hC.2.2.2.2.2.2.2.2.1 hR hcl ho) d (k n0 p e s m args below meth c H locs ls hC hn hR hS hl)
theorem kw_instS {i ci N a : Nat} {C : String} {T : u_T} {fs : List Value} (hcl : kw_cls ci C T N) (hw : Cond.classLink md.1.cls i C ∈ kw_T) (d : decode md.2.1 pc = .ok (.instanceof i, 3)) (ho : hp[a]? = some (.inr (ci, fs))) (k : kw_V G md (pc + 3) L (.int 1 :: S) hp Q) : kw_V G md pc L (.ref a :: S) hp Q := by
  intro n0 p e s m args below meth c H locs ls hC hn hR hS hl
  exact va_instS (nm := C) hC.1 hC.2.1 hC.2.2.2.2.2.2.1 (hC.2.2.2.2.2.2.2.1 _ hw) (hC.2.2.2.2.2.2.2.2.1.1.1 ci _ hcl.1).2 (kw_recv hC.2.2.2.2.2.2.2.2.1 hR hcl ho) d (k n0 p e s m args below meth c H locs ls hC hn hR hS hl)
theorem kw_instNo {i ci N a : Nat} {C nm : String} {T : u_T} {fs : List Value} (hcl : kw_cls ci C T N) (hw : Cond.classLink md.1.cls i nm ∈ kw_T) (hc : (C, nm) ∈ kw_Nc) (d : decode md.2.1 pc = .ok (.instanceof i, 3)) (ho : hp[a]? = some (.inr (ci, fs))) (k : kw_V G md (pc + 3) L (.int 0 :: S) hp Q) : kw_V G md pc L (.ref a :: S) hp Q := by
  intro n0 p e s m args below meth c H locs ls hC hn hR hS hl
  exact va_instNo (C := C) hC.1 hC.2.1 hC.2.2.2.2.2.2.1 (hC.2.2.2.2.2.2.2.1 _ hw) (hC.2.2.2.2.2.2.2.2.1.2.2 _ hc) (kw_recv hC.2.2.2.2.2.2.2.2.1 hR hcl ho) d (k n0 p e s m args below meth c H locs ls hC hn hR hS hl)
end KwMore
end
section
/-! ===== calls, and a method's contract out of its walk ===== -/
section KwCalls
variable {G : kw_G} {md : kw_M} {pc : Nat} {L : List (Option Value)} {S : List Value} {hp : kw_H} {Q : Option Value → kw_H → Prop}
theorem kw_blind (As : List Value) : FrameBlind (va_Pc As (fun U => kw_Z G U ∧ kw_R G hp U.heap)) := by
  intro a U g mk h
  exact ⟨h.1, kw_Z_same (s := U) (U := U.calling g mk a) rfl h.2.1, h.2.2⟩
theorem kw_goodIn {md' : kw_M} (h : Cond.code md'.1 md'.2.1 md'.2.2.1 md'.2.2.2.1 ∈ kw_T) : GoodIn kw_T (kw_ws md') := by
  intro w hw
  have hw' : w ∈ kw_T := by
    rcases List.mem_cons.mp hw with rfl | h1
    · exact h
    · exact h1
  exact ⟨hw', good_of_word (List.mem_filter.mp hw').2⟩
/-- what a call of md' in md asks of the tables and of the room; n: how many parameters -/
def kw_cb (md md' : kw_M) (n : Nat) : Prop := Cond.code md'.1 md'.2.1 md'.2.2.1 md'.2.2.2.1 ∈ kw_T ∧ Cond.initialized md'.1.cls ∈ kw_T ∧ (md'.1.cls ≠ "java/lang/invoke/MethodHandle" ∧ md'.1.cls ≠ "java/lang/invoke/VarHandle" ∧ (parseMethodDescriptor md'.1.desc).map (fun d => d.parameters.length) = some n) ∧ md'.2.2.2.2.1 + 1 ≤ md.2.2.2.2.1 ∧ 8 + (md'.2.2.1 + 11) + md'.2.2.2.2.2 ≤ md.2.2.2.2.2
section KwRun
variable {n0 : Nat} {p : Program} {e : Env} {s : State} {m : MethodId} {args : Array Value} {below : List Frame} {meth : Method} {c : Code} {H : Heap} {locs : List Loc} {ls : Array Slot}
theorem kw_fix (hC : kw_C G md n0 p s m args meth c) : CallFix p m c md.2.1 md.2.2.1 s args kw_T md.1.cls := ⟨hC.1, hC.2.1, hC.2.2.1, hC.2.2.2.2.2.2.1, hC.2.2.2.2.2.2.2.1⟩
theorem kw_back {md' : kw_M} {n i : Nat} (hC : kw_C G md n0 p s m args meth c) (hb : kw_cb md md' n) (hl : (Cond.methodLink md.1.cls i md'.1).before args s = true) : CallB (kw_rm md n0) s args md.1.cls i md'.1 md'.2.1 md'.2.2.1 md'.2.2.2.1 (kw_ws md') (kw_rm md' hp.length) (3900 - hp.length) (1848 * (3900 - hp.length)) n :=
  callB_of n hC.2.2.2.2.2.2.2.1 (kw_goodIn hb.1) rfl rfl rfl (hC.2.2.2.2.2.2.2.1 _ hb.2.1) hl hb.2.2.1 ⟨hb.2.2.2.1, hb.2.2.2.2⟩
theorem kw_fitR (hC : kw_C G md n0 p s m args meth c) (hn : n0 ≤ hp.length) (hR : kw_R G hp H) : (H.size - s.heap.size) + (3900 - hp.length) ≤ (kw_rm md n0).cells ∧ 1848 * (H.size - s.heap.size) + 1848 * (3900 - hp.length) ≤ (kw_rm md n0).slots := by
  have h1 := hC.2.2.2.2.2.2.2.2.2
  have h2 := hR.1
  have h3 := hR.2.1
  show _ ≤ 3900 - n0 ∧ _ ≤ 1848 * (3900 - n0)
  omega
theorem kw_pre (hC : kw_C G md n0 p s m args meth c) (hR : kw_R G hp H) (As : List Value) : PreS s H (va_Pc (As.map (kw_v G.2.1)) (fun U => kw_Z G U ∧ kw_R G hp U.heap)) (As.map (kw_v G.2.1)) :=
  ⟨kw_blind _, fun U hU hW => ⟨rfl, kw_Z_moved hW hC.2.2.2.2.2.2.2.2.1, by rw [hU]; exact hR⟩⟩
theorem kw_preV {a ci N : Nat} {C : String} {T : u_T} {fs : List Value} (hC : kw_C G md n0 p s m args meth c) (hR : kw_R G hp H) (hcl : kw_cls ci C T N) (ho : hp[a]? = some (.inr (ci, fs))) (As : List Value) : PreV s H C (G.2.1 + a) (va_Pc ((.ref a :: As).map (kw_v G.2.1)) (fun U => kw_Z G U ∧ kw_R G hp U.heap)) (As.map (kw_v G.2.1)) :=
  ⟨kw_blind _, kw_recv hC.2.2.2.2.2.2.2.2.1 hR hcl ho, fun U hU hW => ⟨rfl, kw_Z_moved hW hC.2.2.2.2.2.2.2.2.1, by rw [hU]; exact hR⟩⟩
/-- behind a call -/
theorem kw_after {Q' : Option Value → kw_H → Prop} {a : Array Value} {st0 : List Value} (hC : kw_C G md n0 p s m args meth c) (hn : n0 ≤ hp.length) (hR : kw_R G hp H) (hS : va_S (fun q => G.2.1 ≤ q) s.heap H locs) (hl : lv_has ls md.2.2.1 (kw_pr G.2.1 0 L))
    (hr : va_Run p G.1 e (kw_rm md n0) s m args below meth c H locs (H.size - s.heap.size) (1848 * (H.size - s.heap.size)) (3900 - hp.length) (1848 * (3900 - hp.length)) (F0 m pc ls st0) (S.map (kw_v G.2.1)) (kw_Q G Q' a) (fun q => G.2.1 ≤ q))
    (k : ∀ r hp', Q' r hp' → kw_V G md (pc + 3) L (r.toList ++ S) hp' Q) :
    W p G.1 e (kw_rm md n0) s m args below meth c H locs (H.size - s.heap.size) (1848 * (H.size - s.heap.size)) (MQ below (kw_Q G Q) args s (3900 - n0) (1848 * (3900 - n0)) (fun q => G.2.1 ≤ q)) (F0 m pc ls st0) := by
  refine kw_know fun hsp hsz hsum => ?_
  intro T hT X
  obtain ⟨v, st₀, t, T', L1, h0, X', hL, e1, e2, hq, st⟩ := hr T hT X
  obtain ⟨r, hp', ho, hQ, hR', hF, hSP, hsum2⟩ := hq
  cases ho
  rw [h0] at hSP hsum2
  have g1 := hC.2.2.2.2.2.2.2.2.2
  have g2 := hR.1
  have g3 := hR'.1
  have g4 : H.size ≤ t.heap.size := by rw [← h0]; exact hF.1
  have hS' : va_S (fun q => G.2.1 ≤ q) s.heap t.heap (locs ++ L1) := ⟨Nat.le_trans hS.1 g4, fun q h1 h2 => by
    have h3 := hF.2 q (by rw [h0]; exact Nat.lt_of_lt_of_le h1 hS.1) h2
    rw [h3, h0]
    exact hS.2.1 q h1 h2, fun q hq => by
      rcases List.mem_append.mp hq with h | h
      · exact hS.2.2 q h
      · exact hL q h⟩
  have kk := k r hp' hQ n0 p e s m args below meth c t.heap (locs ++ L1) ls hC (by omega) hR' hS' hl
  have hsum3 : ((kw_sz t.heap).drop s.heap.size).sum ≤ 1848 * (t.heap.size - s.heap.size) := by
    have := kw_sum_join (H0 := s.heap) (H1 := H) (H2 := t.heap) hS.1 hSP hsum hsum2
    omega
  have kk2 := kw_tight (cells := H.size - s.heap.size + (3900 - hp.length)) (slots := 1848 * (H.size - s.heap.size) + 1848 * (3900 - hp.length)) (cells' := t.heap.size - s.heap.size) (slots' := 1848 * (t.heap.size - s.heap.size)) (by omega) hsum3 kk
  obtain ⟨t2, a1, b1⟩ := kk2 T' e1 X'
  refine ⟨t2, st t2 ?_, b1⟩
  have es : (r.map (kw_v G.2.1)).toList ++ S.map (kw_v G.2.1) = (r.toList ++ S).map (kw_v G.2.1) := by cases r <;> simp
  show Steps p.tables e below (T'.setTop { method := m, pc := pc + 3, locals := ls, stack := (r.map (kw_v G.2.1)).toList ++ S.map (kw_v G.2.1), locked := none }) t2
  rw [es]
  exact a1
theorem kw_stS (As : List Value) : (As.reverse ++ S).map (kw_v G.2.1) = (As.map (kw_v G.2.1)).reverse ++ S.map (kw_v G.2.1) := by simp
theorem kw_stV (a : Nat) (As : List Value) : (As.reverse ++ .ref a :: S).map (kw_v G.2.1) = (As.map (kw_v G.2.1)).reverse ++ .ref (G.2.1 + a) :: S.map (kw_v G.2.1) := by simp [kw_v]
theorem kw_roomS (h : (S.map fun v => v.category).sum ≤ 8) : ((S.map (kw_v G.2.1)).map fun v => v.category).sum ≤ 8 := by
  rw [List.map_map]
  have e1 : (fun v => Value.category v) ∘ kw_v G.2.1 = (fun v => Value.category v) := funext fun v => kw_v_cat _ v
  rw [e1]
  exact h
end KwRun
/-- the rows below want of the stack: its rest is S, the arguments above it, in X -/
theorem kw_callS {i n : Nat} {md' : kw_M} {As X : List Value} {Q' : Option Value → kw_H → Prop} (hb : kw_cb md md' n) (hl : Cond.methodLink md.1.cls i md'.1 ∈ kw_T) (hst : Cond.static md'.1 ∈ kw_T) (hn' : As.length = n) (hX : X = As.reverse ++ S) (hr : (S.map fun v => v.category).sum ≤ 8) (d : decode md.2.1 pc = .ok (.invokestatic i, 3)) (M : kw_Met G md' As hp Q') (k : ∀ r hp', Q' r hp' → kw_V G md (pc + 3) L (r.toList ++ S) hp' Q) : kw_V G md pc L X hp Q := by
  intro n0 p e s m args below meth c H locs ls hC hn hR hS hl'
  rw [hX, kw_stS]
  have hts := hC.2.2.2.2.2.2.2.1
  exact kw_after hC hn hR hS hl' (va_runS (kw_fix hC) M ⟨kw_back hC hb (hts _ hl), hts _ hst⟩ (kw_pre hC hR As) rfl (by rw [List.length_map]; exact hn') hl'.1 rfl (lv_room (kw_roomS hr)) d (kw_fitR hC hn hR)) k
theorem kw_callSN {i n i0 : Nat} {host : String} {md' : kw_M} {As X : List Value} {Q' : Option Value → kw_H → Prop} (hb : kw_cb md md' n) (hl : lw_tbl[i0]? = some (.methodLinkNest md.1.cls i md'.1 host)) (hst : Cond.static md'.1 ∈ kw_T) (hn' : As.length = n) (hX : X = As.reverse ++ S) (hr : (S.map fun v => v.category).sum ≤ 8) (d : decode md.2.1 pc = .ok (.invokestatic i, 3)) (M : kw_Met G md' As hp Q') (k : ∀ r hp', Q' r hp' → kw_V G md (pc + 3) L (r.toList ++ S) hp' Q) : kw_V G md pc L X hp Q := by
  intro n0 p e s m args below meth c H locs ls hC hn hR hS hl'
  rw [hX, kw_stS]
  have hts := hC.2.2.2.2.2.2.2.1
  exact kw_after hC hn hR hS hl' (va_runSN (host := host) (kw_fix hC) M ⟨va_cnB n hts (kw_goodIn hb.1) rfl rfl rfl (kw_inN i0 hl rfl hC.2.2.2.2.2.2.2.2.1) (hts _ hb.2.1) hb.2.2.1 ⟨hb.2.2.2.1, hb.2.2.2.2⟩, hts _ hst, trivial⟩ (kw_pre hC hR As) rfl (by rw [List.length_map]; exact hn') hl'.1 rfl (lv_room (kw_roomS hr)) d (kw_fitR hC hn hR)) k
theorem kw_callV {i n a ci N : Nat} {C : String} {T : u_T} {fs : List Value} {md' : kw_M} {As X : List Value} {Q' : Option Value → kw_H → Prop} (hcl : kw_cls ci C T N) (hb : kw_cb md md' n) (hl : Cond.methodLink md.1.cls i md'.1 ∈ kw_T) (hin : Cond.instanceMethod md'.1 ∈ kw_T) (hse : Cond.selects C md'.1 md'.1 ∈ kw_T) (hn' : As.length = n) (hX : X = As.reverse ++ .ref a :: S) (hr : (S.map fun v => v.category).sum ≤ 8) (d : decode md.2.1 pc = .ok (.invokevirtual i, 3)) (ho : hp[a]? = some (.inr (ci, fs))) (M : kw_Met G md' (.ref a :: As) hp Q') (k : ∀ r hp', Q' r hp' → kw_V G md (pc + 3) L (r.toList ++ S) hp' Q) : kw_V G md pc L X hp Q := by
  intro n0 p e s m args below meth c H locs ls hC hn hR hS hl'
  rw [hX, kw_stV]
  have hts := hC.2.2.2.2.2.2.2.1
  exact kw_after hC hn hR hS hl' (va_runV (C := C) (kw_fix hC) M ⟨kw_back hC hb (hts _ hl), hts _ hin, hts _ hse⟩ (kw_preV hC hR hcl ho As) rfl (by rw [List.length_map]; exact hn') hl'.1 rfl (lv_room (kw_roomS hr)) d (kw_fitR hC hn hR)) k
/-- a call whose named method x is another one's: declared there (declares, or code of its own) -/
theorem kw_callU {i n a ci N : Nat} {C owner : String} {x : MethodName} {T : u_T} {fs : List Value} {md' : kw_M} {As X : List Value} {Q' : Option Value → kw_H → Prop} (hcl : kw_cls ci C T N) (hb : kw_cb md md' n) (hl : Cond.methodLink md.1.cls i x ∈ kw_T) (hsm : Cond.sameMethod x.cls owner x.name x.desc ∈ kw_T) (hdc : (∃ i0 : Nat, lw_tbl[i0]? = some (Cond.declares ⟨owner, x.name, x.desc⟩)) ∨ (Cond.instanceMethod ⟨owner, x.name, x.desc⟩ ∈ kw_T ∧ ∃ b0 m0 r0, Cond.code ⟨owner, x.name, x.desc⟩ b0 m0 r0 ∈ kw_T)) (hd : owner ≠ "java/lang/invoke/MethodHandle" ∧ owner ≠ "java/lang/invoke/VarHandle" ∧ (parseMethodDescriptor x.desc).map (fun d => d.parameters.length) = some n) (hin : Cond.instanceMethod md'.1 ∈ kw_T) (hse : Cond.selects C x md'.1 ∈ kw_T) (hn' : As.length = n) (hX : X = As.reverse ++ .ref a :: S) (hr : (S.map fun v => v.category).sum ≤ 8) (d : decode md.2.1 pc = .ok (.invokevirtual i, 3)) (ho : hp[a]? = some (.inr (ci, fs))) (M : kw_Met G md' (.ref a :: As) hp Q') (k : ∀ r hp', Q' r hp' → kw_V G md (pc + 3) L (r.toList ++ S) hp' Q) : kw_V G md pc L X hp Q := by
  intro n0 p e s m args below meth c H locs ls hC hn hR hS hl'
  rw [hX, kw_stV]
  have hts := hC.2.2.2.2.2.2.2.1
  have hdecl : va_Decl s ⟨owner, x.name, x.desc⟩ := by
    rcases hdc with ⟨i0, h0⟩ | ⟨h1, b0, m0, r0, h2⟩
    · exact va_Decl.abs (kw_inN (G := G) i0 h0 rfl hC.2.2.2.2.2.2.2.2.1)
    · exact va_Decl.of (hts _ h1) (hts _ h2)
  have hlen : ∀ sig, parseMethodDescriptor x.desc = some sig → n = sig.parameters.length := fun sig h => by
    have h2 := hd.2.2
    rw [h] at h2
    exact (Option.some.inj h2).symm
  exact kw_after hC hn hR hS hl' (va_runU (C := C) (owner := owner) (kw_fix hC) M ⟨⟨rfl, rfl, hb.2.2.2.1, hb.2.2.2.2, pay_in hts (kw_goodIn hb.1), List.mem_cons_self⟩, hts _ hb.1, hts _ hb.2.1, ⟨hd.1, hd.2.1⟩, hlen, hts _ hl, hts _ hsm, hdecl, hts _ hse, hts _ hin⟩ (kw_preV hC hR hcl ho As) rfl (by rw [List.length_map]; exact hn') hl'.1 rfl (lv_room (kw_roomS hr)) d (kw_fitR hC hn hR)) k
theorem kw_callI {i n a : Nat} {md' : kw_M} {As X : List Value} {Q' : Option Value → kw_H → Prop} (hb : kw_cb md md' n) (hrt : md'.2.2.2.1 = none) (hi : md'.1.name = "<init>") (hl : Cond.methodLink md.1.cls i md'.1 ∈ kw_T) (hin : Cond.instanceMethod md'.1 ∈ kw_T) (hn' : As.length = n) (hX : X = As.reverse ++ .ref a :: S) (hr : (S.map fun v => v.category).sum ≤ 8) (d : decode md.2.1 pc = .ok (.invokespecial i, 3)) (M : kw_Met G md' (.ref a :: As) hp Q') (k : ∀ r hp', Q' r hp' → kw_V G md (pc + 3) L (r.toList ++ S) hp' Q) : kw_V G md pc L X hp Q := by
  intro n0 p e s m args below meth c H locs ls hC hn hR hS hl'
  rw [hX, kw_stV]
  have hts := hC.2.2.2.2.2.2.2.1
  have hB := kw_back (hp := hp) hC hb (hts _ hl)
  rw [hrt] at hB
  exact kw_after hC hn hR hS hl' (va_runI (kw_fix hC) M ⟨hB, hi, hts _ hin⟩ (kw_pre hC hR (.ref a :: As)) rfl (by rw [List.length_map]; exact hn') hl'.1 rfl (lv_room (kw_roomS hr)) d (kw_fitR hC hn hR)) k
theorem kw_callIN {i n a i0 : Nat} {host : String} {md' : kw_M} {As X : List Value} {Q' : Option Value → kw_H → Prop} (hb : kw_cb md md' n) (hrt : md'.2.2.2.1 = none) (hi : md'.1.name = "<init>") (hl : lw_tbl[i0]? = some (.methodLinkNest md.1.cls i md'.1 host)) (hin : Cond.instanceMethod md'.1 ∈ kw_T) (hn' : As.length = n) (hX : X = As.reverse ++ .ref a :: S) (hr : (S.map fun v => v.category).sum ≤ 8) (d : decode md.2.1 pc = .ok (.invokespecial i, 3)) (M : kw_Met G md' (.ref a :: As) hp Q') (k : ∀ r hp', Q' r hp' → kw_V G md (pc + 3) L (r.toList ++ S) hp' Q) : kw_V G md pc L X hp Q := by
  intro n0 p e s m args below meth c H locs ls hC hn hR hS hl'
  rw [hX, kw_stV]
  have hts := hC.2.2.2.2.2.2.2.1
  have hB := va_cnB (R := kw_rm md n0) (rm := kw_rm md' hp.length) (host := host) n hts (kw_goodIn hb.1) rfl rfl rfl (kw_inN i0 hl rfl hC.2.2.2.2.2.2.2.2.1) (hts _ hb.2.1) hb.2.2.1 ⟨hb.2.2.2.1, hb.2.2.2.2⟩
  rw [hrt] at hB
  exact kw_after hC hn hR hS hl' (va_runIN (host := host) (kw_fix hC) M ⟨hB, hi, hts _ hin⟩ (kw_pre hC hR (.ref a :: As)) rfl (by rw [List.length_map]; exact hn') hl'.1 rfl (lv_room (kw_roomS hr)) d (kw_fitR hC hn hR)) k
theorem kw_callSU {i n a ci N : Nat} {C : String} {T : u_T} {fs : List Value} {md' : kw_M} {As X : List Value} {Q' : Option Value → kw_H → Prop} (hcl : kw_cls ci C T N) (hb : kw_cb md md' n) (hl : Cond.methodLink md.1.cls i md'.1 ∈ kw_T) (hsm : Cond.sameMethod md'.1.cls md'.1.cls md'.1.name md'.1.desc ∈ kw_T) (hsu : Cond.superclass md.1.cls md'.1.cls ∈ kw_T) (hin : Cond.instanceMethod md'.1 ∈ kw_T) (hno : md'.1.name ≠ "<init>") (hn' : As.length = n) (hX : X = As.reverse ++ .ref a :: S) (hr : (S.map fun v => v.category).sum ≤ 8) (d : decode md.2.1 pc = .ok (.invokespecial i, 3)) (ho : hp[a]? = some (.inr (ci, fs))) (M : kw_Met G md' (.ref a :: As) hp Q') (k : ∀ r hp', Q' r hp' → kw_V G md (pc + 3) L (r.toList ++ S) hp' Q) : kw_V G md pc L X hp Q := by
  intro n0 p e s m args below meth c H locs ls hC hn hR hS hl'
  rw [hX, kw_stV]
  have hts := hC.2.2.2.2.2.2.2.1
  have hlen : ∀ sig, parseMethodDescriptor md'.1.desc = some sig → n = sig.parameters.length := fun sig h => by
    have h2 := hb.2.2.1.2.2
    rw [h] at h2
    exact (Option.some.inj h2).symm
  exact kw_after hC hn hR hS hl' (va_runSU (C := C) ((hC.2.2.2.2.2.2.2.2.1.1.1 ci _ hcl.1).2) (kw_fix hC) M ⟨⟨rfl, rfl, hb.2.2.2.1, hb.2.2.2.2, pay_in hts (kw_goodIn hb.1), List.mem_cons_self⟩, hts _ hl, hts _ hsm, hts _ hsu, hts _ hin, hts _ hb.2.1, hts _ hb.1, hno, hlen⟩ (kw_preV hC hR hcl ho As) rfl (by rw [List.length_map]; exact hn') hl'.1 rfl (lv_room (kw_roomS hr)) d (kw_fitR hC hn hR)) k
/-- Object's own constructor -/
theorem kw_obj {i a : Nat} (hl : Cond.methodLink md.1.cls i Lib.objectInit ∈ kw_T) (hin : Cond.instanceMethod Lib.objectInit ∈ kw_T) (hc : Cond.code Lib.objectInit ⟨#[0xb1]⟩ 1 none ∈ kw_T) (hf : 1 ≤ md.2.2.2.2.1) (hlo : 20 ≤ md.2.2.2.2.2) (hr : (S.map fun v => v.category).sum ≤ 8) (d : decode md.2.1 pc = .ok (.invokespecial i, 3)) (k : kw_V G md (pc + 3) L S hp Q) : kw_V G md pc L (.ref a :: S) hp Q := by
  intro n0 p e s m args below meth c H locs ls hC hn hR hS hl'
  have hts := hC.2.2.2.2.2.2.2.1
  refine W.objInit (rest := S.map (kw_v G.2.1)) hC.1 hC.2.1 hC.2.2.2.2.2.2.1 (hts _ hl) (hts _ hin) (hts _ hc) rfl (by rw [hC.2.2.1]; exact hl'.1) rfl d hf ?_ (k n0 p e s m args below meth c H locs ls hC hn hR hS hl')
  have h1 := lv_room (m := m) (pc := pc) (ls := ls) (rest := .ref (G.2.1 + a) :: S.map (kw_v G.2.1)) (kw_roomS (G := G) hr)
  show 2 * (F0 m pc ls (.ref (G.2.1 + a) :: S.map (kw_v G.2.1))).monitorRoom + ((S.map (kw_v G.2.1)).map fun v => v.category).sum + 12 ≤ md.2.2.2.2.2
  omega
/-- the locals at a method's entry -/
def kw_ar : List Value → List (Option Value)
  | [] => []
  | v :: l => if v.category = 2 then some v :: none :: kw_ar l else some v :: kw_ar l
theorem kw_ar_args (N : Nat) : ∀ (i : Nat) (As : List Value) (r : Nat), kw_pr N i (kw_ar As ++ List.replicate r none) = lv_args i (As.map (kw_v N))
  | i, [], r => by
    have h : ∀ (r i : Nat), kw_pr N i (List.replicate r none) = [] := by
      intro r
      induction r with
      | zero => intro i; rfl
      | succ r ih => intro i; exact ih (i + 1)
    exact h r i
  | i, v :: l, r => by
    unfold kw_ar
    by_cases h : v.category = 2
    · rw [if_pos h]
      show (i, kw_v N v) :: kw_pr N (i + 1 + 1) (kw_ar l ++ List.replicate r none) = _
      rw [kw_ar_args N (i + 1 + 1) l r]
      simp [lv_args, kw_v_cat, h]
    · rw [if_neg h]
      show (i, kw_v N v) :: kw_pr N (i + 1) (kw_ar l ++ List.replicate r none) = _
      rw [kw_ar_args N (i + 1) l r]
      have h1 : v.category = 1 := (lv_cat v).resolve_right h
      simp [lv_args, kw_v_cat, h1]
theorem kw_met {As : List Value} {r : Nat} (hpl : plainName md.1.cls = true) (hlen : (lg_sl (As.map (kw_v G.2.1))).length ≤ md.2.2.1) (hL : kw_ar As ++ List.replicate r none = L) (k : kw_V G md 0 L [] hp Q) : kw_Met G md As hp Q := by
  refine Met.ofW (cc := md.2.1) (maxL := md.2.2.1) (ret := md.2.2.2.1) hpl rfl ?_
  intro p e s m args below meth c s₁ B hml hv
  obtain ⟨rfl, hZ, hR⟩ := hv
  have hts := atoms_spec (ws := kw_ws md) B.pre
  have hown : s.vm.findClass md.1.cls = some m.cls := findClass_of_methodNamed B.named
  have hnm : meth.name = md.1.name := (name_of_methodNamed B.named B.method).1
  have hl := lv_entry (As.map (kw_v G.2.1)) (n := md.2.2.1) hlen
  rw [lg_entry_eq]
  generalize (lg_sl (As.map (kw_v G.2.1)) ++ List.replicate (md.2.2.1 - (lg_sl (As.map (kw_v G.2.1))).length) Slot.unset).toArray = ls at hl ⊢
  have hl' : lv_has ls md.2.2.1 (kw_pr G.2.1 0 L) := by
    rw [← hL, kw_ar_args]
    exact hl
  have hC : kw_C G md hp.length p s m ((As.map (kw_v G.2.1)).toArray) meth c := ⟨B.exec, B.bytes, hml, B.returns, B.notSynchronized, hnm, hown, fun w hw => hts w (List.mem_cons_of_mem _ hw), hZ, hR.1⟩
  have := k hp.length p e s m _ below meth c s.heap [] ls hC (Nat.le_refl _) hR va_S.rf hl'
  rw [Nat.sub_self] at this
  exact this
end KwCalls
end
section
/-! ===== System.arraycopy, new int[n][m] ===== -/
section KwCopy
variable {G : kw_G} {md : kw_M} {pc : Nat} {L : List (Option Value)} {S : List Value} {hp : kw_H} {Q : Option Value → kw_H → Prop}
theorem kw_copyi {i a b n1 n2 : Nat} {f g : Nat → Int32} {sp dp n : Int32} (hl : Cond.methodLink md.1.cls i arraycopyName ∈ kw_T) (hnat : Cond.native arraycopyName ∈ kw_T) (hst : Cond.static arraycopyName ∈ kw_T) (hini : Cond.initialized "java/lang/System" ∈ kw_T) (hf : 1 ≤ md.2.2.2.2.1) (hlo : 60 ≤ md.2.2.2.2.2) (hr : (S.map fun v => v.category).sum ≤ 8) (d : decode md.2.1 pc = .ok (.invokestatic i, 3)) (ha : hp[a]? = some (.inl (0, n1, .inl f))) (hb : hp[b]? = some (.inl (0, n2, .inl g))) (h1 : ¬ sp < 0) (h2 : ¬ dp < 0) (h3 : ¬ n < 0) (h4 : sp.toNatClampNeg + n.toNatClampNeg ≤ n1) (h5 : dp.toNatClampNeg + n.toNatClampNeg ≤ n2) (k : kw_V G md (pc + 3) L S (hp.set b (.inl (0, n2, .inl (va_cpy f g sp.toNatClampNeg dp.toNatClampNeg n.toNatClampNeg)))) Q) : kw_V G md pc L (.int n :: .int dp :: .ref b :: .int sp :: .ref a :: S) hp Q := by
  intro n0 p e s m args below meth c H locs ls hC hn hR hS hl'
  have hts := hC.2.2.2.2.2.2.2.1
  refine va_copyi hC.1 hC.2.1 (by rw [hC.2.2.1]; exact hl'.1.symm) hC.2.2.2.2.2.2.1 (hts _ hl) (hts _ hnat) (hts _ hst) (hts _ hini) hC.2.2.2.2.2.2.2.2.1.1 hR.2.2 (kw_w_D _ _ _) hS a b 0 0 (kw_w_get ha) (kw_w_get hb) rfl rfl rfl h1 h2 h3 h4 h5 (fun _ _ => rfl) hf ?_ d (fun H1 locs1 hP1 hD1 hS1 => ?_)
  · have h9 := kw_roomS (G := G) hr
    have h10 : nativeFrameWords "java/lang/System" "arraycopy" 5 + 11 ≤ 52 := by decide +kernel
    show _ ≤ md.2.2.2.2.2
    omega
  · exact kw_step k hC hn hR (by simp) (kw_pos hb) (by rw [kw_w_set]; exact hP1) hS1 hl'
theorem kw_copyl {i a b n1 n2 : Nat} {f g : Nat → Int64} {sp dp n : Int32} (hl : Cond.methodLink md.1.cls i arraycopyName ∈ kw_T) (hnat : Cond.native arraycopyName ∈ kw_T) (hst : Cond.static arraycopyName ∈ kw_T) (hini : Cond.initialized "java/lang/System" ∈ kw_T) (hf : 1 ≤ md.2.2.2.2.1) (hlo : 60 ≤ md.2.2.2.2.2) (hr : (S.map fun v => v.category).sum ≤ 8) (d : decode md.2.1 pc = .ok (.invokestatic i, 3)) (ha : hp[a]? = some (.inl (1, n1, .inr (.inl f)))) (hb : hp[b]? = some (.inl (1, n2, .inr (.inl g)))) (h1 : ¬ sp < 0) (h2 : ¬ dp < 0) (h3 : ¬ n < 0) (h4 : sp.toNatClampNeg + n.toNatClampNeg ≤ n1) (h5 : dp.toNatClampNeg + n.toNatClampNeg ≤ n2) (k : kw_V G md (pc + 3) L S (hp.set b (.inl (1, n2, .inr (.inl (va_cpy f g sp.toNatClampNeg dp.toNatClampNeg n.toNatClampNeg))))) Q) : kw_V G md pc L (.int n :: .int dp :: .ref b :: .int sp :: .ref a :: S) hp Q := by
  intro n0 p e s m args below meth c H locs ls hC hn hR hS hl'
  have hts := hC.2.2.2.2.2.2.2.1
  refine va_copyl hC.1 hC.2.1 (by rw [hC.2.2.1]; exact hl'.1.symm) hC.2.2.2.2.2.2.1 (hts _ hl) (hts _ hnat) (hts _ hst) (hts _ hini) hC.2.2.2.2.2.2.2.2.1.1 hR.2.2 (kw_w_D _ _ _) hS a b 1 1 (kw_w_get ha) (kw_w_get hb) rfl rfl rfl h1 h2 h3 h4 h5 (fun _ _ => rfl) hf ?_ d (fun H1 locs1 hP1 hD1 hS1 => ?_)
  · have h9 := kw_roomS (G := G) hr
    have h10 : nativeFrameWords "java/lang/System" "arraycopy" 5 + 11 ≤ 52 := by decide +kernel
    show _ ≤ md.2.2.2.2.2
    omega
  · exact kw_step k hC hn hR (by simp) (kw_pos hb) (by rw [kw_w_set]; exact hP1) hS1 hl'
theorem kw_outer (c : ClassId) (N h0 : Nat) : ∀ i : Nat, Jvm.Free.Multi.outerC c N h0 i = arrV c N (fun j => va_rf (if j < i then some (h0 + 1 + j) else none))
  | 0 => by
    show ({ cls := c, slots := Array.replicate N .null, vm := .none } : Cell) = _
    rw [arrV_new]
    refine congrArg (arrV c N) (funext fun j => ?_)
    simp [va_rf]
  | i + 1 => by
    show (Jvm.Free.Multi.outerC c N h0 i).setSlot i (.ref (h0 + 1 + i)) = _
    rw [kw_outer c N h0 i, arrV_store]
    refine congrArg (arrV c N) (funext fun j => ?_)
    by_cases e : j = i
    · subst e
      simp [updV, va_rf]
    · by_cases h : j < i
      · simp [updV, e, h, Nat.lt_succ_of_lt h]
      · simp [updV, e, h, show ¬ j < i + 1 by omega]
/-- new int[n][k]: the outer array, then its rows -/
def kw_mna (h n k : Nat) : kw_H := .inl (5, n, .inr (.inr (.inr (.inr (fun i => if i < n then some (h + 1 + i) else none))))) :: List.replicate n (.inl (0, k, .inl (fun _ => 0)))
theorem kw_multi {i i0 N K : Nat} {n k : Int32} (hw : Cond.classLink md.1.cls i ("[" ++ (FieldType.array .int).toString) ∈ kw_T) (hov : lw_tbl[i0]? = some (.arrayOver (.array .int))) (hac : Cond.arrayClass .int ∈ kw_T) (hn0 : ¬ n < 0) (hk0 : ¬ k < 0) (hN : n.toNatClampNeg = N) (hK0 : k.toNatClampNeg = K) (hb : N ≤ 1000 ∧ K ≤ 1000) (d : decode md.2.1 pc = .ok (.multianewarray i 2, 4)) (hlim : hp.length + (1 + N) ≤ 3900) (kk : kw_V G md (pc + 4) L (.ref hp.length :: S) (hp ++ kw_mna hp.length N K) Q) : kw_V G md pc L (.int k :: .int n :: S) hp Q := by
  intro n0 p e s m args below meth c H locs ls hC hn hR hS hl
  subst hN
  subst hK0
  have hts := hC.2.2.2.2.2.2.2.1
  have hK := hC.2.2.2.2.2.2.2.2.1.1
  have hNK : n.toNatClampNeg * k.toNatClampNeg ≤ n.toNatClampNeg * 1000 := Nat.mul_le_mul_left _ hb.2
  have hr := kw_room1 (x := n.toNatClampNeg + n.toNatClampNeg * k.toNatClampNeg) hC hn hR hlim (by omega)
  have hk1 := hR.1
  have hP := hR.2.2
  intro T hT X
  obtain ⟨vm₁, cA, comp, -, fA, fC, -, -, X', step⟩ := X.multianewarray2F hC.1 (ty := .int) hC.2.2.2.2.2.2.1 (hts _ hw) (by have h9 := kw_inN (G := G) i0 hov rfl hC.2.2.2.2.2.2.2.2.1; exact Stand.arrayOver_alikeB (Vm.Alike.refl s.vm) h9) (hts _ hac) (g := F0 m pc ls (.int k :: .int n :: S.map (kw_v G.2.1))) rfl (by rw [hC.2.1]; exact d) rfl hn0 hk0 (by omega) (by show k.toNatClampNeg * 4 ≤ _; omega) (by omega) rfl rfl hr.1 hr.2
  generalize hF : Jvm.Free.Multi.fill (T.setVm vm₁) cA comp n.toNatClampNeg k.toNatClampNeg (defaultValue .int) n.toNatClampNeg = F at X' step
  have hTh : (T.setVm vm₁).heap = H := hT
  obtain ⟨f1, f2, -, -⟩ := Jvm.Free.Multi.fill_facts (T.setVm vm₁) cA comp n.toNatClampNeg k.toNatClampNeg (defaultValue .int) n.toNatClampNeg
  rw [hF, hTh] at f1 f2
  have hold : ∀ x : Nat, x < H.size → F.heap[x]? = H[x]? := fun x hx => by
    have := Jvm.Free.Multi.fill_old (T.setVm vm₁) cA comp n.toNatClampNeg k.toNatClampNeg (defaultValue .int) (a := x) (by rw [hTh]; exact hx) n.toNatClampNeg
    rw [hF, hTh] at this
    exact this
  have hrow : ∀ j : Nat, j < n.toNatClampNeg → F.heap[H.size + 1 + j]? = some (arrV comp k.toNatClampNeg (fun _ => .int 0)) := fun j hj => by
    have := Jvm.Free.Multi.fill_inner (T.setVm vm₁) cA comp n.toNatClampNeg k.toNatClampNeg (defaultValue .int) n.toNatClampNeg j hj
    rw [hF, hTh] at this
    rw [this, ← arrV_new]
    rfl
  have hcA : G.2.2.2 5 = cA := by
    have h1 : s.vm.findClass ("[" ++ (FieldType.array .int).toString) = some (G.2.2.2 5) := (hK.2 5 (G.2.2.2 5, .array .int) rfl).2
    exact Option.some.inj (h1.symm.trans fA)
  have hcI : G.2.2.2 0 = comp := by
    have h1 : s.vm.findClass ("[" ++ FieldType.int.toString) = some (G.2.2.2 0) := (hK.2 0 (G.2.2.2 0, .int) rfl).2
    exact Option.some.inj (h1.symm.trans fC)
  have hP1 : va_P G.2.2.1 vwCl (kw_w G.2.1 G.2.2.2 (hp ++ kw_mna hp.length n.toNatClampNeg k.toNatClampNeg)) F.heap := by
    intro j q hq
    rw [kw_w_at] at hq
    by_cases h1 : j < hp.length
    · rw [List.getElem?_append_left h1, ← kw_w_at] at hq
      exact (hP j q hq).kept (hold q.1 ((hP j q hq).lt))
    · rw [List.getElem?_append_right (by omega)] at hq
      unfold kw_mna at hq
      by_cases h2 : j = hp.length
      · subst h2
        rw [Nat.sub_self, List.getElem?_cons_zero] at hq
        cases hq
        show F.heap[G.2.1 + hp.length]? = some (vp_cell (G.2.2.2 5) (n.toNatClampNeg, _))
        rw [← hk1, f2, kw_outer, hcA]
        congr 1
        show arrV cA n.toNatClampNeg (fun j => va_rf (if j < n.toNatClampNeg then some (H.size + 1 + j) else none)) = arrV cA n.toNatClampNeg (fun q => va_rf (((fun i => if i < n.toNatClampNeg then some (hp.length + 1 + i) else none) q).map (fun i => G.2.1 + i)))
        refine congrArg (arrV cA n.toNatClampNeg) (funext fun q => ?_)
        by_cases h3 : q < n.toNatClampNeg
        · have e7 : H.size + 1 + q = G.2.1 + (hp.length + 1 + q) := by omega
          simp only [h3, if_true, Option.map_some, e7]
        · simp [h3]
      · obtain ⟨j', hj'⟩ : ∃ j', j - hp.length = j' + 1 := ⟨j - hp.length - 1, by omega⟩
        rw [hj', List.getElem?_cons_succ, List.getElem?_replicate] at hq
        by_cases h3 : j' < n.toNatClampNeg
        · rw [if_pos h3] at hq
          cases hq
          show F.heap[G.2.1 + j]? = some (vp_cell (G.2.2.2 0) (k.toNatClampNeg, _))
          have e9 : G.2.1 + j = H.size + 1 + j' := by omega
          rw [e9, hrow j' h3, hcI]
          rfl
        · rw [if_neg h3] at hq
          cases hq
  have e8 : (hp ++ kw_mna hp.length n.toNatClampNeg k.toNatClampNeg).length = hp.length + (1 + n.toNatClampNeg) := by
    simp [kw_mna]
    omega
  have := kw_push (d := 1 + n.toNatClampNeg) kk hC hn hR hS hl e8 hlim (by rw [f1]; omega) hold hP1 (cells := H.size - s.heap.size + 1 + n.toNatClampNeg) (slots := 1848 * (H.size - s.heap.size) + n.toNatClampNeg + n.toNatClampNeg * k.toNatClampNeg) (e := e) (below := below) (by omega) (by omega)
  obtain ⟨t, a1, b1⟩ := this F rfl X'
  refine ⟨t, step t ?_, b1⟩
  show Steps p.tables e below (F.setTop { method := m, pc := pc + 4, locals := ls, stack := .ref T.heap.size :: S.map (kw_v G.2.1), locked := none }) t
  rw [hT, hk1]
  exact a1
end KwCopy
end
