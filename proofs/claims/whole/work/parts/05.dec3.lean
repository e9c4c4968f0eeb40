theorem dX12_init_0 : decode cX12_init 0 = .ok (.aload_n 0, 1) := by decide +kernel
theorem dX12_init_1 : decode cX12_init 1 = .ok (.invokespecial 1, 3) := by decide +kernel
theorem dX12_init_4 : decode cX12_init 4 = .ok (.aload_n 0, 1) := by decide +kernel
theorem dX12_init_5 : decode cX12_init 5 = .ok (.sipush 1848, 3) := by decide +kernel
theorem dX12_init_8 : decode cX12_init 8 = .ok (.newarray .int, 2) := by decide +kernel
theorem dX12_init_10 : decode cX12_init 10 = .ok (.putfield 7, 3) := by decide +kernel
theorem dX12_init_13 : decode cX12_init 13 = .ok (.aload_n 0, 1) := by decide +kernel
theorem dX12_init_14 : decode cX12_init 14 = .ok (.iconst 2, 1) := by decide +kernel
theorem dX12_init_15 : decode cX12_init 15 = .ok (.newarray .boolean, 2) := by decide +kernel
theorem dX12_init_17 : decode cX12_init 17 = .ok (.putfield 13, 3) := by decide +kernel
theorem dX12_init_20 : decode cX12_init 20 = .ok (.aload_n 0, 1) := by decide +kernel
theorem dX12_init_21 : decode cX12_init 21 = .ok (.bipush 8, 2) := by decide +kernel
theorem dX12_init_23 : decode cX12_init 23 = .ok (.newarray .int, 2) := by decide +kernel
theorem dX12_init_25 : decode cX12_init 25 = .ok (.putfield 17, 3) := by decide +kernel
theorem dX12_init_28 : decode cX12_init 28 = .ok (.aload_n 0, 1) := by decide +kernel
theorem dX12_init_29 : decode cX12_init 29 = .ok (.bipush 8, 2) := by decide +kernel
theorem dX12_init_31 : decode cX12_init 31 = .ok (.newarray .int, 2) := by decide +kernel
theorem dX12_init_33 : decode cX12_init 33 = .ok (.dup, 1) := by decide +kernel
theorem dX12_init_34 : decode cX12_init 34 = .ok (.iconst 0, 1) := by decide +kernel
theorem dX12_init_35 : decode cX12_init 35 = .ok (.iconst (-1), 1) := by decide +kernel
theorem dX12_init_36 : decode cX12_init 36 = .ok (.iastore, 1) := by decide +kernel
theorem dX12_init_37 : decode cX12_init 37 = .ok (.dup, 1) := by decide +kernel
theorem dX12_init_38 : decode cX12_init 38 = .ok (.iconst 1, 1) := by decide +kernel
theorem dX12_init_39 : decode cX12_init 39 = .ok (.iconst (-1), 1) := by decide +kernel
theorem dX12_init_40 : decode cX12_init 40 = .ok (.iastore, 1) := by decide +kernel
theorem dX12_init_41 : decode cX12_init 41 = .ok (.dup, 1) := by decide +kernel
theorem dX12_init_42 : decode cX12_init 42 = .ok (.iconst 2, 1) := by decide +kernel
theorem dX12_init_43 : decode cX12_init 43 = .ok (.iconst (-1), 1) := by decide +kernel
theorem dX12_init_44 : decode cX12_init 44 = .ok (.iastore, 1) := by decide +kernel
theorem dX12_init_45 : decode cX12_init 45 = .ok (.dup, 1) := by decide +kernel
theorem dX12_init_46 : decode cX12_init 46 = .ok (.iconst 3, 1) := by decide +kernel
theorem dX12_init_47 : decode cX12_init 47 = .ok (.iconst (-1), 1) := by decide +kernel
theorem dX12_init_48 : decode cX12_init 48 = .ok (.iastore, 1) := by decide +kernel
theorem dX12_init_49 : decode cX12_init 49 = .ok (.dup, 1) := by decide +kernel
theorem dX12_init_50 : decode cX12_init 50 = .ok (.iconst 4, 1) := by decide +kernel
theorem dX12_init_51 : decode cX12_init 51 = .ok (.iconst (-1), 1) := by decide +kernel
theorem dX12_init_52 : decode cX12_init 52 = .ok (.iastore, 1) := by decide +kernel
theorem dX12_init_53 : decode cX12_init 53 = .ok (.dup, 1) := by decide +kernel
theorem dX12_init_54 : decode cX12_init 54 = .ok (.iconst 5, 1) := by decide +kernel
theorem dX12_init_55 : decode cX12_init 55 = .ok (.iconst (-1), 1) := by decide +kernel
theorem dX12_init_56 : decode cX12_init 56 = .ok (.iastore, 1) := by decide +kernel
theorem dX12_init_57 : decode cX12_init 57 = .ok (.dup, 1) := by decide +kernel
theorem dX12_init_58 : decode cX12_init 58 = .ok (.bipush 6, 2) := by decide +kernel
theorem dX12_init_60 : decode cX12_init 60 = .ok (.iconst (-1), 1) := by decide +kernel
theorem dX12_init_61 : decode cX12_init 61 = .ok (.iastore, 1) := by decide +kernel
theorem dX12_init_62 : decode cX12_init 62 = .ok (.dup, 1) := by decide +kernel
theorem dX12_init_63 : decode cX12_init 63 = .ok (.bipush 7, 2) := by decide +kernel
theorem dX12_init_65 : decode cX12_init 65 = .ok (.iconst (-1), 1) := by decide +kernel
theorem dX12_init_66 : decode cX12_init 66 = .ok (.iastore, 1) := by decide +kernel
theorem dX12_init_67 : decode cX12_init 67 = .ok (.putfield 20, 3) := by decide +kernel
theorem dX12_init_70 : decode cX12_init 70 = .ok (.aload_n 0, 1) := by decide +kernel
theorem dX12_init_71 : decode cX12_init 71 = .ok (.sipush 320, 3) := by decide +kernel
theorem dX12_init_74 : decode cX12_init 74 = .ok (.newarray .int, 2) := by decide +kernel
theorem dX12_init_76 : decode cX12_init 76 = .ok (.putfield 23, 3) := by decide +kernel
theorem dX12_init_79 : decode cX12_init 79 = .ok (.aload_n 0, 1) := by decide +kernel
theorem dX12_init_80 : decode cX12_init 80 = .ok (.bipush 80, 2) := by decide +kernel
theorem dX12_init_82 : decode cX12_init 82 = .ok (.newarray .int, 2) := by decide +kernel
theorem dX12_init_84 : decode cX12_init 84 = .ok (.putfield 26, 3) := by decide +kernel
theorem dX12_init_87 : decode cX12_init 87 = .ok (.aload_n 0, 1) := by decide +kernel
theorem dX12_init_88 : decode cX12_init 88 = .ok (.bipush 16, 2) := by decide +kernel
theorem dX12_init_90 : decode cX12_init 90 = .ok (.newarray .int, 2) := by decide +kernel
theorem dX12_init_92 : decode cX12_init 92 = .ok (.putfield 29, 3) := by decide +kernel
theorem dX12_init_95 : decode cX12_init 95 = .ok (.aload_n 0, 1) := by decide +kernel
theorem dX12_init_96 : decode cX12_init 96 = .ok (.sipush 360, 3) := by decide +kernel
theorem dX12_init_99 : decode cX12_init 99 = .ok (.newarray .int, 2) := by decide +kernel
theorem dX12_init_101 : decode cX12_init 101 = .ok (.putfield 32, 3) := by decide +kernel
theorem dX12_init_104 : decode cX12_init 104 = .ok (.return_, 1) := by decide +kernel
theorem dX12_in_0 : decode cX12_in 0 = .ok (.lload_n 0, 1) := by decide +kernel
theorem dX12_in_1 : decode cX12_in 1 = .ok (.lload_n 2, 1) := by decide +kernel
theorem dX12_in_2 : decode cX12_in 2 = .ok (.lcmp, 1) := by decide +kernel
theorem dX12_in_3 : decode cX12_in 3 = .ok (.ifCond .lt 14, 3) := by decide +kernel
theorem dX12_in_6 : decode cX12_in 6 = .ok (.lload_n 0, 1) := by decide +kernel
theorem dX12_in_7 : decode cX12_in 7 = .ok (.lload 4, 2) := by decide +kernel
theorem dX12_in_9 : decode cX12_in 9 = .ok (.lcmp, 1) := by decide +kernel
theorem dX12_in_10 : decode cX12_in 10 = .ok (.ifCond .gt 7, 3) := by decide +kernel
theorem dX12_in_13 : decode cX12_in 13 = .ok (.iconst 1, 1) := by decide +kernel
theorem dX12_in_14 : decode cX12_in 14 = .ok (.goto 4, 3) := by decide +kernel
theorem dX12_in_17 : decode cX12_in 17 = .ok (.iconst 0, 1) := by decide +kernel
theorem dX12_in_18 : decode cX12_in 18 = .ok (.ireturn, 1) := by decide +kernel
theorem dX12_has_0 : decode cX12_has 0 = .ok (.iload_n 0, 1) := by decide +kernel
theorem dX12_has_1 : decode cX12_has 1 = .ok (.iload_n 1, 1) := by decide +kernel
theorem dX12_has_2 : decode cX12_has 2 = .ok (.ishr, 1) := by decide +kernel
theorem dX12_has_3 : decode cX12_has 3 = .ok (.iconst 1, 1) := by decide +kernel
theorem dX12_has_4 : decode cX12_has 4 = .ok (.iand, 1) := by decide +kernel
theorem dX12_has_5 : decode cX12_has 5 = .ok (.iconst 1, 1) := by decide +kernel
theorem dX12_has_6 : decode cX12_has 6 = .ok (.if_icmp .ne 7, 3) := by decide +kernel
theorem dX12_has_9 : decode cX12_has 9 = .ok (.iconst 1, 1) := by decide +kernel
theorem dX12_has_10 : decode cX12_has 10 = .ok (.goto 4, 3) := by decide +kernel
theorem dX12_has_13 : decode cX12_has 13 = .ok (.iconst 0, 1) := by decide +kernel
theorem dX12_has_14 : decode cX12_has 14 = .ok (.ireturn, 1) := by decide +kernel
theorem dX12_find_0 : decode cX12_find 0 = .ok (.aload_n 0, 1) := by decide +kernel
theorem dX12_find_1 : decode cX12_find 1 = .ok (.iload_n 1, 1) := by decide +kernel
theorem dX12_find_2 : decode cX12_find 2 = .ok (.putfield 35, 3) := by decide +kernel
theorem dX12_find_5 : decode cX12_find 5 = .ok (.ldc 39, 2) := by decide +kernel
theorem dX12_find_7 : decode cX12_find 7 = .ok (.iload_n 1, 1) := by decide +kernel
theorem dX12_find_8 : decode cX12_find 8 = .ok (.isub, 1) := by decide +kernel
theorem dX12_find_9 : decode cX12_find 9 = .ok (.ireturn, 1) := by decide +kernel
theorem dX12_well_0 : decode cX12_well 0 = .ok (.aload_n 0, 1) := by decide +kernel
theorem dX12_well_1 : decode cX12_well 1 = .ok (.iconst 0, 1) := by decide +kernel
theorem dX12_well_2 : decode cX12_well 2 = .ok (.putfield 35, 3) := by decide +kernel
theorem dX12_well_5 : decode cX12_well 5 = .ok (.iload_n 1, 1) := by decide +kernel
theorem dX12_well_6 : decode cX12_well 6 = .ok (.ireturn, 1) := by decide +kernel
theorem dX12_isRow_0 : decode cX12_isRow 0 = .ok (.iload_n 0, 1) := by decide +kernel
theorem dX12_isRow_1 : decode cX12_isRow 1 = .ok (.i2l, 1) := by decide +kernel
theorem dX12_isRow_2 : decode cX12_isRow 2 = .ok (.lconst 0, 1) := by decide +kernel
theorem dX12_isRow_3 : decode cX12_isRow 3 = .ok (.ldc2_w 40, 3) := by decide +kernel
theorem dX12_isRow_6 : decode cX12_isRow 6 = .ok (.invokestatic 42, 3) := by decide +kernel
theorem dX12_isRow_9 : decode cX12_isRow 9 = .ok (.ireturn, 1) := by decide +kernel
theorem dX12_row_0 : decode cX12_row 0 = .ok (.iload_n 1, 1) := by decide +kernel
theorem dX12_row_1 : decode cX12_row 1 = .ok (.invokestatic 46, 3) := by decide +kernel
theorem dX12_row_4 : decode cX12_row 4 = .ok (.ifCond .eq 21, 3) := by decide +kernel
theorem dX12_row_7 : decode cX12_row 7 = .ok (.iload_n 2, 1) := by decide +kernel
theorem dX12_row_8 : decode cX12_row 8 = .ok (.i2l, 1) := by decide +kernel
theorem dX12_row_9 : decode cX12_row 9 = .ok (.lconst 0, 1) := by decide +kernel
theorem dX12_row_10 : decode cX12_row 10 = .ok (.ldc2_w 50, 3) := by decide +kernel
theorem dX12_row_13 : decode cX12_row 13 = .ok (.invokestatic 42, 3) := by decide +kernel
theorem dX12_row_16 : decode cX12_row 16 = .ok (.ifCond .eq 9, 3) := by decide +kernel
theorem dX12_row_19 : decode cX12_row 19 = .ok (.iload_n 3, 1) := by decide +kernel
theorem dX12_row_20 : decode cX12_row 20 = .ok (.bipush 40, 2) := by decide +kernel
theorem dX12_row_22 : decode cX12_row 22 = .ok (.if_icmp .le 6, 3) := by decide +kernel
theorem dX12_row_25 : decode cX12_row 25 = .ok (.ldc 52, 2) := by decide +kernel
theorem dX12_row_27 : decode cX12_row 27 = .ok (.ireturn, 1) := by decide +kernel
theorem dX12_row_28 : decode cX12_row 28 = .ok (.iload_n 3, 1) := by decide +kernel
theorem dX12_row_29 : decode cX12_row 29 = .ok (.ifCond .ge 9, 3) := by decide +kernel
theorem dX12_row_32 : decode cX12_row 32 = .ok (.aload_n 0, 1) := by decide +kernel
theorem dX12_row_33 : decode cX12_row 33 = .ok (.iconst 4, 1) := by decide +kernel
theorem dX12_row_34 : decode cX12_row 34 = .ok (.invokevirtual 53, 3) := by decide +kernel
theorem dX12_row_37 : decode cX12_row 37 = .ok (.ireturn, 1) := by decide +kernel
theorem dX12_row_38 : decode cX12_row 38 = .ok (.aload_n 0, 1) := by decide +kernel
theorem dX12_row_39 : decode cX12_row 39 = .ok (.getfield 17, 3) := by decide +kernel
theorem dX12_row_42 : decode cX12_row 42 = .ok (.iload_n 1, 1) := by decide +kernel
theorem dX12_row_43 : decode cX12_row 43 = .ok (.iload_n 2, 1) := by decide +kernel
theorem dX12_row_44 : decode cX12_row 44 = .ok (.iastore, 1) := by decide +kernel
theorem dX12_row_45 : decode cX12_row 45 = .ok (.aload_n 0, 1) := by decide +kernel
theorem dX12_row_46 : decode cX12_row 46 = .ok (.getfield 20, 3) := by decide +kernel
theorem dX12_row_49 : decode cX12_row 49 = .ok (.iload_n 1, 1) := by decide +kernel
theorem dX12_row_50 : decode cX12_row 50 = .ok (.iload_n 3, 1) := by decide +kernel
theorem dX12_row_51 : decode cX12_row 51 = .ok (.iastore, 1) := by decide +kernel
theorem dX12_row_52 : decode cX12_row 52 = .ok (.iconst 0, 1) := by decide +kernel
theorem dX12_row_53 : decode cX12_row 53 = .ok (.istore 4, 2) := by decide +kernel
theorem dX12_row_55 : decode cX12_row 55 = .ok (.iload 4, 2) := by decide +kernel
theorem dX12_row_57 : decode cX12_row 57 = .ok (.bipush 40, 2) := by decide +kernel
theorem dX12_row_59 : decode cX12_row 59 = .ok (.if_icmp .ge 22, 3) := by decide +kernel
theorem dX12_row_62 : decode cX12_row 62 = .ok (.aload_n 0, 1) := by decide +kernel
theorem dX12_row_63 : decode cX12_row 63 = .ok (.getfield 23, 3) := by decide +kernel
theorem dX12_row_66 : decode cX12_row 66 = .ok (.bipush 40, 2) := by decide +kernel
theorem dX12_row_68 : decode cX12_row 68 = .ok (.iload_n 1, 1) := by decide +kernel
theorem dX12_row_69 : decode cX12_row 69 = .ok (.imul, 1) := by decide +kernel
theorem dX12_row_70 : decode cX12_row 70 = .ok (.iload 4, 2) := by decide +kernel
theorem dX12_row_72 : decode cX12_row 72 = .ok (.iadd, 1) := by decide +kernel
theorem dX12_row_73 : decode cX12_row 73 = .ok (.iconst 0, 1) := by decide +kernel
theorem dX12_row_74 : decode cX12_row 74 = .ok (.iastore, 1) := by decide +kernel
theorem dX12_row_75 : decode cX12_row 75 = .ok (.iinc 4 1, 3) := by decide +kernel
theorem dX12_row_78 : decode cX12_row 78 = .ok (.goto (-23), 3) := by decide +kernel
theorem dX12_row_81 : decode cX12_row 81 = .ok (.aload_n 0, 1) := by decide +kernel
theorem dX12_row_82 : decode cX12_row 82 = .ok (.iload_n 3, 1) := by decide +kernel
theorem dX12_row_83 : decode cX12_row 83 = .ok (.invokevirtual 57, 3) := by decide +kernel
theorem dX12_row_86 : decode cX12_row 86 = .ok (.ireturn, 1) := by decide +kernel
theorem dX12_narrow_0 : decode cX12_narrow 0 = .ok (.iload_n 1, 1) := by decide +kernel
theorem dX12_narrow_1 : decode cX12_narrow 1 = .ok (.ifCond .ne 8, 3) := by decide +kernel
theorem dX12_narrow_4 : decode cX12_narrow 4 = .ok (.iload_n 0, 1) := by decide +kernel
theorem dX12_narrow_5 : decode cX12_narrow 5 = .ok (.i2b, 1) := by decide +kernel
theorem dX12_narrow_6 : decode cX12_narrow 6 = .ok (.goto 14, 3) := by decide +kernel
theorem dX12_narrow_9 : decode cX12_narrow 9 = .ok (.iload_n 1, 1) := by decide +kernel
theorem dX12_narrow_10 : decode cX12_narrow 10 = .ok (.iconst 1, 1) := by decide +kernel
theorem dX12_narrow_11 : decode cX12_narrow 11 = .ok (.if_icmp .ne 8, 3) := by decide +kernel
theorem dX12_narrow_14 : decode cX12_narrow 14 = .ok (.iload_n 0, 1) := by decide +kernel
theorem dX12_narrow_15 : decode cX12_narrow 15 = .ok (.i2s, 1) := by decide +kernel
theorem dX12_narrow_16 : decode cX12_narrow 16 = .ok (.goto 4, 3) := by decide +kernel
theorem dX12_narrow_19 : decode cX12_narrow 19 = .ok (.iload_n 0, 1) := by decide +kernel
theorem dX12_narrow_20 : decode cX12_narrow 20 = .ok (.ireturn, 1) := by decide +kernel
theorem dX12_set_0 : decode cX12_set 0 = .ok (.iload_n 1, 1) := by decide +kernel
theorem dX12_set_1 : decode cX12_set 1 = .ok (.invokestatic 46, 3) := by decide +kernel
theorem dX12_set_4 : decode cX12_set 4 = .ok (.ifCond .ne 6, 3) := by decide +kernel
theorem dX12_set_7 : decode cX12_set 7 = .ok (.ldc 52, 2) := by decide +kernel
theorem dX12_set_9 : decode cX12_set 9 = .ok (.ireturn, 1) := by decide +kernel
theorem dX12_set_10 : decode cX12_set 10 = .ok (.aload_n 0, 1) := by decide +kernel
theorem dX12_set_11 : decode cX12_set 11 = .ok (.getfield 20, 3) := by decide +kernel
theorem dX12_set_14 : decode cX12_set 14 = .ok (.iload_n 1, 1) := by decide +kernel
theorem dX12_set_15 : decode cX12_set 15 = .ok (.iaload, 1) := by decide +kernel
theorem dX12_set_16 : decode cX12_set 16 = .ok (.ifCond .ge 9, 3) := by decide +kernel
theorem dX12_set_19 : decode cX12_set 19 = .ok (.aload_n 0, 1) := by decide +kernel
theorem dX12_set_20 : decode cX12_set 20 = .ok (.iconst 1, 1) := by decide +kernel
theorem dX12_set_21 : decode cX12_set 21 = .ok (.invokevirtual 53, 3) := by decide +kernel
theorem dX12_set_24 : decode cX12_set 24 = .ok (.ireturn, 1) := by decide +kernel
theorem dX12_set_25 : decode cX12_set 25 = .ok (.iload_n 2, 1) := by decide +kernel
theorem dX12_set_26 : decode cX12_set 26 = .ok (.i2l, 1) := by decide +kernel
theorem dX12_set_27 : decode cX12_set 27 = .ok (.lconst 0, 1) := by decide +kernel
theorem dX12_set_28 : decode cX12_set 28 = .ok (.aload_n 0, 1) := by decide +kernel
theorem dX12_set_29 : decode cX12_set 29 = .ok (.getfield 20, 3) := by decide +kernel
theorem dX12_set_32 : decode cX12_set 32 = .ok (.iload_n 1, 1) := by decide +kernel
theorem dX12_set_33 : decode cX12_set 33 = .ok (.iaload, 1) := by decide +kernel
theorem dX12_set_34 : decode cX12_set 34 = .ok (.iconst 1, 1) := by decide +kernel
theorem dX12_set_35 : decode cX12_set 35 = .ok (.isub, 1) := by decide +kernel
theorem dX12_set_36 : decode cX12_set 36 = .ok (.i2l, 1) := by decide +kernel
theorem dX12_set_37 : decode cX12_set 37 = .ok (.invokestatic 42, 3) := by decide +kernel
theorem dX12_set_40 : decode cX12_set 40 = .ok (.ifCond .ne 9, 3) := by decide +kernel
theorem dX12_set_43 : decode cX12_set 43 = .ok (.aload_n 0, 1) := by decide +kernel
theorem dX12_set_44 : decode cX12_set 44 = .ok (.iconst 2, 1) := by decide +kernel
theorem dX12_set_45 : decode cX12_set 45 = .ok (.invokevirtual 53, 3) := by decide +kernel
theorem dX12_set_48 : decode cX12_set 48 = .ok (.ireturn, 1) := by decide +kernel
theorem dX12_set_49 : decode cX12_set 49 = .ok (.aload_n 0, 1) := by decide +kernel
theorem dX12_set_50 : decode cX12_set 50 = .ok (.getfield 23, 3) := by decide +kernel
theorem dX12_set_53 : decode cX12_set 53 = .ok (.bipush 40, 2) := by decide +kernel
theorem dX12_set_55 : decode cX12_set 55 = .ok (.iload_n 1, 1) := by decide +kernel
theorem dX12_set_56 : decode cX12_set 56 = .ok (.imul, 1) := by decide +kernel
theorem dX12_set_57 : decode cX12_set 57 = .ok (.iload_n 2, 1) := by decide +kernel
theorem dX12_set_58 : decode cX12_set 58 = .ok (.iadd, 1) := by decide +kernel
theorem dX12_set_59 : decode cX12_set 59 = .ok (.iload_n 3, 1) := by decide +kernel
theorem dX12_set_60 : decode cX12_set 60 = .ok (.aload_n 0, 1) := by decide +kernel
theorem dX12_set_61 : decode cX12_set 61 = .ok (.getfield 17, 3) := by decide +kernel
theorem dX12_set_64 : decode cX12_set 64 = .ok (.iload_n 1, 1) := by decide +kernel
theorem dX12_set_65 : decode cX12_set 65 = .ok (.iaload, 1) := by decide +kernel
theorem dX12_set_66 : decode cX12_set 66 = .ok (.invokestatic 60, 3) := by decide +kernel
theorem dX12_set_69 : decode cX12_set 69 = .ok (.iastore, 1) := by decide +kernel
theorem dX12_set_70 : decode cX12_set 70 = .ok (.aload_n 0, 1) := by decide +kernel
theorem dX12_set_71 : decode cX12_set 71 = .ok (.aload_n 0, 1) := by decide +kernel
theorem dX12_set_72 : decode cX12_set 72 = .ok (.getfield 23, 3) := by decide +kernel
theorem dX12_set_75 : decode cX12_set 75 = .ok (.bipush 40, 2) := by decide +kernel
theorem dX12_set_77 : decode cX12_set 77 = .ok (.iload_n 1, 1) := by decide +kernel
theorem dX12_set_78 : decode cX12_set 78 = .ok (.imul, 1) := by decide +kernel
theorem dX12_set_79 : decode cX12_set 79 = .ok (.iload_n 2, 1) := by decide +kernel
theorem dX12_set_80 : decode cX12_set 80 = .ok (.iadd, 1) := by decide +kernel
theorem dX12_set_81 : decode cX12_set 81 = .ok (.iaload, 1) := by decide +kernel
theorem dX12_set_82 : decode cX12_set 82 = .ok (.invokevirtual 57, 3) := by decide +kernel
theorem dX12_set_85 : decode cX12_set 85 = .ok (.ireturn, 1) := by decide +kernel
theorem dX12_isSpan_0 : decode cX12_isSpan 0 = .ok (.iload_n 2, 1) := by decide +kernel
theorem dX12_isSpan_1 : decode cX12_isSpan 1 = .ok (.ifCond .lt 27, 3) := by decide +kernel
theorem dX12_isSpan_4 : decode cX12_isSpan 4 = .ok (.iload_n 3, 1) := by decide +kernel
theorem dX12_isSpan_5 : decode cX12_isSpan 5 = .ok (.ifCond .lt 23, 3) := by decide +kernel
theorem dX12_isSpan_8 : decode cX12_isSpan 8 = .ok (.iload_n 2, 1) := by decide +kernel
theorem dX12_isSpan_9 : decode cX12_isSpan 9 = .ok (.i2l, 1) := by decide +kernel
theorem dX12_isSpan_10 : decode cX12_isSpan 10 = .ok (.iload_n 3, 1) := by decide +kernel
theorem dX12_isSpan_11 : decode cX12_isSpan 11 = .ok (.i2l, 1) := by decide +kernel
theorem dX12_isSpan_12 : decode cX12_isSpan 12 = .ok (.ladd, 1) := by decide +kernel
theorem dX12_isSpan_13 : decode cX12_isSpan 13 = .ok (.aload_n 0, 1) := by decide +kernel
theorem dX12_isSpan_14 : decode cX12_isSpan 14 = .ok (.getfield 20, 3) := by decide +kernel
theorem dX12_isSpan_17 : decode cX12_isSpan 17 = .ok (.iload_n 1, 1) := by decide +kernel
theorem dX12_isSpan_18 : decode cX12_isSpan 18 = .ok (.iaload, 1) := by decide +kernel
theorem dX12_isSpan_19 : decode cX12_isSpan 19 = .ok (.i2l, 1) := by decide +kernel
theorem dX12_isSpan_20 : decode cX12_isSpan 20 = .ok (.lcmp, 1) := by decide +kernel
theorem dX12_isSpan_21 : decode cX12_isSpan 21 = .ok (.ifCond .gt 7, 3) := by decide +kernel
theorem dX12_isSpan_24 : decode cX12_isSpan 24 = .ok (.iconst 1, 1) := by decide +kernel
theorem dX12_isSpan_25 : decode cX12_isSpan 25 = .ok (.goto 4, 3) := by decide +kernel
theorem dX12_isSpan_28 : decode cX12_isSpan 28 = .ok (.iconst 0, 1) := by decide +kernel
theorem dX12_isSpan_29 : decode cX12_isSpan 29 = .ok (.ireturn, 1) := by decide +kernel
theorem dX12_copy_0 : decode cX12_copy 0 = .ok (.iload_n 1, 1) := by decide +kernel
theorem dX12_copy_1 : decode cX12_copy 1 = .ok (.invokestatic 46, 3) := by decide +kernel
theorem dX12_copy_4 : decode cX12_copy 4 = .ok (.ifCond .eq 10, 3) := by decide +kernel
theorem dX12_copy_7 : decode cX12_copy 7 = .ok (.iload_n 3, 1) := by decide +kernel
theorem dX12_copy_8 : decode cX12_copy 8 = .ok (.invokestatic 46, 3) := by decide +kernel
theorem dX12_copy_11 : decode cX12_copy 11 = .ok (.ifCond .ne 6, 3) := by decide +kernel
theorem dX12_copy_14 : decode cX12_copy 14 = .ok (.ldc 52, 2) := by decide +kernel
theorem dX12_copy_16 : decode cX12_copy 16 = .ok (.ireturn, 1) := by decide +kernel
theorem dX12_copy_17 : decode cX12_copy 17 = .ok (.aload_n 0, 1) := by decide +kernel
theorem dX12_copy_18 : decode cX12_copy 18 = .ok (.getfield 20, 3) := by decide +kernel
theorem dX12_copy_21 : decode cX12_copy 21 = .ok (.iload_n 1, 1) := by decide +kernel
theorem dX12_copy_22 : decode cX12_copy 22 = .ok (.iaload, 1) := by decide +kernel
theorem dX12_copy_23 : decode cX12_copy 23 = .ok (.ifCond .lt 12, 3) := by decide +kernel
theorem dX12_copy_26 : decode cX12_copy 26 = .ok (.aload_n 0, 1) := by decide +kernel
theorem dX12_copy_27 : decode cX12_copy 27 = .ok (.getfield 20, 3) := by decide +kernel
theorem dX12_copy_30 : decode cX12_copy 30 = .ok (.iload_n 3, 1) := by decide +kernel
theorem dX12_copy_31 : decode cX12_copy 31 = .ok (.iaload, 1) := by decide +kernel
theorem dX12_copy_32 : decode cX12_copy 32 = .ok (.ifCond .ge 9, 3) := by decide +kernel
theorem dX12_copy_35 : decode cX12_copy 35 = .ok (.aload_n 0, 1) := by decide +kernel
theorem dX12_copy_36 : decode cX12_copy 36 = .ok (.iconst 1, 1) := by decide +kernel
theorem dX12_copy_37 : decode cX12_copy 37 = .ok (.invokevirtual 53, 3) := by decide +kernel
theorem dX12_copy_40 : decode cX12_copy 40 = .ok (.ireturn, 1) := by decide +kernel
theorem dX12_copy_41 : decode cX12_copy 41 = .ok (.aload_n 0, 1) := by decide +kernel
theorem dX12_copy_42 : decode cX12_copy 42 = .ok (.getfield 17, 3) := by decide +kernel
theorem dX12_copy_45 : decode cX12_copy 45 = .ok (.iload_n 1, 1) := by decide +kernel
theorem dX12_copy_46 : decode cX12_copy 46 = .ok (.iaload, 1) := by decide +kernel
theorem dX12_copy_47 : decode cX12_copy 47 = .ok (.aload_n 0, 1) := by decide +kernel
theorem dX12_copy_48 : decode cX12_copy 48 = .ok (.getfield 17, 3) := by decide +kernel
theorem dX12_copy_51 : decode cX12_copy 51 = .ok (.iload_n 3, 1) := by decide +kernel
theorem dX12_copy_52 : decode cX12_copy 52 = .ok (.iaload, 1) := by decide +kernel
theorem dX12_copy_53 : decode cX12_copy 53 = .ok (.if_icmp .eq 9, 3) := by decide +kernel
theorem dX12_copy_56 : decode cX12_copy 56 = .ok (.aload_n 0, 1) := by decide +kernel
theorem dX12_copy_57 : decode cX12_copy 57 = .ok (.iconst 5, 1) := by decide +kernel
theorem dX12_copy_58 : decode cX12_copy 58 = .ok (.invokevirtual 53, 3) := by decide +kernel
theorem dX12_copy_61 : decode cX12_copy 61 = .ok (.ireturn, 1) := by decide +kernel
theorem dX12_copy_62 : decode cX12_copy 62 = .ok (.aload_n 0, 1) := by decide +kernel
theorem dX12_copy_63 : decode cX12_copy 63 = .ok (.iload_n 1, 1) := by decide +kernel
theorem dX12_copy_64 : decode cX12_copy 64 = .ok (.iload_n 2, 1) := by decide +kernel
theorem dX12_copy_65 : decode cX12_copy 65 = .ok (.iload 5, 2) := by decide +kernel
theorem dX12_copy_67 : decode cX12_copy 67 = .ok (.invokevirtual 64, 3) := by decide +kernel
theorem dX12_copy_70 : decode cX12_copy 70 = .ok (.ifCond .eq 15, 3) := by decide +kernel
theorem dX12_copy_73 : decode cX12_copy 73 = .ok (.aload_n 0, 1) := by decide +kernel
theorem dX12_copy_74 : decode cX12_copy 74 = .ok (.iload_n 3, 1) := by decide +kernel
theorem dX12_copy_75 : decode cX12_copy 75 = .ok (.iload 4, 2) := by decide +kernel
theorem dX12_copy_77 : decode cX12_copy 77 = .ok (.iload 5, 2) := by decide +kernel
theorem dX12_copy_79 : decode cX12_copy 79 = .ok (.invokevirtual 64, 3) := by decide +kernel
theorem dX12_copy_82 : decode cX12_copy 82 = .ok (.ifCond .ne 9, 3) := by decide +kernel
theorem dX12_copy_85 : decode cX12_copy 85 = .ok (.aload_n 0, 1) := by decide +kernel
theorem dX12_copy_86 : decode cX12_copy 86 = .ok (.iconst 2, 1) := by decide +kernel
theorem dX12_copy_87 : decode cX12_copy 87 = .ok (.invokevirtual 53, 3) := by decide +kernel
theorem dX12_copy_90 : decode cX12_copy 90 = .ok (.ireturn, 1) := by decide +kernel
theorem dX12_copy_91 : decode cX12_copy 91 = .ok (.iload_n 2, 1) := by decide +kernel
theorem dX12_copy_92 : decode cX12_copy 92 = .ok (.iload 4, 2) := by decide +kernel
theorem dX12_copy_94 : decode cX12_copy 94 = .ok (.if_icmp .ge 7, 3) := by decide +kernel
theorem dX12_copy_97 : decode cX12_copy 97 = .ok (.iconst 1, 1) := by decide +kernel
theorem dX12_copy_98 : decode cX12_copy 98 = .ok (.goto 4, 3) := by decide +kernel
theorem dX12_copy_101 : decode cX12_copy 101 = .ok (.iconst 0, 1) := by decide +kernel
theorem dX12_copy_102 : decode cX12_copy 102 = .ok (.istore 6, 2) := by decide +kernel
theorem dX12_copy_104 : decode cX12_copy 104 = .ok (.iconst 0, 1) := by decide +kernel
theorem dX12_copy_105 : decode cX12_copy 105 = .ok (.istore 7, 2) := by decide +kernel
theorem dX12_copy_107 : decode cX12_copy 107 = .ok (.iload 7, 2) := by decide +kernel
theorem dX12_copy_109 : decode cX12_copy 109 = .ok (.iload 5, 2) := by decide +kernel
theorem dX12_copy_111 : decode cX12_copy 111 = .ok (.if_icmp .ge 57, 3) := by decide +kernel
theorem dX12_copy_114 : decode cX12_copy 114 = .ok (.iload 6, 2) := by decide +kernel
theorem dX12_copy_116 : decode cX12_copy 116 = .ok (.ifCond .eq 13, 3) := by decide +kernel
theorem dX12_copy_119 : decode cX12_copy 119 = .ok (.iload 5, 2) := by decide +kernel
theorem dX12_copy_121 : decode cX12_copy 121 = .ok (.iconst 1, 1) := by decide +kernel
theorem dX12_copy_122 : decode cX12_copy 122 = .ok (.isub, 1) := by decide +kernel
theorem dX12_copy_123 : decode cX12_copy 123 = .ok (.iload 7, 2) := by decide +kernel
theorem dX12_copy_125 : decode cX12_copy 125 = .ok (.isub, 1) := by decide +kernel
theorem dX12_copy_126 : decode cX12_copy 126 = .ok (.goto 5, 3) := by decide +kernel
theorem dX12_copy_129 : decode cX12_copy 129 = .ok (.iload 7, 2) := by decide +kernel
theorem dX12_copy_131 : decode cX12_copy 131 = .ok (.istore 8, 2) := by decide +kernel
theorem dX12_copy_133 : decode cX12_copy 133 = .ok (.aload_n 0, 1) := by decide +kernel
theorem dX12_copy_134 : decode cX12_copy 134 = .ok (.getfield 23, 3) := by decide +kernel
theorem dX12_copy_137 : decode cX12_copy 137 = .ok (.bipush 40, 2) := by decide +kernel
theorem dX12_copy_139 : decode cX12_copy 139 = .ok (.iload_n 3, 1) := by decide +kernel
theorem dX12_copy_140 : decode cX12_copy 140 = .ok (.imul, 1) := by decide +kernel
theorem dX12_copy_141 : decode cX12_copy 141 = .ok (.iload 4, 2) := by decide +kernel
theorem dX12_copy_143 : decode cX12_copy 143 = .ok (.iadd, 1) := by decide +kernel
theorem dX12_copy_144 : decode cX12_copy 144 = .ok (.iload 8, 2) := by decide +kernel
theorem dX12_copy_146 : decode cX12_copy 146 = .ok (.iadd, 1) := by decide +kernel
theorem dX12_copy_147 : decode cX12_copy 147 = .ok (.aload_n 0, 1) := by decide +kernel
theorem dX12_copy_148 : decode cX12_copy 148 = .ok (.getfield 23, 3) := by decide +kernel
theorem dX12_copy_151 : decode cX12_copy 151 = .ok (.bipush 40, 2) := by decide +kernel
theorem dX12_copy_153 : decode cX12_copy 153 = .ok (.iload_n 1, 1) := by decide +kernel
theorem dX12_copy_154 : decode cX12_copy 154 = .ok (.imul, 1) := by decide +kernel
theorem dX12_copy_155 : decode cX12_copy 155 = .ok (.iload_n 2, 1) := by decide +kernel
theorem dX12_copy_156 : decode cX12_copy 156 = .ok (.iadd, 1) := by decide +kernel
theorem dX12_copy_157 : decode cX12_copy 157 = .ok (.iload 8, 2) := by decide +kernel
theorem dX12_copy_159 : decode cX12_copy 159 = .ok (.iadd, 1) := by decide +kernel
theorem dX12_copy_160 : decode cX12_copy 160 = .ok (.iaload, 1) := by decide +kernel
theorem dX12_copy_161 : decode cX12_copy 161 = .ok (.iastore, 1) := by decide +kernel
theorem dX12_copy_162 : decode cX12_copy 162 = .ok (.iinc 7 1, 3) := by decide +kernel
theorem dX12_copy_165 : decode cX12_copy 165 = .ok (.goto (-58), 3) := by decide +kernel
theorem dX12_copy_168 : decode cX12_copy 168 = .ok (.aload_n 0, 1) := by decide +kernel
theorem dX12_copy_169 : decode cX12_copy 169 = .ok (.iload 5, 2) := by decide +kernel
theorem dX12_copy_171 : decode cX12_copy 171 = .ok (.invokevirtual 57, 3) := by decide +kernel
theorem dX12_copy_174 : decode cX12_copy 174 = .ok (.ireturn, 1) := by decide +kernel
theorem dX12_drop_0 : decode cX12_drop 0 = .ok (.iload_n 1, 1) := by decide +kernel
theorem dX12_drop_1 : decode cX12_drop 1 = .ok (.invokestatic 46, 3) := by decide +kernel
theorem dX12_drop_4 : decode cX12_drop 4 = .ok (.ifCond .ne 6, 3) := by decide +kernel
theorem dX12_drop_7 : decode cX12_drop 7 = .ok (.ldc 52, 2) := by decide +kernel
theorem dX12_drop_9 : decode cX12_drop 9 = .ok (.ireturn, 1) := by decide +kernel
theorem dX12_drop_10 : decode cX12_drop 10 = .ok (.aload_n 0, 1) := by decide +kernel
theorem dX12_drop_11 : decode cX12_drop 11 = .ok (.getfield 20, 3) := by decide +kernel
theorem dX12_drop_14 : decode cX12_drop 14 = .ok (.iload_n 1, 1) := by decide +kernel
theorem dX12_drop_15 : decode cX12_drop 15 = .ok (.iaload, 1) := by decide +kernel
theorem dX12_drop_16 : decode cX12_drop 16 = .ok (.ifCond .ge 9, 3) := by decide +kernel
theorem dX12_drop_19 : decode cX12_drop 19 = .ok (.aload_n 0, 1) := by decide +kernel
theorem dX12_drop_20 : decode cX12_drop 20 = .ok (.iconst 1, 1) := by decide +kernel
theorem dX12_drop_21 : decode cX12_drop 21 = .ok (.invokevirtual 53, 3) := by decide +kernel
theorem dX12_drop_24 : decode cX12_drop 24 = .ok (.ireturn, 1) := by decide +kernel
theorem dX12_drop_25 : decode cX12_drop 25 = .ok (.aload_n 0, 1) := by decide +kernel
theorem dX12_drop_26 : decode cX12_drop 26 = .ok (.getfield 20, 3) := by decide +kernel
theorem dX12_drop_29 : decode cX12_drop 29 = .ok (.iload_n 1, 1) := by decide +kernel
theorem dX12_drop_30 : decode cX12_drop 30 = .ok (.iaload, 1) := by decide +kernel
theorem dX12_drop_31 : decode cX12_drop 31 = .ok (.istore_n 2, 1) := by decide +kernel
theorem dX12_drop_32 : decode cX12_drop 32 = .ok (.aload_n 0, 1) := by decide +kernel
theorem dX12_drop_33 : decode cX12_drop 33 = .ok (.getfield 20, 3) := by decide +kernel
theorem dX12_drop_36 : decode cX12_drop 36 = .ok (.iload_n 1, 1) := by decide +kernel
theorem dX12_drop_37 : decode cX12_drop 37 = .ok (.iconst (-1), 1) := by decide +kernel
theorem dX12_drop_38 : decode cX12_drop 38 = .ok (.iastore, 1) := by decide +kernel
theorem dX12_drop_39 : decode cX12_drop 39 = .ok (.aload_n 0, 1) := by decide +kernel
theorem dX12_drop_40 : decode cX12_drop 40 = .ok (.iload_n 2, 1) := by decide +kernel
theorem dX12_drop_41 : decode cX12_drop 41 = .ok (.invokevirtual 57, 3) := by decide +kernel
theorem dX12_drop_44 : decode cX12_drop 44 = .ok (.ireturn, 1) := by decide +kernel
theorem dX12_feed_0 : decode cX12_feed 0 = .ok (.iload_n 1, 1) := by decide +kernel
theorem dX12_feed_1 : decode cX12_feed 1 = .ok (.i2l, 1) := by decide +kernel
theorem dX12_feed_2 : decode cX12_feed 2 = .ok (.lconst 0, 1) := by decide +kernel
theorem dX12_feed_3 : decode cX12_feed 3 = .ok (.ldc2_w 68, 3) := by decide +kernel
theorem dX12_feed_6 : decode cX12_feed 6 = .ok (.invokestatic 42, 3) := by decide +kernel
theorem dX12_feed_9 : decode cX12_feed 9 = .ok (.ifCond .ne 6, 3) := by decide +kernel
theorem dX12_feed_12 : decode cX12_feed 12 = .ok (.ldc 52, 2) := by decide +kernel
theorem dX12_feed_14 : decode cX12_feed 14 = .ok (.ireturn, 1) := by decide +kernel
theorem dX12_feed_15 : decode cX12_feed 15 = .ok (.aload_n 0, 1) := by decide +kernel
theorem dX12_feed_16 : decode cX12_feed 16 = .ok (.getfield 70, 3) := by decide +kernel
theorem dX12_feed_19 : decode cX12_feed 19 = .ok (.bipush 80, 2) := by decide +kernel
theorem dX12_feed_21 : decode cX12_feed 21 = .ok (.if_icmp .ne 6, 3) := by decide +kernel
theorem dX12_feed_24 : decode cX12_feed 24 = .ok (.ldc 73, 2) := by decide +kernel
theorem dX12_feed_26 : decode cX12_feed 26 = .ok (.ireturn, 1) := by decide +kernel
theorem dX12_feed_27 : decode cX12_feed 27 = .ok (.aload_n 0, 1) := by decide +kernel
theorem dX12_feed_28 : decode cX12_feed 28 = .ok (.getfield 26, 3) := by decide +kernel
theorem dX12_feed_31 : decode cX12_feed 31 = .ok (.aload_n 0, 1) := by decide +kernel
theorem dX12_feed_32 : decode cX12_feed 32 = .ok (.getfield 70, 3) := by decide +kernel
theorem dX12_feed_35 : decode cX12_feed 35 = .ok (.iload_n 1, 1) := by decide +kernel
theorem dX12_feed_36 : decode cX12_feed 36 = .ok (.iastore, 1) := by decide +kernel
theorem dX12_feed_37 : decode cX12_feed 37 = .ok (.aload_n 0, 1) := by decide +kernel
theorem dX12_feed_38 : decode cX12_feed 38 = .ok (.dup, 1) := by decide +kernel
theorem dX12_feed_39 : decode cX12_feed 39 = .ok (.getfield 70, 3) := by decide +kernel
theorem dX12_feed_42 : decode cX12_feed 42 = .ok (.iconst 1, 1) := by decide +kernel
theorem dX12_feed_43 : decode cX12_feed 43 = .ok (.iadd, 1) := by decide +kernel
theorem dX12_feed_44 : decode cX12_feed 44 = .ok (.putfield 70, 3) := by decide +kernel
theorem dX12_feed_47 : decode cX12_feed 47 = .ok (.aload_n 0, 1) := by decide +kernel
theorem dX12_feed_48 : decode cX12_feed 48 = .ok (.getfield 70, 3) := by decide +kernel
theorem dX12_feed_51 : decode cX12_feed 51 = .ok (.ireturn, 1) := by decide +kernel
theorem dX12_isLetter_0 : decode cX12_isLetter 0 = .ok (.aload_n 0, 1) := by decide +kernel
theorem dX12_isLetter_1 : decode cX12_isLetter 1 = .ok (.getfield 74, 3) := by decide +kernel
theorem dX12_isLetter_4 : decode cX12_isLetter 4 = .ok (.aload_n 0, 1) := by decide +kernel
theorem dX12_isLetter_5 : decode cX12_isLetter 5 = .ok (.getfield 70, 3) := by decide +kernel
theorem dX12_isLetter_8 : decode cX12_isLetter 8 = .ok (.if_icmp .ge 20, 3) := by decide +kernel
theorem dX12_isLetter_11 : decode cX12_isLetter 11 = .ok (.aload_n 0, 1) := by decide +kernel
theorem dX12_isLetter_12 : decode cX12_isLetter 12 = .ok (.getfield 26, 3) := by decide +kernel
theorem dX12_isLetter_15 : decode cX12_isLetter 15 = .ok (.aload_n 0, 1) := by decide +kernel
theorem dX12_isLetter_16 : decode cX12_isLetter 16 = .ok (.getfield 74, 3) := by decide +kernel
theorem dX12_isLetter_19 : decode cX12_isLetter 19 = .ok (.iaload, 1) := by decide +kernel
theorem dX12_isLetter_20 : decode cX12_isLetter 20 = .ok (.iload_n 1, 1) := by decide +kernel
theorem dX12_isLetter_21 : decode cX12_isLetter 21 = .ok (.if_icmp .ne 7, 3) := by decide +kernel
theorem dX12_isLetter_24 : decode cX12_isLetter 24 = .ok (.iconst 1, 1) := by decide +kernel
theorem dX12_isLetter_25 : decode cX12_isLetter 25 = .ok (.goto 4, 3) := by decide +kernel
theorem dX12_isLetter_28 : decode cX12_isLetter 28 = .ok (.iconst 0, 1) := by decide +kernel
theorem dX12_isLetter_29 : decode cX12_isLetter 29 = .ok (.ireturn, 1) := by decide +kernel
theorem dX12_isFigure_0 : decode cX12_isFigure 0 = .ok (.iload_n 1, 1) := by decide +kernel
theorem dX12_isFigure_1 : decode cX12_isFigure 1 = .ok (.aload_n 0, 1) := by decide +kernel
theorem dX12_isFigure_2 : decode cX12_isFigure 2 = .ok (.getfield 70, 3) := by decide +kernel
theorem dX12_isFigure_5 : decode cX12_isFigure 5 = .ok (.if_icmp .ge 26, 3) := by decide +kernel
theorem dX12_isFigure_8 : decode cX12_isFigure 8 = .ok (.aload_n 0, 1) := by decide +kernel
theorem dX12_isFigure_9 : decode cX12_isFigure 9 = .ok (.getfield 26, 3) := by decide +kernel
theorem dX12_isFigure_12 : decode cX12_isFigure 12 = .ok (.iload_n 1, 1) := by decide +kernel
theorem dX12_isFigure_13 : decode cX12_isFigure 13 = .ok (.iaload, 1) := by decide +kernel
theorem dX12_isFigure_14 : decode cX12_isFigure 14 = .ok (.i2l, 1) := by decide +kernel
theorem dX12_isFigure_15 : decode cX12_isFigure 15 = .ok (.ldc2_w 77, 3) := by decide +kernel
theorem dX12_isFigure_18 : decode cX12_isFigure 18 = .ok (.ldc2_w 79, 3) := by decide +kernel
theorem dX12_isFigure_21 : decode cX12_isFigure 21 = .ok (.invokestatic 42, 3) := by decide +kernel
theorem dX12_isFigure_24 : decode cX12_isFigure 24 = .ok (.ifCond .eq 7, 3) := by decide +kernel
theorem dX12_isFigure_27 : decode cX12_isFigure 27 = .ok (.iconst 1, 1) := by decide +kernel
theorem dX12_isFigure_28 : decode cX12_isFigure 28 = .ok (.goto 4, 3) := by decide +kernel
theorem dX12_isFigure_31 : decode cX12_isFigure 31 = .ok (.iconst 0, 1) := by decide +kernel
theorem dX12_isFigure_32 : decode cX12_isFigure 32 = .ok (.ireturn, 1) := by decide +kernel
theorem dX12_refuse_0 : decode cX12_refuse 0 = .ok (.aload_n 0, 1) := by decide +kernel
theorem dX12_refuse_1 : decode cX12_refuse 1 = .ok (.iload_n 1, 1) := by decide +kernel
theorem dX12_refuse_2 : decode cX12_refuse 2 = .ok (.putfield 81, 3) := by decide +kernel
theorem dX12_refuse_5 : decode cX12_refuse 5 = .ok (.iconst 0, 1) := by decide +kernel
theorem dX12_refuse_6 : decode cX12_refuse 6 = .ok (.ireturn, 1) := by decide +kernel
theorem dX12_sign_0 : decode cX12_sign 0 = .ok (.aload_n 0, 1) := by decide +kernel
theorem dX12_sign_1 : decode cX12_sign 1 = .ok (.iload_n 1, 1) := by decide +kernel
theorem dX12_sign_2 : decode cX12_sign 2 = .ok (.invokevirtual 84, 3) := by decide +kernel
theorem dX12_sign_5 : decode cX12_sign 5 = .ok (.ifCond .ne 9, 3) := by decide +kernel
theorem dX12_sign_8 : decode cX12_sign 8 = .ok (.aload_n 0, 1) := by decide +kernel
theorem dX12_sign_9 : decode cX12_sign 9 = .ok (.iconst 1, 1) := by decide +kernel
theorem dX12_sign_10 : decode cX12_sign 10 = .ok (.invokevirtual 87, 3) := by decide +kernel
theorem dX12_sign_13 : decode cX12_sign 13 = .ok (.ireturn, 1) := by decide +kernel
theorem dX12_sign_14 : decode cX12_sign 14 = .ok (.aload_n 0, 1) := by decide +kernel
theorem dX12_sign_15 : decode cX12_sign 15 = .ok (.dup, 1) := by decide +kernel
theorem dX12_sign_16 : decode cX12_sign 16 = .ok (.getfield 74, 3) := by decide +kernel
theorem dX12_sign_19 : decode cX12_sign 19 = .ok (.iconst 1, 1) := by decide +kernel
theorem dX12_sign_20 : decode cX12_sign 20 = .ok (.iadd, 1) := by decide +kernel
theorem dX12_sign_21 : decode cX12_sign 21 = .ok (.putfield 74, 3) := by decide +kernel
theorem dX12_sign_24 : decode cX12_sign 24 = .ok (.iconst 1, 1) := by decide +kernel
theorem dX12_sign_25 : decode cX12_sign 25 = .ok (.ireturn, 1) := by decide +kernel
theorem dX12_readsNumber_0 : decode cX12_readsNumber 0 = .ok (.aload_n 0, 1) := by decide +kernel
theorem dX12_readsNumber_1 : decode cX12_readsNumber 1 = .ok (.aload_n 0, 1) := by decide +kernel
theorem dX12_readsNumber_2 : decode cX12_readsNumber 2 = .ok (.getfield 74, 3) := by decide +kernel
theorem dX12_readsNumber_5 : decode cX12_readsNumber 5 = .ok (.invokevirtual 90, 3) := by decide +kernel
theorem dX12_readsNumber_8 : decode cX12_readsNumber 8 = .ok (.ifCond .eq 29, 3) := by decide +kernel
theorem dX12_readsNumber_11 : decode cX12_readsNumber 11 = .ok (.aload_n 0, 1) := by decide +kernel
theorem dX12_readsNumber_12 : decode cX12_readsNumber 12 = .ok (.aload_n 0, 1) := by decide +kernel
theorem dX12_readsNumber_13 : decode cX12_readsNumber 13 = .ok (.getfield 74, 3) := by decide +kernel
theorem dX12_readsNumber_16 : decode cX12_readsNumber 16 = .ok (.iconst 1, 1) := by decide +kernel
theorem dX12_readsNumber_17 : decode cX12_readsNumber 17 = .ok (.iadd, 1) := by decide +kernel
theorem dX12_readsNumber_18 : decode cX12_readsNumber 18 = .ok (.invokevirtual 90, 3) := by decide +kernel
theorem dX12_readsNumber_21 : decode cX12_readsNumber 21 = .ok (.ifCond .eq 22, 3) := by decide +kernel
theorem dX12_readsNumber_24 : decode cX12_readsNumber 24 = .ok (.aload_n 0, 1) := by decide +kernel
theorem dX12_readsNumber_25 : decode cX12_readsNumber 25 = .ok (.aload_n 0, 1) := by decide +kernel
theorem dX12_readsNumber_26 : decode cX12_readsNumber 26 = .ok (.getfield 74, 3) := by decide +kernel
theorem dX12_readsNumber_29 : decode cX12_readsNumber 29 = .ok (.iconst 2, 1) := by decide +kernel
theorem dX12_readsNumber_30 : decode cX12_readsNumber 30 = .ok (.iadd, 1) := by decide +kernel
theorem dX12_readsNumber_31 : decode cX12_readsNumber 31 = .ok (.invokevirtual 90, 3) := by decide +kernel
theorem dX12_readsNumber_34 : decode cX12_readsNumber 34 = .ok (.ifCond .eq 9, 3) := by decide +kernel
theorem dX12_readsNumber_37 : decode cX12_readsNumber 37 = .ok (.aload_n 0, 1) := by decide +kernel
theorem dX12_readsNumber_38 : decode cX12_readsNumber 38 = .ok (.iconst 1, 1) := by decide +kernel
theorem dX12_readsNumber_39 : decode cX12_readsNumber 39 = .ok (.invokevirtual 87, 3) := by decide +kernel
theorem dX12_readsNumber_42 : decode cX12_readsNumber 42 = .ok (.ireturn, 1) := by decide +kernel
theorem dX12_readsNumber_43 : decode cX12_readsNumber 43 = .ok (.aload_n 0, 1) := by decide +kernel
theorem dX12_readsNumber_44 : decode cX12_readsNumber 44 = .ok (.aload_n 0, 1) := by decide +kernel
theorem dX12_readsNumber_45 : decode cX12_readsNumber 45 = .ok (.getfield 26, 3) := by decide +kernel
theorem dX12_readsNumber_48 : decode cX12_readsNumber 48 = .ok (.aload_n 0, 1) := by decide +kernel
theorem dX12_readsNumber_49 : decode cX12_readsNumber 49 = .ok (.getfield 74, 3) := by decide +kernel
theorem dX12_readsNumber_52 : decode cX12_readsNumber 52 = .ok (.iaload, 1) := by decide +kernel
theorem dX12_readsNumber_53 : decode cX12_readsNumber 53 = .ok (.bipush 48, 2) := by decide +kernel
theorem dX12_readsNumber_55 : decode cX12_readsNumber 55 = .ok (.isub, 1) := by decide +kernel
theorem dX12_readsNumber_56 : decode cX12_readsNumber 56 = .ok (.putfield 93, 3) := by decide +kernel
theorem dX12_readsNumber_59 : decode cX12_readsNumber 59 = .ok (.aload_n 0, 1) := by decide +kernel
theorem dX12_readsNumber_60 : decode cX12_readsNumber 60 = .ok (.aload_n 0, 1) := by decide +kernel
theorem dX12_readsNumber_61 : decode cX12_readsNumber 61 = .ok (.getfield 74, 3) := by decide +kernel
theorem dX12_readsNumber_64 : decode cX12_readsNumber 64 = .ok (.iconst 1, 1) := by decide +kernel
theorem dX12_readsNumber_65 : decode cX12_readsNumber 65 = .ok (.iadd, 1) := by decide +kernel
theorem dX12_readsNumber_66 : decode cX12_readsNumber 66 = .ok (.invokevirtual 90, 3) := by decide +kernel
theorem dX12_readsNumber_69 : decode cX12_readsNumber 69 = .ok (.ifCond .eq 7, 3) := by decide +kernel
theorem dX12_readsNumber_72 : decode cX12_readsNumber 72 = .ok (.iconst 2, 1) := by decide +kernel
theorem dX12_readsNumber_73 : decode cX12_readsNumber 73 = .ok (.goto 4, 3) := by decide +kernel
theorem dX12_readsNumber_76 : decode cX12_readsNumber 76 = .ok (.iconst 1, 1) := by decide +kernel
theorem dX12_readsNumber_77 : decode cX12_readsNumber 77 = .ok (.istore_n 3, 1) := by decide +kernel
theorem dX12_readsNumber_78 : decode cX12_readsNumber 78 = .ok (.aload_n 0, 1) := by decide +kernel
theorem dX12_readsNumber_79 : decode cX12_readsNumber 79 = .ok (.iload_n 3, 1) := by decide +kernel
theorem dX12_readsNumber_80 : decode cX12_readsNumber 80 = .ok (.iconst 2, 1) := by decide +kernel
theorem dX12_readsNumber_81 : decode cX12_readsNumber 81 = .ok (.if_icmp .ne 28, 3) := by decide +kernel
theorem dX12_readsNumber_84 : decode cX12_readsNumber 84 = .ok (.bipush 10, 2) := by decide +kernel
theorem dX12_readsNumber_86 : decode cX12_readsNumber 86 = .ok (.aload_n 0, 1) := by decide +kernel
theorem dX12_readsNumber_87 : decode cX12_readsNumber 87 = .ok (.getfield 93, 3) := by decide +kernel
theorem dX12_readsNumber_90 : decode cX12_readsNumber 90 = .ok (.imul, 1) := by decide +kernel
theorem dX12_readsNumber_91 : decode cX12_readsNumber 91 = .ok (.aload_n 0, 1) := by decide +kernel
theorem dX12_readsNumber_92 : decode cX12_readsNumber 92 = .ok (.getfield 26, 3) := by decide +kernel
theorem dX12_readsNumber_95 : decode cX12_readsNumber 95 = .ok (.aload_n 0, 1) := by decide +kernel
theorem dX12_readsNumber_96 : decode cX12_readsNumber 96 = .ok (.getfield 74, 3) := by decide +kernel
theorem dX12_readsNumber_99 : decode cX12_readsNumber 99 = .ok (.iconst 1, 1) := by decide +kernel
theorem dX12_readsNumber_100 : decode cX12_readsNumber 100 = .ok (.iadd, 1) := by decide +kernel
theorem dX12_readsNumber_101 : decode cX12_readsNumber 101 = .ok (.iaload, 1) := by decide +kernel
theorem dX12_readsNumber_102 : decode cX12_readsNumber 102 = .ok (.iadd, 1) := by decide +kernel
theorem dX12_readsNumber_103 : decode cX12_readsNumber 103 = .ok (.bipush 48, 2) := by decide +kernel
theorem dX12_readsNumber_105 : decode cX12_readsNumber 105 = .ok (.isub, 1) := by decide +kernel
theorem dX12_readsNumber_106 : decode cX12_readsNumber 106 = .ok (.goto 7, 3) := by decide +kernel
theorem dX12_readsNumber_109 : decode cX12_readsNumber 109 = .ok (.aload_n 0, 1) := by decide +kernel
theorem dX12_readsNumber_110 : decode cX12_readsNumber 110 = .ok (.getfield 93, 3) := by decide +kernel
theorem dX12_readsNumber_113 : decode cX12_readsNumber 113 = .ok (.putfield 93, 3) := by decide +kernel
theorem dX12_readsNumber_116 : decode cX12_readsNumber 116 = .ok (.aload_n 0, 1) := by decide +kernel
theorem dX12_readsNumber_117 : decode cX12_readsNumber 117 = .ok (.getfield 93, 3) := by decide +kernel
theorem dX12_readsNumber_120 : decode cX12_readsNumber 120 = .ok (.i2l, 1) := by decide +kernel
theorem dX12_readsNumber_121 : decode cX12_readsNumber 121 = .ok (.iload_n 1, 1) := by decide +kernel
theorem dX12_readsNumber_122 : decode cX12_readsNumber 122 = .ok (.i2l, 1) := by decide +kernel
theorem dX12_readsNumber_123 : decode cX12_readsNumber 123 = .ok (.iload_n 2, 1) := by decide +kernel
theorem dX12_readsNumber_124 : decode cX12_readsNumber 124 = .ok (.i2l, 1) := by decide +kernel
theorem dX12_readsNumber_125 : decode cX12_readsNumber 125 = .ok (.invokestatic 42, 3) := by decide +kernel
theorem dX12_readsNumber_128 : decode cX12_readsNumber 128 = .ok (.ifCond .ne 9, 3) := by decide +kernel
theorem dX12_readsNumber_131 : decode cX12_readsNumber 131 = .ok (.aload_n 0, 1) := by decide +kernel
theorem dX12_readsNumber_132 : decode cX12_readsNumber 132 = .ok (.iconst 2, 1) := by decide +kernel
theorem dX12_readsNumber_133 : decode cX12_readsNumber 133 = .ok (.invokevirtual 87, 3) := by decide +kernel
theorem dX12_readsNumber_136 : decode cX12_readsNumber 136 = .ok (.ireturn, 1) := by decide +kernel
theorem dX12_readsNumber_137 : decode cX12_readsNumber 137 = .ok (.aload_n 0, 1) := by decide +kernel
theorem dX12_readsNumber_138 : decode cX12_readsNumber 138 = .ok (.dup, 1) := by decide +kernel
theorem dX12_readsNumber_139 : decode cX12_readsNumber 139 = .ok (.getfield 74, 3) := by decide +kernel
theorem dX12_readsNumber_142 : decode cX12_readsNumber 142 = .ok (.iload_n 3, 1) := by decide +kernel
theorem dX12_readsNumber_143 : decode cX12_readsNumber 143 = .ok (.iadd, 1) := by decide +kernel
theorem dX12_readsNumber_144 : decode cX12_readsNumber 144 = .ok (.putfield 74, 3) := by decide +kernel
theorem dX12_readsNumber_147 : decode cX12_readsNumber 147 = .ok (.iconst 1, 1) := by decide +kernel
theorem dX12_readsNumber_148 : decode cX12_readsNumber 148 = .ok (.ireturn, 1) := by decide +kernel
theorem dX12_readsWheel_0 : decode cX12_readsWheel 0 = .ok (.aload_n 0, 1) := by decide +kernel
theorem dX12_readsWheel_1 : decode cX12_readsWheel 1 = .ok (.iload_n 1, 1) := by decide +kernel
theorem dX12_readsWheel_2 : decode cX12_readsWheel 2 = .ok (.invokevirtual 96, 3) := by decide +kernel
theorem dX12_readsWheel_5 : decode cX12_readsWheel 5 = .ok (.ifCond .ne 6, 3) := by decide +kernel
theorem dX12_readsWheel_8 : decode cX12_readsWheel 8 = .ok (.ldc 99, 2) := by decide +kernel
theorem dX12_readsWheel_10 : decode cX12_readsWheel 10 = .ok (.ireturn, 1) := by decide +kernel
theorem dX12_readsWheel_11 : decode cX12_readsWheel 11 = .ok (.iconst 0, 1) := by decide +kernel
theorem dX12_readsWheel_12 : decode cX12_readsWheel 12 = .ok (.istore_n 3, 1) := by decide +kernel
theorem dX12_readsWheel_13 : decode cX12_readsWheel 13 = .ok (.aload_n 0, 1) := by decide +kernel
theorem dX12_readsWheel_14 : decode cX12_readsWheel 14 = .ok (.getfield 74, 3) := by decide +kernel
theorem dX12_readsWheel_17 : decode cX12_readsWheel 17 = .ok (.aload_n 0, 1) := by decide +kernel
theorem dX12_readsWheel_18 : decode cX12_readsWheel 18 = .ok (.getfield 70, 3) := by decide +kernel
theorem dX12_readsWheel_21 : decode cX12_readsWheel 21 = .ok (.if_icmp .ge 100, 3) := by decide +kernel
theorem dX12_readsWheel_24 : decode cX12_readsWheel 24 = .ok (.iload_n 3, 1) := by decide +kernel
theorem dX12_readsWheel_25 : decode cX12_readsWheel 25 = .ok (.bipush 8, 2) := by decide +kernel
theorem dX12_readsWheel_27 : decode cX12_readsWheel 27 = .ok (.if_icmp .ge 94, 3) := by decide +kernel
theorem dX12_readsWheel_30 : decode cX12_readsWheel 30 = .ok (.aload_n 0, 1) := by decide +kernel
theorem dX12_readsWheel_31 : decode cX12_readsWheel 31 = .ok (.getfield 26, 3) := by decide +kernel
theorem dX12_readsWheel_34 : decode cX12_readsWheel 34 = .ok (.aload_n 0, 1) := by decide +kernel
theorem dX12_readsWheel_35 : decode cX12_readsWheel 35 = .ok (.getfield 74, 3) := by decide +kernel
theorem dX12_readsWheel_38 : decode cX12_readsWheel 38 = .ok (.iaload, 1) := by decide +kernel
theorem dX12_readsWheel_39 : decode cX12_readsWheel 39 = .ok (.i2l, 1) := by decide +kernel
theorem dX12_readsWheel_40 : decode cX12_readsWheel 40 = .ok (.ldc2_w 100, 3) := by decide +kernel
theorem dX12_readsWheel_43 : decode cX12_readsWheel 43 = .ok (.ldc2_w 102, 3) := by decide +kernel
theorem dX12_readsWheel_46 : decode cX12_readsWheel 46 = .ok (.invokestatic 42, 3) := by decide +kernel
theorem dX12_readsWheel_49 : decode cX12_readsWheel 49 = .ok (.ifCond .ne 17, 3) := by decide +kernel
theorem dX12_readsWheel_52 : decode cX12_readsWheel 52 = .ok (.aload_n 0, 1) := by decide +kernel
theorem dX12_readsWheel_53 : decode cX12_readsWheel 53 = .ok (.getfield 26, 3) := by decide +kernel
theorem dX12_readsWheel_56 : decode cX12_readsWheel 56 = .ok (.aload_n 0, 1) := by decide +kernel
theorem dX12_readsWheel_57 : decode cX12_readsWheel 57 = .ok (.getfield 74, 3) := by decide +kernel
theorem dX12_readsWheel_60 : decode cX12_readsWheel 60 = .ok (.iaload, 1) := by decide +kernel
theorem dX12_readsWheel_61 : decode cX12_readsWheel 61 = .ok (.bipush 122, 2) := by decide +kernel
theorem dX12_readsWheel_63 : decode cX12_readsWheel 63 = .ok (.if_icmp .ne 58, 3) := by decide +kernel
theorem dX12_readsWheel_66 : decode cX12_readsWheel 66 = .ok (.aload_n 0, 1) := by decide +kernel
theorem dX12_readsWheel_67 : decode cX12_readsWheel 67 = .ok (.getfield 7, 3) := by decide +kernel
theorem dX12_readsWheel_70 : decode cX12_readsWheel 70 = .ok (.iload_n 2, 1) := by decide +kernel
theorem dX12_readsWheel_71 : decode cX12_readsWheel 71 = .ok (.iload_n 3, 1) := by decide +kernel
theorem dX12_readsWheel_72 : decode cX12_readsWheel 72 = .ok (.iadd, 1) := by decide +kernel
theorem dX12_readsWheel_73 : decode cX12_readsWheel 73 = .ok (.aload_n 0, 1) := by decide +kernel
theorem dX12_readsWheel_74 : decode cX12_readsWheel 74 = .ok (.getfield 26, 3) := by decide +kernel
theorem dX12_readsWheel_77 : decode cX12_readsWheel 77 = .ok (.aload_n 0, 1) := by decide +kernel
theorem dX12_readsWheel_78 : decode cX12_readsWheel 78 = .ok (.getfield 74, 3) := by decide +kernel
theorem dX12_readsWheel_81 : decode cX12_readsWheel 81 = .ok (.iaload, 1) := by decide +kernel
theorem dX12_readsWheel_82 : decode cX12_readsWheel 82 = .ok (.bipush 122, 2) := by decide +kernel
theorem dX12_readsWheel_84 : decode cX12_readsWheel 84 = .ok (.if_icmp .ne 8, 3) := by decide +kernel
theorem dX12_readsWheel_87 : decode cX12_readsWheel 87 = .ok (.bipush 6, 2) := by decide +kernel
theorem dX12_readsWheel_89 : decode cX12_readsWheel 89 = .ok (.goto 15, 3) := by decide +kernel
theorem dX12_readsWheel_92 : decode cX12_readsWheel 92 = .ok (.aload_n 0, 1) := by decide +kernel
theorem dX12_readsWheel_93 : decode cX12_readsWheel 93 = .ok (.getfield 26, 3) := by decide +kernel
theorem dX12_readsWheel_96 : decode cX12_readsWheel 96 = .ok (.aload_n 0, 1) := by decide +kernel
theorem dX12_readsWheel_97 : decode cX12_readsWheel 97 = .ok (.getfield 74, 3) := by decide +kernel
theorem dX12_readsWheel_100 : decode cX12_readsWheel 100 = .ok (.iaload, 1) := by decide +kernel
theorem dX12_readsWheel_101 : decode cX12_readsWheel 101 = .ok (.bipush 97, 2) := by decide +kernel
theorem dX12_readsWheel_103 : decode cX12_readsWheel 103 = .ok (.isub, 1) := by decide +kernel
theorem dX12_readsWheel_104 : decode cX12_readsWheel 104 = .ok (.iastore, 1) := by decide +kernel
theorem dX12_readsWheel_105 : decode cX12_readsWheel 105 = .ok (.iinc 3 1, 3) := by decide +kernel
theorem dX12_readsWheel_108 : decode cX12_readsWheel 108 = .ok (.aload_n 0, 1) := by decide +kernel
theorem dX12_readsWheel_109 : decode cX12_readsWheel 109 = .ok (.dup, 1) := by decide +kernel
theorem dX12_readsWheel_110 : decode cX12_readsWheel 110 = .ok (.getfield 74, 3) := by decide +kernel
theorem dX12_readsWheel_113 : decode cX12_readsWheel 113 = .ok (.iconst 1, 1) := by decide +kernel
theorem dX12_readsWheel_114 : decode cX12_readsWheel 114 = .ok (.iadd, 1) := by decide +kernel
theorem dX12_readsWheel_115 : decode cX12_readsWheel 115 = .ok (.putfield 74, 3) := by decide +kernel
theorem dX12_readsWheel_118 : decode cX12_readsWheel 118 = .ok (.goto (-105), 3) := by decide +kernel
theorem dX12_readsWheel_121 : decode cX12_readsWheel 121 = .ok (.iload_n 3, 1) := by decide +kernel
theorem dX12_readsWheel_122 : decode cX12_readsWheel 122 = .ok (.ifCond .ne 11, 3) := by decide +kernel
theorem dX12_readsWheel_125 : decode cX12_readsWheel 125 = .ok (.aload_n 0, 1) := by decide +kernel
theorem dX12_readsWheel_126 : decode cX12_readsWheel 126 = .ok (.iconst 1, 1) := by decide +kernel
theorem dX12_readsWheel_127 : decode cX12_readsWheel 127 = .ok (.putfield 81, 3) := by decide +kernel
theorem dX12_readsWheel_130 : decode cX12_readsWheel 130 = .ok (.ldc 99, 2) := by decide +kernel
theorem dX12_readsWheel_132 : decode cX12_readsWheel 132 = .ok (.ireturn, 1) := by decide +kernel
theorem dX12_readsWheel_133 : decode cX12_readsWheel 133 = .ok (.aload_n 0, 1) := by decide +kernel
theorem dX12_readsWheel_134 : decode cX12_readsWheel 134 = .ok (.bipush 59, 2) := by decide +kernel
theorem dX12_readsWheel_136 : decode cX12_readsWheel 136 = .ok (.invokevirtual 96, 3) := by decide +kernel
theorem dX12_readsWheel_139 : decode cX12_readsWheel 139 = .ok (.ifCond .eq 7, 3) := by decide +kernel
theorem dX12_readsWheel_142 : decode cX12_readsWheel 142 = .ok (.iload_n 3, 1) := by decide +kernel
theorem dX12_readsWheel_143 : decode cX12_readsWheel 143 = .ok (.goto 5, 3) := by decide +kernel
theorem dX12_readsWheel_146 : decode cX12_readsWheel 146 = .ok (.ldc 99, 2) := by decide +kernel
theorem dX12_readsWheel_148 : decode cX12_readsWheel 148 = .ok (.ireturn, 1) := by decide +kernel
theorem dX12_kindOfLetter_0 : decode cX12_kindOfLetter 0 = .ok (.iload_n 0, 1) := by decide +kernel
theorem dX12_kindOfLetter_1 : decode cX12_kindOfLetter 1 = .ok (.bipush 111, 2) := by decide +kernel
theorem dX12_kindOfLetter_3 : decode cX12_kindOfLetter 3 = .ok (.if_icmp .ne 7, 3) := by decide +kernel
theorem dX12_kindOfLetter_6 : decode cX12_kindOfLetter 6 = .ok (.iconst 1, 1) := by decide +kernel
theorem dX12_kindOfLetter_7 : decode cX12_kindOfLetter 7 = .ok (.goto 44, 3) := by decide +kernel
theorem dX12_kindOfLetter_10 : decode cX12_kindOfLetter 10 = .ok (.iload_n 0, 1) := by decide +kernel
theorem dX12_kindOfLetter_11 : decode cX12_kindOfLetter 11 = .ok (.bipush 115, 2) := by decide +kernel
theorem dX12_kindOfLetter_13 : decode cX12_kindOfLetter 13 = .ok (.if_icmp .ne 7, 3) := by decide +kernel
theorem dX12_kindOfLetter_16 : decode cX12_kindOfLetter 16 = .ok (.iconst 2, 1) := by decide +kernel
theorem dX12_kindOfLetter_17 : decode cX12_kindOfLetter 17 = .ok (.goto 34, 3) := by decide +kernel
theorem dX12_kindOfLetter_20 : decode cX12_kindOfLetter 20 = .ok (.iload_n 0, 1) := by decide +kernel
theorem dX12_kindOfLetter_21 : decode cX12_kindOfLetter 21 = .ok (.bipush 98, 2) := by decide +kernel
theorem dX12_kindOfLetter_23 : decode cX12_kindOfLetter 23 = .ok (.if_icmp .ne 7, 3) := by decide +kernel
theorem dX12_kindOfLetter_26 : decode cX12_kindOfLetter 26 = .ok (.iconst 3, 1) := by decide +kernel
theorem dX12_kindOfLetter_27 : decode cX12_kindOfLetter 27 = .ok (.goto 24, 3) := by decide +kernel
theorem dX12_kindOfLetter_30 : decode cX12_kindOfLetter 30 = .ok (.iload_n 0, 1) := by decide +kernel
theorem dX12_kindOfLetter_31 : decode cX12_kindOfLetter 31 = .ok (.bipush 108, 2) := by decide +kernel
theorem dX12_kindOfLetter_33 : decode cX12_kindOfLetter 33 = .ok (.if_icmp .ne 7, 3) := by decide +kernel
theorem dX12_kindOfLetter_36 : decode cX12_kindOfLetter 36 = .ok (.iconst 4, 1) := by decide +kernel
theorem dX12_kindOfLetter_37 : decode cX12_kindOfLetter 37 = .ok (.goto 14, 3) := by decide +kernel
theorem dX12_kindOfLetter_40 : decode cX12_kindOfLetter 40 = .ok (.iload_n 0, 1) := by decide +kernel
theorem dX12_kindOfLetter_41 : decode cX12_kindOfLetter 41 = .ok (.bipush 114, 2) := by decide +kernel
theorem dX12_kindOfLetter_43 : decode cX12_kindOfLetter 43 = .ok (.if_icmp .ne 7, 3) := by decide +kernel
theorem dX12_kindOfLetter_46 : decode cX12_kindOfLetter 46 = .ok (.iconst 5, 1) := by decide +kernel
theorem dX12_kindOfLetter_47 : decode cX12_kindOfLetter 47 = .ok (.goto 4, 3) := by decide +kernel
theorem dX12_kindOfLetter_50 : decode cX12_kindOfLetter 50 = .ok (.iconst 0, 1) := by decide +kernel
theorem dX12_kindOfLetter_51 : decode cX12_kindOfLetter 51 = .ok (.ireturn, 1) := by decide +kernel
theorem dX12_readsTurner_0 : decode cX12_readsTurner 0 = .ok (.aload_n 0, 1) := by decide +kernel
theorem dX12_readsTurner_1 : decode cX12_readsTurner 1 = .ok (.getfield 7, 3) := by decide +kernel
theorem dX12_readsTurner_4 : decode cX12_readsTurner 4 = .ok (.sipush 1784, 3) := by decide +kernel
theorem dX12_readsTurner_7 : decode cX12_readsTurner 7 = .ok (.iaload, 1) := by decide +kernel
theorem dX12_readsTurner_8 : decode cX12_readsTurner 8 = .ok (.istore_n 1, 1) := by decide +kernel
theorem dX12_readsTurner_9 : decode cX12_readsTurner 9 = .ok (.iload_n 1, 1) := by decide +kernel
theorem dX12_readsTurner_10 : decode cX12_readsTurner 10 = .ok (.iconst 4, 1) := by decide +kernel
theorem dX12_readsTurner_11 : decode cX12_readsTurner 11 = .ok (.if_icmp .ne 9, 3) := by decide +kernel
theorem dX12_readsTurner_14 : decode cX12_readsTurner 14 = .ok (.aload_n 0, 1) := by decide +kernel
theorem dX12_readsTurner_15 : decode cX12_readsTurner 15 = .ok (.iconst 3, 1) := by decide +kernel
theorem dX12_readsTurner_16 : decode cX12_readsTurner 16 = .ok (.invokevirtual 87, 3) := by decide +kernel
theorem dX12_readsTurner_19 : decode cX12_readsTurner 19 = .ok (.ireturn, 1) := by decide +kernel
theorem dX12_readsTurner_20 : decode cX12_readsTurner 20 = .ok (.aload_n 0, 1) := by decide +kernel
theorem dX12_readsTurner_21 : decode cX12_readsTurner 21 = .ok (.getfield 7, 3) := by decide +kernel
theorem dX12_readsTurner_24 : decode cX12_readsTurner 24 = .ok (.sipush 1804, 3) := by decide +kernel
theorem dX12_readsTurner_27 : decode cX12_readsTurner 27 = .ok (.iload_n 1, 1) := by decide +kernel
theorem dX12_readsTurner_28 : decode cX12_readsTurner 28 = .ok (.iadd, 1) := by decide +kernel
theorem dX12_readsTurner_29 : decode cX12_readsTurner 29 = .ok (.aload_n 0, 1) := by decide +kernel
theorem dX12_readsTurner_30 : decode cX12_readsTurner 30 = .ok (.getfield 26, 3) := by decide +kernel
theorem dX12_readsTurner_33 : decode cX12_readsTurner 33 = .ok (.aload_n 0, 1) := by decide +kernel
theorem dX12_readsTurner_34 : decode cX12_readsTurner 34 = .ok (.getfield 74, 3) := by decide +kernel
theorem dX12_readsTurner_37 : decode cX12_readsTurner 37 = .ok (.iaload, 1) := by decide +kernel
theorem dX12_readsTurner_38 : decode cX12_readsTurner 38 = .ok (.invokestatic 104, 3) := by decide +kernel
theorem dX12_readsTurner_41 : decode cX12_readsTurner 41 = .ok (.iastore, 1) := by decide +kernel
theorem dX12_readsTurner_42 : decode cX12_readsTurner 42 = .ok (.aload_n 0, 1) := by decide +kernel
theorem dX12_readsTurner_43 : decode cX12_readsTurner 43 = .ok (.dup, 1) := by decide +kernel
theorem dX12_readsTurner_44 : decode cX12_readsTurner 44 = .ok (.getfield 74, 3) := by decide +kernel
theorem dX12_readsTurner_47 : decode cX12_readsTurner 47 = .ok (.iconst 1, 1) := by decide +kernel
theorem dX12_readsTurner_48 : decode cX12_readsTurner 48 = .ok (.iadd, 1) := by decide +kernel
theorem dX12_readsTurner_49 : decode cX12_readsTurner 49 = .ok (.putfield 74, 3) := by decide +kernel
theorem dX12_readsTurner_52 : decode cX12_readsTurner 52 = .ok (.aload_n 0, 1) := by decide +kernel
theorem dX12_readsTurner_53 : decode cX12_readsTurner 53 = .ok (.iconst 0, 1) := by decide +kernel
theorem dX12_readsTurner_54 : decode cX12_readsTurner 54 = .ok (.bipush 9, 2) := by decide +kernel
theorem dX12_readsTurner_56 : decode cX12_readsTurner 56 = .ok (.invokevirtual 107, 3) := by decide +kernel
theorem dX12_readsTurner_59 : decode cX12_readsTurner 59 = .ok (.ifCond .ne 5, 3) := by decide +kernel
theorem dX12_readsTurner_62 : decode cX12_readsTurner 62 = .ok (.iconst 0, 1) := by decide +kernel
theorem dX12_readsTurner_63 : decode cX12_readsTurner 63 = .ok (.ireturn, 1) := by decide +kernel
theorem dX12_readsTurner_64 : decode cX12_readsTurner 64 = .ok (.aload_n 0, 1) := by decide +kernel
theorem dX12_readsTurner_65 : decode cX12_readsTurner 65 = .ok (.getfield 7, 3) := by decide +kernel
theorem dX12_readsTurner_68 : decode cX12_readsTurner 68 = .ok (.sipush 1808, 3) := by decide +kernel
theorem dX12_readsTurner_71 : decode cX12_readsTurner 71 = .ok (.iload_n 1, 1) := by decide +kernel
theorem dX12_readsTurner_72 : decode cX12_readsTurner 72 = .ok (.iadd, 1) := by decide +kernel
theorem dX12_readsTurner_73 : decode cX12_readsTurner 73 = .ok (.aload_n 0, 1) := by decide +kernel
theorem dX12_readsTurner_74 : decode cX12_readsTurner 74 = .ok (.getfield 93, 3) := by decide +kernel
theorem dX12_readsTurner_77 : decode cX12_readsTurner 77 = .ok (.iastore, 1) := by decide +kernel
theorem dX12_readsTurner_78 : decode cX12_readsTurner 78 = .ok (.aload_n 0, 1) := by decide +kernel
theorem dX12_readsTurner_79 : decode cX12_readsTurner 79 = .ok (.getfield 7, 3) := by decide +kernel
theorem dX12_readsTurner_82 : decode cX12_readsTurner 82 = .ok (.sipush 1784, 3) := by decide +kernel
theorem dX12_readsTurner_85 : decode cX12_readsTurner 85 = .ok (.dup2, 1) := by decide +kernel
theorem dX12_readsTurner_86 : decode cX12_readsTurner 86 = .ok (.iaload, 1) := by decide +kernel
theorem dX12_readsTurner_87 : decode cX12_readsTurner 87 = .ok (.iconst 1, 1) := by decide +kernel
theorem dX12_readsTurner_88 : decode cX12_readsTurner 88 = .ok (.iadd, 1) := by decide +kernel
theorem dX12_readsTurner_89 : decode cX12_readsTurner 89 = .ok (.iastore, 1) := by decide +kernel
theorem dX12_readsTurner_90 : decode cX12_readsTurner 90 = .ok (.aload_n 0, 1) := by decide +kernel
theorem dX12_readsTurner_91 : decode cX12_readsTurner 91 = .ok (.bipush 59, 2) := by decide +kernel
theorem dX12_readsTurner_93 : decode cX12_readsTurner 93 = .ok (.invokevirtual 96, 3) := by decide +kernel
theorem dX12_readsTurner_96 : decode cX12_readsTurner 96 = .ok (.ireturn, 1) := by decide +kernel
theorem dX12_isSort_0 : decode cX12_isSort 0 = .ok (.aload_n 0, 1) := by decide +kernel
theorem dX12_isSort_1 : decode cX12_isSort 1 = .ok (.getfield 74, 3) := by decide +kernel
theorem dX12_isSort_4 : decode cX12_isSort 4 = .ok (.aload_n 0, 1) := by decide +kernel
theorem dX12_isSort_5 : decode cX12_isSort 5 = .ok (.getfield 70, 3) := by decide +kernel
theorem dX12_isSort_8 : decode cX12_isSort 8 = .ok (.if_icmp .ge 22, 3) := by decide +kernel
theorem dX12_isSort_11 : decode cX12_isSort 11 = .ok (.aload_n 0, 1) := by decide +kernel
theorem dX12_isSort_12 : decode cX12_isSort 12 = .ok (.getfield 26, 3) := by decide +kernel
theorem dX12_isSort_15 : decode cX12_isSort 15 = .ok (.aload_n 0, 1) := by decide +kernel
theorem dX12_isSort_16 : decode cX12_isSort 16 = .ok (.getfield 74, 3) := by decide +kernel
theorem dX12_isSort_19 : decode cX12_isSort 19 = .ok (.iaload, 1) := by decide +kernel
theorem dX12_isSort_20 : decode cX12_isSort 20 = .ok (.invokestatic 104, 3) := by decide +kernel
theorem dX12_isSort_23 : decode cX12_isSort 23 = .ok (.ifCond .le 7, 3) := by decide +kernel
theorem dX12_isSort_26 : decode cX12_isSort 26 = .ok (.iconst 1, 1) := by decide +kernel
theorem dX12_isSort_27 : decode cX12_isSort 27 = .ok (.goto 4, 3) := by decide +kernel
theorem dX12_isSort_30 : decode cX12_isSort 30 = .ok (.iconst 0, 1) := by decide +kernel
theorem dX12_isSort_31 : decode cX12_isSort 31 = .ok (.ireturn, 1) := by decide +kernel
theorem dX12_reads_0 : decode cX12_reads 0 = .ok (.iconst 0, 1) := by decide +kernel
theorem dX12_reads_1 : decode cX12_reads 1 = .ok (.istore_n 1, 1) := by decide +kernel
theorem dX12_reads_2 : decode cX12_reads 2 = .ok (.iload_n 1, 1) := by decide +kernel
theorem dX12_reads_3 : decode cX12_reads 3 = .ok (.bipush 66, 2) := by decide +kernel
theorem dX12_reads_5 : decode cX12_reads 5 = .ok (.if_icmp .ge 20, 3) := by decide +kernel
theorem dX12_reads_8 : decode cX12_reads 8 = .ok (.aload_n 0, 1) := by decide +kernel
theorem dX12_reads_9 : decode cX12_reads 9 = .ok (.getfield 7, 3) := by decide +kernel
theorem dX12_reads_12 : decode cX12_reads 12 = .ok (.sipush 1782, 3) := by decide +kernel
theorem dX12_reads_15 : decode cX12_reads 15 = .ok (.iload_n 1, 1) := by decide +kernel
theorem dX12_reads_16 : decode cX12_reads 16 = .ok (.iadd, 1) := by decide +kernel
theorem dX12_reads_17 : decode cX12_reads 17 = .ok (.iconst 0, 1) := by decide +kernel
theorem dX12_reads_18 : decode cX12_reads 18 = .ok (.iastore, 1) := by decide +kernel
theorem dX12_reads_19 : decode cX12_reads 19 = .ok (.iinc 1 1, 3) := by decide +kernel
theorem dX12_reads_22 : decode cX12_reads 22 = .ok (.goto (-20), 3) := by decide +kernel
theorem dX12_reads_25 : decode cX12_reads 25 = .ok (.aload_n 0, 1) := by decide +kernel
theorem dX12_reads_26 : decode cX12_reads 26 = .ok (.iconst 0, 1) := by decide +kernel
theorem dX12_reads_27 : decode cX12_reads 27 = .ok (.putfield 74, 3) := by decide +kernel
theorem dX12_reads_30 : decode cX12_reads 30 = .ok (.aload_n 0, 1) := by decide +kernel
theorem dX12_reads_31 : decode cX12_reads 31 = .ok (.getfield 7, 3) := by decide +kernel
theorem dX12_reads_34 : decode cX12_reads 34 = .ok (.sipush 1782, 3) := by decide +kernel
theorem dX12_reads_37 : decode cX12_reads 37 = .ok (.aload_n 0, 1) := by decide +kernel
theorem dX12_reads_38 : decode cX12_reads 38 = .ok (.bipush 110, 2) := by decide +kernel
theorem dX12_reads_40 : decode cX12_reads 40 = .ok (.sipush 1788, 3) := by decide +kernel
theorem dX12_reads_43 : decode cX12_reads 43 = .ok (.invokevirtual 111, 3) := by decide +kernel
theorem dX12_reads_46 : decode cX12_reads 46 = .ok (.iastore, 1) := by decide +kernel
theorem dX12_reads_47 : decode cX12_reads 47 = .ok (.aload_n 0, 1) := by decide +kernel
theorem dX12_reads_48 : decode cX12_reads 48 = .ok (.getfield 7, 3) := by decide +kernel
theorem dX12_reads_51 : decode cX12_reads 51 = .ok (.sipush 1783, 3) := by decide +kernel
theorem dX12_reads_54 : decode cX12_reads 54 = .ok (.aload_n 0, 1) := by decide +kernel
theorem dX12_reads_55 : decode cX12_reads 55 = .ok (.getfield 7, 3) := by decide +kernel
theorem dX12_reads_58 : decode cX12_reads 58 = .ok (.sipush 1782, 3) := by decide +kernel
theorem dX12_reads_61 : decode cX12_reads 61 = .ok (.iaload, 1) := by decide +kernel
theorem dX12_reads_62 : decode cX12_reads 62 = .ok (.ldc 99, 2) := by decide +kernel
theorem dX12_reads_64 : decode cX12_reads 64 = .ok (.if_icmp .ne 8, 3) := by decide +kernel
theorem dX12_reads_67 : decode cX12_reads 67 = .ok (.ldc 99, 2) := by decide +kernel
theorem dX12_reads_69 : decode cX12_reads 69 = .ok (.goto 12, 3) := by decide +kernel
theorem dX12_reads_72 : decode cX12_reads 72 = .ok (.aload_n 0, 1) := by decide +kernel
theorem dX12_reads_73 : decode cX12_reads 73 = .ok (.bipush 106, 2) := by decide +kernel
theorem dX12_reads_75 : decode cX12_reads 75 = .ok (.sipush 1796, 3) := by decide +kernel
theorem dX12_reads_78 : decode cX12_reads 78 = .ok (.invokevirtual 111, 3) := by decide +kernel
theorem dX12_reads_81 : decode cX12_reads 81 = .ok (.iastore, 1) := by decide +kernel
theorem dX12_reads_82 : decode cX12_reads 82 = .ok (.aload_n 0, 1) := by decide +kernel
theorem dX12_reads_83 : decode cX12_reads 83 = .ok (.getfield 7, 3) := by decide +kernel
theorem dX12_reads_86 : decode cX12_reads 86 = .ok (.sipush 1783, 3) := by decide +kernel
theorem dX12_reads_89 : decode cX12_reads 89 = .ok (.iaload, 1) := by decide +kernel
theorem dX12_reads_90 : decode cX12_reads 90 = .ok (.ldc 99, 2) := by decide +kernel
theorem dX12_reads_92 : decode cX12_reads 92 = .ok (.if_icmp .ne 5, 3) := by decide +kernel
theorem dX12_reads_95 : decode cX12_reads 95 = .ok (.iconst 0, 1) := by decide +kernel
theorem dX12_reads_96 : decode cX12_reads 96 = .ok (.ireturn, 1) := by decide +kernel
theorem dX12_reads_97 : decode cX12_reads 97 = .ok (.aload_n 0, 1) := by decide +kernel
theorem dX12_reads_98 : decode cX12_reads 98 = .ok (.invokevirtual 114, 3) := by decide +kernel
theorem dX12_reads_101 : decode cX12_reads 101 = .ok (.ifCond .ne 9, 3) := by decide +kernel
theorem dX12_reads_104 : decode cX12_reads 104 = .ok (.aload_n 0, 1) := by decide +kernel
theorem dX12_reads_105 : decode cX12_reads 105 = .ok (.iconst 1, 1) := by decide +kernel
theorem dX12_reads_106 : decode cX12_reads 106 = .ok (.invokevirtual 87, 3) := by decide +kernel
theorem dX12_reads_109 : decode cX12_reads 109 = .ok (.ireturn, 1) := by decide +kernel
theorem dX12_reads_110 : decode cX12_reads 110 = .ok (.iconst 1, 1) := by decide +kernel
theorem dX12_reads_111 : decode cX12_reads 111 = .ok (.istore_n 1, 1) := by decide +kernel
theorem dX12_reads_112 : decode cX12_reads 112 = .ok (.iload_n 1, 1) := by decide +kernel
theorem dX12_reads_113 : decode cX12_reads 113 = .ok (.ifCond .eq 18, 3) := by decide +kernel
theorem dX12_reads_116 : decode cX12_reads 116 = .ok (.aload_n 0, 1) := by decide +kernel
theorem dX12_reads_117 : decode cX12_reads 117 = .ok (.invokevirtual 114, 3) := by decide +kernel
theorem dX12_reads_120 : decode cX12_reads 120 = .ok (.ifCond .eq 11, 3) := by decide +kernel
theorem dX12_reads_123 : decode cX12_reads 123 = .ok (.aload_n 0, 1) := by decide +kernel
theorem dX12_reads_124 : decode cX12_reads 124 = .ok (.invokevirtual 118, 3) := by decide +kernel
theorem dX12_reads_127 : decode cX12_reads 127 = .ok (.istore_n 1, 1) := by decide +kernel
theorem dX12_reads_128 : decode cX12_reads 128 = .ok (.goto (-16), 3) := by decide +kernel
theorem dX12_reads_131 : decode cX12_reads 131 = .ok (.iload_n 1, 1) := by decide +kernel
theorem dX12_reads_132 : decode cX12_reads 132 = .ok (.ifCond .eq 26, 3) := by decide +kernel
theorem dX12_reads_135 : decode cX12_reads 135 = .ok (.aload_n 0, 1) := by decide +kernel
theorem dX12_reads_136 : decode cX12_reads 136 = .ok (.getfield 74, 3) := by decide +kernel
theorem dX12_reads_139 : decode cX12_reads 139 = .ok (.aload_n 0, 1) := by decide +kernel
theorem dX12_reads_140 : decode cX12_reads 140 = .ok (.getfield 70, 3) := by decide +kernel
theorem dX12_reads_143 : decode cX12_reads 143 = .ok (.if_icmp .eq 11, 3) := by decide +kernel
theorem dX12_reads_146 : decode cX12_reads 146 = .ok (.aload_n 0, 1) := by decide +kernel
theorem dX12_reads_147 : decode cX12_reads 147 = .ok (.iconst 1, 1) := by decide +kernel
theorem dX12_reads_148 : decode cX12_reads 148 = .ok (.invokevirtual 87, 3) := by decide +kernel
theorem dX12_reads_151 : decode cX12_reads 151 = .ok (.ifCond .eq 7, 3) := by decide +kernel
theorem dX12_reads_154 : decode cX12_reads 154 = .ok (.iconst 1, 1) := by decide +kernel
theorem dX12_reads_155 : decode cX12_reads 155 = .ok (.goto 4, 3) := by decide +kernel
theorem dX12_reads_158 : decode cX12_reads 158 = .ok (.iconst 0, 1) := by decide +kernel
theorem dX12_reads_159 : decode cX12_reads 159 = .ok (.ireturn, 1) := by decide +kernel
theorem dX12_kitchen_0 : decode cX12_kitchen 0 = .ok (.aload_n 0, 1) := by decide +kernel
theorem dX12_kitchen_1 : decode cX12_kitchen 1 = .ok (.invokevirtual 121, 3) := by decide +kernel
theorem dX12_kitchen_4 : decode cX12_kitchen 4 = .ok (.istore_n 1, 1) := by decide +kernel
theorem dX12_kitchen_5 : decode cX12_kitchen 5 = .ok (.aload_n 0, 1) := by decide +kernel
theorem dX12_kitchen_6 : decode cX12_kitchen 6 = .ok (.iconst 0, 1) := by decide +kernel
theorem dX12_kitchen_7 : decode cX12_kitchen 7 = .ok (.putfield 70, 3) := by decide +kernel
theorem dX12_kitchen_10 : decode cX12_kitchen 10 = .ok (.iload_n 1, 1) := by decide +kernel
theorem dX12_kitchen_11 : decode cX12_kitchen 11 = .ok (.ifCond .ne 19, 3) := by decide +kernel
theorem dX12_kitchen_14 : decode cX12_kitchen 14 = .ok (.aload_n 0, 1) := by decide +kernel
theorem dX12_kitchen_15 : decode cX12_kitchen 15 = .ok (.aload_n 0, 1) := by decide +kernel
theorem dX12_kitchen_16 : decode cX12_kitchen 16 = .ok (.getfield 81, 3) := by decide +kernel
theorem dX12_kitchen_19 : decode cX12_kitchen 19 = .ok (.putfield 124, 3) := by decide +kernel
theorem dX12_kitchen_22 : decode cX12_kitchen 22 = .ok (.ldc 127, 2) := by decide +kernel
theorem dX12_kitchen_24 : decode cX12_kitchen 24 = .ok (.aload_n 0, 1) := by decide +kernel
theorem dX12_kitchen_25 : decode cX12_kitchen 25 = .ok (.getfield 74, 3) := by decide +kernel
theorem dX12_kitchen_28 : decode cX12_kitchen 28 = .ok (.isub, 1) := by decide +kernel
theorem dX12_kitchen_29 : decode cX12_kitchen 29 = .ok (.ireturn, 1) := by decide +kernel
theorem dX12_kitchen_30 : decode cX12_kitchen 30 = .ok (.aload_n 0, 1) := by decide +kernel
theorem dX12_kitchen_31 : decode cX12_kitchen 31 = .ok (.sipush 1782, 3) := by decide +kernel
theorem dX12_kitchen_34 : decode cX12_kitchen 34 = .ok (.iconst 0, 1) := by decide +kernel
theorem dX12_kitchen_35 : decode cX12_kitchen 35 = .ok (.invokevirtual 128, 3) := by decide +kernel
theorem dX12_kitchen_38 : decode cX12_kitchen 38 = .ok (.aload_n 0, 1) := by decide +kernel
theorem dX12_kitchen_39 : decode cX12_kitchen 39 = .ok (.iconst 1, 1) := by decide +kernel
theorem dX12_kitchen_40 : decode cX12_kitchen 40 = .ok (.putfield 132, 3) := by decide +kernel
theorem dX12_kitchen_43 : decode cX12_kitchen 43 = .ok (.aload_n 0, 1) := by decide +kernel
theorem dX12_kitchen_44 : decode cX12_kitchen 44 = .ok (.iconst 0, 1) := by decide +kernel
theorem dX12_kitchen_45 : decode cX12_kitchen 45 = .ok (.putfield 136, 3) := by decide +kernel
theorem dX12_kitchen_48 : decode cX12_kitchen 48 = .ok (.aload_n 0, 1) := by decide +kernel
theorem dX12_kitchen_49 : decode cX12_kitchen 49 = .ok (.getfield 7, 3) := by decide +kernel
theorem dX12_kitchen_52 : decode cX12_kitchen 52 = .ok (.iconst 2, 1) := by decide +kernel
theorem dX12_kitchen_53 : decode cX12_kitchen 53 = .ok (.iaload, 1) := by decide +kernel
theorem dX12_kitchen_54 : decode cX12_kitchen 54 = .ok (.ireturn, 1) := by decide +kernel
theorem dX12_fault_0 : decode cX12_fault 0 = .ok (.aload_n 0, 1) := by decide +kernel
theorem dX12_fault_1 : decode cX12_fault 1 = .ok (.getfield 124, 3) := by decide +kernel
theorem dX12_fault_4 : decode cX12_fault 4 = .ok (.ireturn, 1) := by decide +kernel
theorem dX12_copyTown_0 : decode cX12_copyTown 0 = .ok (.iconst 0, 1) := by decide +kernel
theorem dX12_copyTown_1 : decode cX12_copyTown 1 = .ok (.istore_n 3, 1) := by decide +kernel
theorem dX12_copyTown_2 : decode cX12_copyTown 2 = .ok (.iload_n 3, 1) := by decide +kernel
theorem dX12_copyTown_3 : decode cX12_copyTown 3 = .ok (.bipush 66, 2) := by decide +kernel
theorem dX12_copyTown_5 : decode cX12_copyTown 5 = .ok (.if_icmp .ge 25, 3) := by decide +kernel
theorem dX12_copyTown_8 : decode cX12_copyTown 8 = .ok (.aload_n 0, 1) := by decide +kernel
theorem dX12_copyTown_9 : decode cX12_copyTown 9 = .ok (.getfield 7, 3) := by decide +kernel
theorem dX12_copyTown_12 : decode cX12_copyTown 12 = .ok (.iload_n 2, 1) := by decide +kernel
theorem dX12_copyTown_13 : decode cX12_copyTown 13 = .ok (.iload_n 3, 1) := by decide +kernel
theorem dX12_copyTown_14 : decode cX12_copyTown 14 = .ok (.iadd, 1) := by decide +kernel
theorem dX12_copyTown_15 : decode cX12_copyTown 15 = .ok (.aload_n 0, 1) := by decide +kernel
theorem dX12_copyTown_16 : decode cX12_copyTown 16 = .ok (.getfield 7, 3) := by decide +kernel
theorem dX12_copyTown_19 : decode cX12_copyTown 19 = .ok (.iload_n 1, 1) := by decide +kernel
theorem dX12_copyTown_20 : decode cX12_copyTown 20 = .ok (.iload_n 3, 1) := by decide +kernel
theorem dX12_copyTown_21 : decode cX12_copyTown 21 = .ok (.iadd, 1) := by decide +kernel
theorem dX12_copyTown_22 : decode cX12_copyTown 22 = .ok (.iaload, 1) := by decide +kernel
theorem dX12_copyTown_23 : decode cX12_copyTown 23 = .ok (.iastore, 1) := by decide +kernel
theorem dX12_copyTown_24 : decode cX12_copyTown 24 = .ok (.iinc 3 1, 3) := by decide +kernel
theorem dX12_copyTown_27 : decode cX12_copyTown 27 = .ok (.goto (-25), 3) := by decide +kernel
theorem dX12_copyTown_30 : decode cX12_copyTown 30 = .ok (.return_, 1) := by decide +kernel
theorem dX12_keepPast_0 : decode cX12_keepPast 0 = .ok (.iconst 0, 1) := by decide +kernel
theorem dX12_keepPast_1 : decode cX12_keepPast 1 = .ok (.istore_n 1, 1) := by decide +kernel
theorem dX12_keepPast_2 : decode cX12_keepPast 2 = .ok (.iload_n 1, 1) := by decide +kernel
theorem dX12_keepPast_3 : decode cX12_keepPast 3 = .ok (.sipush 1518, 3) := by decide +kernel
theorem dX12_keepPast_6 : decode cX12_keepPast 6 = .ok (.if_icmp .ge 37, 3) := by decide +kernel
theorem dX12_keepPast_9 : decode cX12_keepPast 9 = .ok (.aload_n 0, 1) := by decide +kernel
theorem dX12_keepPast_10 : decode cX12_keepPast 10 = .ok (.getfield 136, 3) := by decide +kernel
theorem dX12_keepPast_13 : decode cX12_keepPast 13 = .ok (.bipush 24, 2) := by decide +kernel
theorem dX12_keepPast_15 : decode cX12_keepPast 15 = .ok (.if_icmp .ne 28, 3) := by decide +kernel
theorem dX12_keepPast_18 : decode cX12_keepPast 18 = .ok (.aload_n 0, 1) := by decide +kernel
theorem dX12_keepPast_19 : decode cX12_keepPast 19 = .ok (.getfield 7, 3) := by decide +kernel
theorem dX12_keepPast_22 : decode cX12_keepPast 22 = .ok (.bipush 66, 2) := by decide +kernel
theorem dX12_keepPast_24 : decode cX12_keepPast 24 = .ok (.iload_n 1, 1) := by decide +kernel
theorem dX12_keepPast_25 : decode cX12_keepPast 25 = .ok (.iadd, 1) := by decide +kernel
theorem dX12_keepPast_26 : decode cX12_keepPast 26 = .ok (.aload_n 0, 1) := by decide +kernel
theorem dX12_keepPast_27 : decode cX12_keepPast 27 = .ok (.getfield 7, 3) := by decide +kernel
theorem dX12_keepPast_30 : decode cX12_keepPast 30 = .ok (.sipush 132, 3) := by decide +kernel
theorem dX12_keepPast_33 : decode cX12_keepPast 33 = .ok (.iload_n 1, 1) := by decide +kernel
theorem dX12_keepPast_34 : decode cX12_keepPast 34 = .ok (.iadd, 1) := by decide +kernel
theorem dX12_keepPast_35 : decode cX12_keepPast 35 = .ok (.iaload, 1) := by decide +kernel
theorem dX12_keepPast_36 : decode cX12_keepPast 36 = .ok (.iastore, 1) := by decide +kernel
theorem dX12_keepPast_37 : decode cX12_keepPast 37 = .ok (.iinc 1 1, 3) := by decide +kernel
theorem dX12_keepPast_40 : decode cX12_keepPast 40 = .ok (.goto (-38), 3) := by decide +kernel
theorem dX12_keepPast_43 : decode cX12_keepPast 43 = .ok (.aload_n 0, 1) := by decide +kernel
theorem dX12_keepPast_44 : decode cX12_keepPast 44 = .ok (.dup, 1) := by decide +kernel
theorem dX12_keepPast_45 : decode cX12_keepPast 45 = .ok (.getfield 136, 3) := by decide +kernel
theorem dX12_keepPast_48 : decode cX12_keepPast 48 = .ok (.aload_n 0, 1) := by decide +kernel
theorem dX12_keepPast_49 : decode cX12_keepPast 49 = .ok (.getfield 136, 3) := by decide +kernel
theorem dX12_keepPast_52 : decode cX12_keepPast 52 = .ok (.bipush 24, 2) := by decide +kernel
theorem dX12_keepPast_54 : decode cX12_keepPast 54 = .ok (.if_icmp .ne 7, 3) := by decide +kernel
theorem dX12_keepPast_57 : decode cX12_keepPast 57 = .ok (.iconst 1, 1) := by decide +kernel
theorem dX12_keepPast_58 : decode cX12_keepPast 58 = .ok (.goto 4, 3) := by decide +kernel
theorem dX12_keepPast_61 : decode cX12_keepPast 61 = .ok (.iconst 0, 1) := by decide +kernel
theorem dX12_keepPast_62 : decode cX12_keepPast 62 = .ok (.isub, 1) := by decide +kernel
theorem dX12_keepPast_63 : decode cX12_keepPast 63 = .ok (.putfield 136, 3) := by decide +kernel
theorem dX12_keepPast_66 : decode cX12_keepPast 66 = .ok (.aload_n 0, 1) := by decide +kernel
theorem dX12_keepPast_67 : decode cX12_keepPast 67 = .ok (.iconst 0, 1) := by decide +kernel
theorem dX12_keepPast_68 : decode cX12_keepPast 68 = .ok (.bipush 66, 2) := by decide +kernel
theorem dX12_keepPast_70 : decode cX12_keepPast 70 = .ok (.bipush 66, 2) := by decide +kernel
theorem dX12_keepPast_72 : decode cX12_keepPast 72 = .ok (.aload_n 0, 1) := by decide +kernel
theorem dX12_keepPast_73 : decode cX12_keepPast 73 = .ok (.getfield 136, 3) := by decide +kernel
theorem dX12_keepPast_76 : decode cX12_keepPast 76 = .ok (.imul, 1) := by decide +kernel
theorem dX12_keepPast_77 : decode cX12_keepPast 77 = .ok (.iadd, 1) := by decide +kernel
theorem dX12_keepPast_78 : decode cX12_keepPast 78 = .ok (.invokevirtual 128, 3) := by decide +kernel
theorem dX12_keepPast_81 : decode cX12_keepPast 81 = .ok (.aload_n 0, 1) := by decide +kernel
theorem dX12_keepPast_82 : decode cX12_keepPast 82 = .ok (.dup, 1) := by decide +kernel
theorem dX12_keepPast_83 : decode cX12_keepPast 83 = .ok (.getfield 136, 3) := by decide +kernel
theorem dX12_keepPast_86 : decode cX12_keepPast 86 = .ok (.iconst 1, 1) := by decide +kernel
theorem dX12_keepPast_87 : decode cX12_keepPast 87 = .ok (.iadd, 1) := by decide +kernel
theorem dX12_keepPast_88 : decode cX12_keepPast 88 = .ok (.putfield 136, 3) := by decide +kernel
theorem dX12_keepPast_91 : decode cX12_keepPast 91 = .ok (.return_, 1) := by decide +kernel
theorem dX12_undo_0 : decode cX12_undo 0 = .ok (.aload_n 0, 1) := by decide +kernel
theorem dX12_undo_1 : decode cX12_undo 1 = .ok (.getfield 136, 3) := by decide +kernel
theorem dX12_undo_4 : decode cX12_undo 4 = .ok (.ifCond .ne 6, 3) := by decide +kernel
theorem dX12_undo_7 : decode cX12_undo 7 = .ok (.ldc 139, 2) := by decide +kernel
theorem dX12_undo_9 : decode cX12_undo 9 = .ok (.ireturn, 1) := by decide +kernel
theorem dX12_undo_10 : decode cX12_undo 10 = .ok (.aload_n 0, 1) := by decide +kernel
theorem dX12_undo_11 : decode cX12_undo 11 = .ok (.dup, 1) := by decide +kernel
theorem dX12_undo_12 : decode cX12_undo 12 = .ok (.getfield 136, 3) := by decide +kernel
theorem dX12_undo_15 : decode cX12_undo 15 = .ok (.iconst 1, 1) := by decide +kernel
theorem dX12_undo_16 : decode cX12_undo 16 = .ok (.isub, 1) := by decide +kernel
theorem dX12_undo_17 : decode cX12_undo 17 = .ok (.putfield 136, 3) := by decide +kernel
theorem dX12_undo_20 : decode cX12_undo 20 = .ok (.aload_n 0, 1) := by decide +kernel
theorem dX12_undo_21 : decode cX12_undo 21 = .ok (.bipush 66, 2) := by decide +kernel
theorem dX12_undo_23 : decode cX12_undo 23 = .ok (.bipush 66, 2) := by decide +kernel
theorem dX12_undo_25 : decode cX12_undo 25 = .ok (.aload_n 0, 1) := by decide +kernel
theorem dX12_undo_26 : decode cX12_undo 26 = .ok (.getfield 136, 3) := by decide +kernel
theorem dX12_undo_29 : decode cX12_undo 29 = .ok (.imul, 1) := by decide +kernel
theorem dX12_undo_30 : decode cX12_undo 30 = .ok (.iadd, 1) := by decide +kernel
theorem dX12_undo_31 : decode cX12_undo 31 = .ok (.iconst 0, 1) := by decide +kernel
theorem dX12_undo_32 : decode cX12_undo 32 = .ok (.invokevirtual 128, 3) := by decide +kernel
theorem dX12_undo_35 : decode cX12_undo 35 = .ok (.aload_n 0, 1) := by decide +kernel
theorem dX12_undo_36 : decode cX12_undo 36 = .ok (.getfield 136, 3) := by decide +kernel
theorem dX12_undo_39 : decode cX12_undo 39 = .ok (.ireturn, 1) := by decide +kernel
theorem dX12_isSix_0 : decode cX12_isSix 0 = .ok (.iload_n 0, 1) := by decide +kernel
theorem dX12_isSix_1 : decode cX12_isSix 1 = .ok (.i2l, 1) := by decide +kernel
theorem dX12_isSix_2 : decode cX12_isSix 2 = .ok (.lconst 0, 1) := by decide +kernel
theorem dX12_isSix_3 : decode cX12_isSix 3 = .ok (.ldc2_w 140, 3) := by decide +kernel
theorem dX12_isSix_6 : decode cX12_isSix 6 = .ok (.invokestatic 42, 3) := by decide +kernel
theorem dX12_isSix_9 : decode cX12_isSix 9 = .ok (.ireturn, 1) := by decide +kernel
theorem dX12_nameAt_0 : decode cX12_nameAt 0 = .ok (.aload_n 0, 1) := by decide +kernel
theorem dX12_nameAt_1 : decode cX12_nameAt 1 = .ok (.getfield 7, 3) := by decide +kernel
theorem dX12_nameAt_4 : decode cX12_nameAt 4 = .ok (.iload_n 1, 1) := by decide +kernel
theorem dX12_nameAt_5 : decode cX12_nameAt 5 = .ok (.bipush 6, 2) := by decide +kernel
theorem dX12_nameAt_7 : decode cX12_nameAt 7 = .ok (.iadd, 1) := by decide +kernel
theorem dX12_nameAt_8 : decode cX12_nameAt 8 = .ok (.iload_n 2, 1) := by decide +kernel
theorem dX12_nameAt_9 : decode cX12_nameAt 9 = .ok (.iadd, 1) := by decide +kernel
theorem dX12_nameAt_10 : decode cX12_nameAt 10 = .ok (.iaload, 1) := by decide +kernel
theorem dX12_nameAt_11 : decode cX12_nameAt 11 = .ok (.ireturn, 1) := by decide +kernel
theorem dX12_jobOf_0 : decode cX12_jobOf 0 = .ok (.aload_n 0, 1) := by decide +kernel
theorem dX12_jobOf_1 : decode cX12_jobOf 1 = .ok (.getfield 7, 3) := by decide +kernel
theorem dX12_jobOf_4 : decode cX12_jobOf 4 = .ok (.iload_n 1, 1) := by decide +kernel
theorem dX12_jobOf_5 : decode cX12_jobOf 5 = .ok (.bipush 14, 2) := by decide +kernel
theorem dX12_jobOf_7 : decode cX12_jobOf 7 = .ok (.iadd, 1) := by decide +kernel
theorem dX12_jobOf_8 : decode cX12_jobOf 8 = .ok (.iload_n 2, 1) := by decide +kernel
theorem dX12_jobOf_9 : decode cX12_jobOf 9 = .ok (.aload_n 0, 1) := by decide +kernel
theorem dX12_jobOf_10 : decode cX12_jobOf 10 = .ok (.getfield 7, 3) := by decide +kernel
theorem dX12_jobOf_13 : decode cX12_jobOf 13 = .ok (.iload_n 1, 1) := by decide +kernel
theorem dX12_jobOf_14 : decode cX12_jobOf 14 = .ok (.iconst 4, 1) := by decide +kernel
theorem dX12_jobOf_15 : decode cX12_jobOf 15 = .ok (.iadd, 1) := by decide +kernel
theorem dX12_jobOf_16 : decode cX12_jobOf 16 = .ok (.iaload, 1) := by decide +kernel
theorem dX12_jobOf_17 : decode cX12_jobOf 17 = .ok (.iadd, 1) := by decide +kernel
theorem dX12_jobOf_18 : decode cX12_jobOf 18 = .ok (.aload_n 0, 1) := by decide +kernel
theorem dX12_jobOf_19 : decode cX12_jobOf 19 = .ok (.getfield 7, 3) := by decide +kernel
theorem dX12_jobOf_22 : decode cX12_jobOf 22 = .ok (.iload_n 1, 1) := by decide +kernel
theorem dX12_jobOf_23 : decode cX12_jobOf 23 = .ok (.iconst 1, 1) := by decide +kernel
theorem dX12_jobOf_24 : decode cX12_jobOf 24 = .ok (.iadd, 1) := by decide +kernel
theorem dX12_jobOf_25 : decode cX12_jobOf 25 = .ok (.iaload, 1) := by decide +kernel
theorem dX12_jobOf_26 : decode cX12_jobOf 26 = .ok (.irem, 1) := by decide +kernel
theorem dX12_jobOf_27 : decode cX12_jobOf 27 = .ok (.iadd, 1) := by decide +kernel
theorem dX12_jobOf_28 : decode cX12_jobOf 28 = .ok (.iaload, 1) := by decide +kernel
theorem dX12_jobOf_29 : decode cX12_jobOf 29 = .ok (.istore_n 3, 1) := by decide +kernel
theorem dX12_jobOf_30 : decode cX12_jobOf 30 = .ok (.aload_n 0, 1) := by decide +kernel
theorem dX12_jobOf_31 : decode cX12_jobOf 31 = .ok (.iload_n 1, 1) := by decide +kernel
theorem dX12_jobOf_32 : decode cX12_jobOf 32 = .ok (.iload_n 2, 1) := by decide +kernel
theorem dX12_jobOf_33 : decode cX12_jobOf 33 = .ok (.invokevirtual 142, 3) := by decide +kernel
theorem dX12_jobOf_36 : decode cX12_jobOf 36 = .ok (.bipush 6, 2) := by decide +kernel
theorem dX12_jobOf_38 : decode cX12_jobOf 38 = .ok (.if_icmp .eq 9, 3) := by decide +kernel
theorem dX12_jobOf_41 : decode cX12_jobOf 41 = .ok (.iload_n 3, 1) := by decide +kernel
theorem dX12_jobOf_42 : decode cX12_jobOf 42 = .ok (.bipush 6, 2) := by decide +kernel
theorem dX12_jobOf_44 : decode cX12_jobOf 44 = .ok (.if_icmp .ne 8, 3) := by decide +kernel
theorem dX12_jobOf_47 : decode cX12_jobOf 47 = .ok (.ldc 99, 2) := by decide +kernel
theorem dX12_jobOf_49 : decode cX12_jobOf 49 = .ok (.goto 4, 3) := by decide +kernel
theorem dX12_jobOf_52 : decode cX12_jobOf 52 = .ok (.iload_n 3, 1) := by decide +kernel
theorem dX12_jobOf_53 : decode cX12_jobOf 53 = .ok (.ireturn, 1) := by decide +kernel
theorem dX12_doerOf_0 : decode cX12_doerOf 0 = .ok (.aload_n 0, 1) := by decide +kernel
theorem dX12_doerOf_1 : decode cX12_doerOf 1 = .ok (.iload_n 1, 1) := by decide +kernel
theorem dX12_doerOf_2 : decode cX12_doerOf 2 = .ok (.iload_n 2, 1) := by decide +kernel
theorem dX12_doerOf_3 : decode cX12_doerOf 3 = .ok (.invokevirtual 145, 3) := by decide +kernel
theorem dX12_doerOf_6 : decode cX12_doerOf 6 = .ok (.ldc 99, 2) := by decide +kernel
theorem dX12_doerOf_8 : decode cX12_doerOf 8 = .ok (.if_icmp .ne 6, 3) := by decide +kernel
theorem dX12_doerOf_11 : decode cX12_doerOf 11 = .ok (.ldc 99, 2) := by decide +kernel
theorem dX12_doerOf_13 : decode cX12_doerOf 13 = .ok (.ireturn, 1) := by decide +kernel
theorem dX12_doerOf_14 : decode cX12_doerOf 14 = .ok (.aload_n 0, 1) := by decide +kernel
theorem dX12_doerOf_15 : decode cX12_doerOf 15 = .ok (.getfield 7, 3) := by decide +kernel
theorem dX12_doerOf_18 : decode cX12_doerOf 18 = .ok (.iload_n 1, 1) := by decide +kernel
theorem dX12_doerOf_19 : decode cX12_doerOf 19 = .ok (.iconst 0, 1) := by decide +kernel
theorem dX12_doerOf_20 : decode cX12_doerOf 20 = .ok (.iadd, 1) := by decide +kernel
theorem dX12_doerOf_21 : decode cX12_doerOf 21 = .ok (.iaload, 1) := by decide +kernel
theorem dX12_doerOf_22 : decode cX12_doerOf 22 = .ok (.istore_n 3, 1) := by decide +kernel
theorem dX12_doerOf_23 : decode cX12_doerOf 23 = .ok (.iconst 0, 1) := by decide +kernel
theorem dX12_doerOf_24 : decode cX12_doerOf 24 = .ok (.istore 4, 2) := by decide +kernel
theorem dX12_doerOf_26 : decode cX12_doerOf 26 = .ok (.iload 4, 2) := by decide +kernel
theorem dX12_doerOf_28 : decode cX12_doerOf 28 = .ok (.iload_n 3, 1) := by decide +kernel
theorem dX12_doerOf_29 : decode cX12_doerOf 29 = .ok (.if_icmp .ge 48, 3) := by decide +kernel
theorem dX12_doerOf_32 : decode cX12_doerOf 32 = .ok (.aload_n 0, 1) := by decide +kernel
theorem dX12_doerOf_33 : decode cX12_doerOf 33 = .ok (.iload_n 1, 1) := by decide +kernel
theorem dX12_doerOf_34 : decode cX12_doerOf 34 = .ok (.iload_n 2, 1) := by decide +kernel
theorem dX12_doerOf_35 : decode cX12_doerOf 35 = .ok (.iload 4, 2) := by decide +kernel
theorem dX12_doerOf_37 : decode cX12_doerOf 37 = .ok (.iadd, 1) := by decide +kernel
theorem dX12_doerOf_38 : decode cX12_doerOf 38 = .ok (.iload_n 3, 1) := by decide +kernel
theorem dX12_doerOf_39 : decode cX12_doerOf 39 = .ok (.irem, 1) := by decide +kernel
theorem dX12_doerOf_40 : decode cX12_doerOf 40 = .ok (.invokevirtual 142, 3) := by decide +kernel
theorem dX12_doerOf_43 : decode cX12_doerOf 43 = .ok (.istore 5, 2) := by decide +kernel
theorem dX12_doerOf_45 : decode cX12_doerOf 45 = .ok (.iload 5, 2) := by decide +kernel
theorem dX12_doerOf_47 : decode cX12_doerOf 47 = .ok (.bipush 6, 2) := by decide +kernel
theorem dX12_doerOf_49 : decode cX12_doerOf 49 = .ok (.if_icmp .eq 22, 3) := by decide +kernel
theorem dX12_doerOf_52 : decode cX12_doerOf 52 = .ok (.aload_n 0, 1) := by decide +kernel
theorem dX12_doerOf_53 : decode cX12_doerOf 53 = .ok (.getfield 7, 3) := by decide +kernel
theorem dX12_doerOf_56 : decode cX12_doerOf 56 = .ok (.iload_n 1, 1) := by decide +kernel
theorem dX12_doerOf_57 : decode cX12_doerOf 57 = .ok (.iconst 5, 1) := by decide +kernel
theorem dX12_doerOf_58 : decode cX12_doerOf 58 = .ok (.iadd, 1) := by decide +kernel
theorem dX12_doerOf_59 : decode cX12_doerOf 59 = .ok (.iaload, 1) := by decide +kernel
theorem dX12_doerOf_60 : decode cX12_doerOf 60 = .ok (.iload 5, 2) := by decide +kernel
theorem dX12_doerOf_62 : decode cX12_doerOf 62 = .ok (.invokestatic 148, 3) := by decide +kernel
theorem dX12_doerOf_65 : decode cX12_doerOf 65 = .ok (.ifCond .ne 6, 3) := by decide +kernel
theorem dX12_doerOf_68 : decode cX12_doerOf 68 = .ok (.iload 5, 2) := by decide +kernel
theorem dX12_doerOf_70 : decode cX12_doerOf 70 = .ok (.ireturn, 1) := by decide +kernel
theorem dX12_doerOf_71 : decode cX12_doerOf 71 = .ok (.iinc 4 1, 3) := by decide +kernel
theorem dX12_doerOf_74 : decode cX12_doerOf 74 = .ok (.goto (-48), 3) := by decide +kernel
theorem dX12_doerOf_77 : decode cX12_doerOf 77 = .ok (.ldc 99, 2) := by decide +kernel
theorem dX12_doerOf_79 : decode cX12_doerOf 79 = .ok (.ireturn, 1) := by decide +kernel
theorem dX12_far_0 : decode cX12_far 0 = .ok (.iload_n 0, 1) := by decide +kernel
theorem dX12_far_1 : decode cX12_far 1 = .ok (.tableswitch 70 1 5 #[35, 37, 39, 70, 53], 35) := by decide +kernel
theorem dX12_far_36 : decode cX12_far 36 = .ok (.iconst 1, 1) := by decide +kernel
theorem dX12_far_37 : decode cX12_far 37 = .ok (.ireturn, 1) := by decide +kernel
theorem dX12_far_38 : decode cX12_far 38 = .ok (.iload_n 1, 1) := by decide +kernel
theorem dX12_far_39 : decode cX12_far 39 = .ok (.ireturn, 1) := by decide +kernel
theorem dX12_far_40 : decode cX12_far 40 = .ok (.iload_n 2, 1) := by decide +kernel
theorem dX12_far_41 : decode cX12_far 41 = .ok (.iconst 2, 1) := by decide +kernel
theorem dX12_far_42 : decode cX12_far 42 = .ok (.irem, 1) := by decide +kernel
theorem dX12_far_43 : decode cX12_far 43 = .ok (.ifCond .ne 9, 3) := by decide +kernel
theorem dX12_far_46 : decode cX12_far 46 = .ok (.iload_n 1, 1) := by decide +kernel
theorem dX12_far_47 : decode cX12_far 47 = .ok (.iconst 1, 1) := by decide +kernel
theorem dX12_far_48 : decode cX12_far 48 = .ok (.iadd, 1) := by decide +kernel
theorem dX12_far_49 : decode cX12_far 49 = .ok (.goto 4, 3) := by decide +kernel
theorem dX12_far_52 : decode cX12_far 52 = .ok (.iload_n 1, 1) := by decide +kernel
theorem dX12_far_53 : decode cX12_far 53 = .ok (.ireturn, 1) := by decide +kernel
theorem dX12_far_54 : decode cX12_far 54 = .ok (.iload_n 2, 1) := by decide +kernel
theorem dX12_far_55 : decode cX12_far 55 = .ok (.iconst 3, 1) := by decide +kernel
theorem dX12_far_56 : decode cX12_far 56 = .ok (.irem, 1) := by decide +kernel
theorem dX12_far_57 : decode cX12_far 57 = .ok (.ifCond .ne 10, 3) := by decide +kernel
theorem dX12_far_60 : decode cX12_far 60 = .ok (.iload_n 2, 1) := by decide +kernel
theorem dX12_far_61 : decode cX12_far 61 = .ok (.ineg, 1) := by decide +kernel
theorem dX12_far_62 : decode cX12_far 62 = .ok (.iload_n 1, 1) := by decide +kernel
theorem dX12_far_63 : decode cX12_far 63 = .ok (.isub, 1) := by decide +kernel
theorem dX12_far_64 : decode cX12_far 64 = .ok (.goto 6, 3) := by decide +kernel
theorem dX12_far_67 : decode cX12_far 67 = .ok (.iload_n 2, 1) := by decide +kernel
theorem dX12_far_68 : decode cX12_far 68 = .ok (.iload_n 1, 1) := by decide +kernel
theorem dX12_far_69 : decode cX12_far 69 = .ok (.iadd, 1) := by decide +kernel
theorem dX12_far_70 : decode cX12_far 70 = .ok (.ireturn, 1) := by decide +kernel
theorem dX12_far_71 : decode cX12_far 71 = .ok (.iload_n 2, 1) := by decide +kernel
theorem dX12_far_72 : decode cX12_far 72 = .ok (.iload_n 1, 1) := by decide +kernel
theorem dX12_far_73 : decode cX12_far 73 = .ok (.iadd, 1) := by decide +kernel
theorem dX12_far_74 : decode cX12_far 74 = .ok (.ireturn, 1) := by decide +kernel
theorem dX12_farOf_0 : decode cX12_farOf 0 = .ok (.aload_n 0, 1) := by decide +kernel
theorem dX12_farOf_1 : decode cX12_farOf 1 = .ok (.getfield 7, 3) := by decide +kernel
theorem dX12_farOf_4 : decode cX12_farOf 4 = .ok (.iload_n 1, 1) := by decide +kernel
theorem dX12_farOf_5 : decode cX12_farOf 5 = .ok (.bipush 22, 2) := by decide +kernel
theorem dX12_farOf_7 : decode cX12_farOf 7 = .ok (.iadd, 1) := by decide +kernel
theorem dX12_farOf_8 : decode cX12_farOf 8 = .ok (.iload_n 2, 1) := by decide +kernel
theorem dX12_farOf_9 : decode cX12_farOf 9 = .ok (.iadd, 1) := by decide +kernel
theorem dX12_farOf_10 : decode cX12_farOf 10 = .ok (.iaload, 1) := by decide +kernel
theorem dX12_farOf_11 : decode cX12_farOf 11 = .ok (.aload_n 0, 1) := by decide +kernel
theorem dX12_farOf_12 : decode cX12_farOf 12 = .ok (.getfield 7, 3) := by decide +kernel
theorem dX12_farOf_15 : decode cX12_farOf 15 = .ok (.iload_n 1, 1) := by decide +kernel
theorem dX12_farOf_16 : decode cX12_farOf 16 = .ok (.bipush 26, 2) := by decide +kernel
theorem dX12_farOf_18 : decode cX12_farOf 18 = .ok (.iadd, 1) := by decide +kernel
theorem dX12_farOf_19 : decode cX12_farOf 19 = .ok (.iload_n 2, 1) := by decide +kernel
theorem dX12_farOf_20 : decode cX12_farOf 20 = .ok (.iadd, 1) := by decide +kernel
theorem dX12_farOf_21 : decode cX12_farOf 21 = .ok (.iaload, 1) := by decide +kernel
theorem dX12_farOf_22 : decode cX12_farOf 22 = .ok (.aload_n 0, 1) := by decide +kernel
theorem dX12_farOf_23 : decode cX12_farOf 23 = .ok (.getfield 7, 3) := by decide +kernel
theorem dX12_farOf_26 : decode cX12_farOf 26 = .ok (.iload_n 1, 1) := by decide +kernel
theorem dX12_farOf_27 : decode cX12_farOf 27 = .ok (.iconst 3, 1) := by decide +kernel
theorem dX12_farOf_28 : decode cX12_farOf 28 = .ok (.iadd, 1) := by decide +kernel
theorem dX12_farOf_29 : decode cX12_farOf 29 = .ok (.iaload, 1) := by decide +kernel
theorem dX12_farOf_30 : decode cX12_farOf 30 = .ok (.invokestatic 151, 3) := by decide +kernel
theorem dX12_farOf_33 : decode cX12_farOf 33 = .ok (.ireturn, 1) := by decide +kernel
theorem dX12_turnBy_0 : decode cX12_turnBy 0 = .ok (.aload_n 0, 1) := by decide +kernel
theorem dX12_turnBy_1 : decode cX12_turnBy 1 = .ok (.getfield 7, 3) := by decide +kernel
theorem dX12_turnBy_4 : decode cX12_turnBy 4 = .ok (.iload_n 1, 1) := by decide +kernel
theorem dX12_turnBy_5 : decode cX12_turnBy 5 = .ok (.iconst 1, 1) := by decide +kernel
theorem dX12_turnBy_6 : decode cX12_turnBy 6 = .ok (.iadd, 1) := by decide +kernel
theorem dX12_turnBy_7 : decode cX12_turnBy 7 = .ok (.iaload, 1) := by decide +kernel
theorem dX12_turnBy_8 : decode cX12_turnBy 8 = .ok (.istore_n 3, 1) := by decide +kernel
theorem dX12_turnBy_9 : decode cX12_turnBy 9 = .ok (.aload_n 0, 1) := by decide +kernel
theorem dX12_turnBy_10 : decode cX12_turnBy 10 = .ok (.getfield 7, 3) := by decide +kernel
theorem dX12_turnBy_13 : decode cX12_turnBy 13 = .ok (.iload_n 1, 1) := by decide +kernel
theorem dX12_turnBy_14 : decode cX12_turnBy 14 = .ok (.iconst 4, 1) := by decide +kernel
theorem dX12_turnBy_15 : decode cX12_turnBy 15 = .ok (.iadd, 1) := by decide +kernel
theorem dX12_turnBy_16 : decode cX12_turnBy 16 = .ok (.aload_n 0, 1) := by decide +kernel
theorem dX12_turnBy_17 : decode cX12_turnBy 17 = .ok (.getfield 7, 3) := by decide +kernel
theorem dX12_turnBy_20 : decode cX12_turnBy 20 = .ok (.iload_n 1, 1) := by decide +kernel
theorem dX12_turnBy_21 : decode cX12_turnBy 21 = .ok (.iconst 4, 1) := by decide +kernel
theorem dX12_turnBy_22 : decode cX12_turnBy 22 = .ok (.iadd, 1) := by decide +kernel
theorem dX12_turnBy_23 : decode cX12_turnBy 23 = .ok (.iaload, 1) := by decide +kernel
theorem dX12_turnBy_24 : decode cX12_turnBy 24 = .ok (.iload_n 2, 1) := by decide +kernel
theorem dX12_turnBy_25 : decode cX12_turnBy 25 = .ok (.iadd, 1) := by decide +kernel
theorem dX12_turnBy_26 : decode cX12_turnBy 26 = .ok (.iload_n 3, 1) := by decide +kernel
theorem dX12_turnBy_27 : decode cX12_turnBy 27 = .ok (.irem, 1) := by decide +kernel
theorem dX12_turnBy_28 : decode cX12_turnBy 28 = .ok (.iload_n 3, 1) := by decide +kernel
theorem dX12_turnBy_29 : decode cX12_turnBy 29 = .ok (.iadd, 1) := by decide +kernel
theorem dX12_turnBy_30 : decode cX12_turnBy 30 = .ok (.iload_n 3, 1) := by decide +kernel
theorem dX12_turnBy_31 : decode cX12_turnBy 31 = .ok (.irem, 1) := by decide +kernel
theorem dX12_turnBy_32 : decode cX12_turnBy 32 = .ok (.iastore, 1) := by decide +kernel
theorem dX12_turnBy_33 : decode cX12_turnBy 33 = .ok (.return_, 1) := by decide +kernel
theorem dX12_pass_0 : decode cX12_pass 0 = .ok (.iconst 0, 1) := by decide +kernel
theorem dX12_pass_1 : decode cX12_pass 1 = .ok (.istore_n 3, 1) := by decide +kernel
theorem dX12_pass_2 : decode cX12_pass 2 = .ok (.iload_n 3, 1) := by decide +kernel
theorem dX12_pass_3 : decode cX12_pass 3 = .ok (.aload_n 0, 1) := by decide +kernel
theorem dX12_pass_4 : decode cX12_pass 4 = .ok (.getfield 7, 3) := by decide +kernel
theorem dX12_pass_7 : decode cX12_pass 7 = .ok (.iload_n 1, 1) := by decide +kernel
theorem dX12_pass_8 : decode cX12_pass 8 = .ok (.iconst 0, 1) := by decide +kernel
theorem dX12_pass_9 : decode cX12_pass 9 = .ok (.iadd, 1) := by decide +kernel
theorem dX12_pass_10 : decode cX12_pass 10 = .ok (.iaload, 1) := by decide +kernel
theorem dX12_pass_11 : decode cX12_pass 11 = .ok (.if_icmp .ge 50, 3) := by decide +kernel
theorem dX12_pass_14 : decode cX12_pass 14 = .ok (.aload_n 0, 1) := by decide +kernel
theorem dX12_pass_15 : decode cX12_pass 15 = .ok (.iload_n 1, 1) := by decide +kernel
theorem dX12_pass_16 : decode cX12_pass 16 = .ok (.iload_n 3, 1) := by decide +kernel
theorem dX12_pass_17 : decode cX12_pass 17 = .ok (.invokevirtual 155, 3) := by decide +kernel
theorem dX12_pass_20 : decode cX12_pass 20 = .ok (.istore 4, 2) := by decide +kernel
theorem dX12_pass_22 : decode cX12_pass 22 = .ok (.iload 4, 2) := by decide +kernel
theorem dX12_pass_24 : decode cX12_pass 24 = .ok (.ldc 99, 2) := by decide +kernel
theorem dX12_pass_26 : decode cX12_pass 26 = .ok (.if_icmp .eq 29, 3) := by decide +kernel
theorem dX12_pass_29 : decode cX12_pass 29 = .ok (.aload_n 0, 1) := by decide +kernel
theorem dX12_pass_30 : decode cX12_pass 30 = .ok (.getfield 7, 3) := by decide +kernel
theorem dX12_pass_33 : decode cX12_pass 33 = .ok (.iload_n 1, 1) := by decide +kernel
theorem dX12_pass_34 : decode cX12_pass 34 = .ok (.bipush 30, 2) := by decide +kernel
theorem dX12_pass_36 : decode cX12_pass 36 = .ok (.iadd, 1) := by decide +kernel
theorem dX12_pass_37 : decode cX12_pass 37 = .ok (.bipush 6, 2) := by decide +kernel
theorem dX12_pass_39 : decode cX12_pass 39 = .ok (.iload 4, 2) := by decide +kernel
theorem dX12_pass_41 : decode cX12_pass 41 = .ok (.imul, 1) := by decide +kernel
theorem dX12_pass_42 : decode cX12_pass 42 = .ok (.iadd, 1) := by decide +kernel
theorem dX12_pass_43 : decode cX12_pass 43 = .ok (.aload_n 0, 1) := by decide +kernel
theorem dX12_pass_44 : decode cX12_pass 44 = .ok (.iload_n 1, 1) := by decide +kernel
theorem dX12_pass_45 : decode cX12_pass 45 = .ok (.iload_n 3, 1) := by decide +kernel
theorem dX12_pass_46 : decode cX12_pass 46 = .ok (.invokevirtual 145, 3) := by decide +kernel
theorem dX12_pass_49 : decode cX12_pass 49 = .ok (.iadd, 1) := by decide +kernel
theorem dX12_pass_50 : decode cX12_pass 50 = .ok (.dup2, 1) := by decide +kernel
theorem dX12_pass_51 : decode cX12_pass 51 = .ok (.iaload, 1) := by decide +kernel
theorem dX12_pass_52 : decode cX12_pass 52 = .ok (.iconst 1, 1) := by decide +kernel
theorem dX12_pass_53 : decode cX12_pass 53 = .ok (.iadd, 1) := by decide +kernel
theorem dX12_pass_54 : decode cX12_pass 54 = .ok (.iastore, 1) := by decide +kernel
theorem dX12_pass_55 : decode cX12_pass 55 = .ok (.iinc 3 1, 3) := by decide +kernel
theorem dX12_pass_58 : decode cX12_pass 58 = .ok (.goto (-56), 3) := by decide +kernel
theorem dX12_pass_61 : decode cX12_pass 61 = .ok (.aload_n 0, 1) := by decide +kernel
theorem dX12_pass_62 : decode cX12_pass 62 = .ok (.iload_n 1, 1) := by decide +kernel
theorem dX12_pass_63 : decode cX12_pass 63 = .ok (.iload_n 2, 1) := by decide +kernel
theorem dX12_pass_64 : decode cX12_pass 64 = .ok (.invokevirtual 158, 3) := by decide +kernel
theorem dX12_pass_67 : decode cX12_pass 67 = .ok (.aload_n 0, 1) := by decide +kernel
theorem dX12_pass_68 : decode cX12_pass 68 = .ok (.getfield 7, 3) := by decide +kernel
theorem dX12_pass_71 : decode cX12_pass 71 = .ok (.iload_n 1, 1) := by decide +kernel
theorem dX12_pass_72 : decode cX12_pass 72 = .ok (.iconst 5, 1) := by decide +kernel
theorem dX12_pass_73 : decode cX12_pass 73 = .ok (.iadd, 1) := by decide +kernel
theorem dX12_pass_74 : decode cX12_pass 74 = .ok (.iconst 0, 1) := by decide +kernel
theorem dX12_pass_75 : decode cX12_pass 75 = .ok (.iastore, 1) := by decide +kernel
theorem dX12_pass_76 : decode cX12_pass 76 = .ok (.aload_n 0, 1) := by decide +kernel
theorem dX12_pass_77 : decode cX12_pass 77 = .ok (.getfield 7, 3) := by decide +kernel
theorem dX12_pass_80 : decode cX12_pass 80 = .ok (.iload_n 1, 1) := by decide +kernel
theorem dX12_pass_81 : decode cX12_pass 81 = .ok (.iconst 3, 1) := by decide +kernel
theorem dX12_pass_82 : decode cX12_pass 82 = .ok (.iadd, 1) := by decide +kernel
theorem dX12_pass_83 : decode cX12_pass 83 = .ok (.dup2, 1) := by decide +kernel
theorem dX12_pass_84 : decode cX12_pass 84 = .ok (.iaload, 1) := by decide +kernel
theorem dX12_pass_85 : decode cX12_pass 85 = .ok (.iconst 1, 1) := by decide +kernel
theorem dX12_pass_86 : decode cX12_pass 86 = .ok (.iadd, 1) := by decide +kernel
theorem dX12_pass_87 : decode cX12_pass 87 = .ok (.iastore, 1) := by decide +kernel
theorem dX12_pass_88 : decode cX12_pass 88 = .ok (.return_, 1) := by decide +kernel
theorem dX12_passAsTold_0 : decode cX12_passAsTold 0 = .ok (.aload_n 0, 1) := by decide +kernel
theorem dX12_passAsTold_1 : decode cX12_passAsTold 1 = .ok (.iload_n 1, 1) := by decide +kernel
theorem dX12_passAsTold_2 : decode cX12_passAsTold 2 = .ok (.aload_n 0, 1) := by decide +kernel
theorem dX12_passAsTold_3 : decode cX12_passAsTold 3 = .ok (.iload_n 1, 1) := by decide +kernel
theorem dX12_passAsTold_4 : decode cX12_passAsTold 4 = .ok (.aload_n 0, 1) := by decide +kernel
theorem dX12_passAsTold_5 : decode cX12_passAsTold 5 = .ok (.getfield 7, 3) := by decide +kernel
theorem dX12_passAsTold_8 : decode cX12_passAsTold 8 = .ok (.iload_n 1, 1) := by decide +kernel
theorem dX12_passAsTold_9 : decode cX12_passAsTold 9 = .ok (.iconst 3, 1) := by decide +kernel
theorem dX12_passAsTold_10 : decode cX12_passAsTold 10 = .ok (.iadd, 1) := by decide +kernel
theorem dX12_passAsTold_11 : decode cX12_passAsTold 11 = .ok (.iaload, 1) := by decide +kernel
theorem dX12_passAsTold_12 : decode cX12_passAsTold 12 = .ok (.aload_n 0, 1) := by decide +kernel
theorem dX12_passAsTold_13 : decode cX12_passAsTold 13 = .ok (.getfield 7, 3) := by decide +kernel
theorem dX12_passAsTold_16 : decode cX12_passAsTold 16 = .ok (.iload_n 1, 1) := by decide +kernel
theorem dX12_passAsTold_17 : decode cX12_passAsTold 17 = .ok (.iconst 2, 1) := by decide +kernel
theorem dX12_passAsTold_18 : decode cX12_passAsTold 18 = .ok (.iadd, 1) := by decide +kernel
theorem dX12_passAsTold_19 : decode cX12_passAsTold 19 = .ok (.iaload, 1) := by decide +kernel
theorem dX12_passAsTold_20 : decode cX12_passAsTold 20 = .ok (.irem, 1) := by decide +kernel
theorem dX12_passAsTold_21 : decode cX12_passAsTold 21 = .ok (.invokevirtual 161, 3) := by decide +kernel
theorem dX12_passAsTold_24 : decode cX12_passAsTold 24 = .ok (.invokevirtual 164, 3) := by decide +kernel
theorem dX12_passAsTold_27 : decode cX12_passAsTold 27 = .ok (.return_, 1) := by decide +kernel
theorem dX12_layTried_0 : decode cX12_layTried 0 = .ok (.aload_n 0, 1) := by decide +kernel
theorem dX12_layTried_1 : decode cX12_layTried 1 = .ok (.iconst 0, 1) := by decide +kernel
theorem dX12_layTried_2 : decode cX12_layTried 2 = .ok (.sipush 1782, 3) := by decide +kernel
theorem dX12_layTried_5 : decode cX12_layTried 5 = .ok (.invokevirtual 128, 3) := by decide +kernel
theorem dX12_layTried_8 : decode cX12_layTried 8 = .ok (.iconst 0, 1) := by decide +kernel
theorem dX12_layTried_9 : decode cX12_layTried 9 = .ok (.istore_n 2, 1) := by decide +kernel
theorem dX12_layTried_10 : decode cX12_layTried 10 = .ok (.iload_n 2, 1) := by decide +kernel
theorem dX12_layTried_11 : decode cX12_layTried 11 = .ok (.iload_n 1, 1) := by decide +kernel
theorem dX12_layTried_12 : decode cX12_layTried 12 = .ok (.if_icmp .ge 16, 3) := by decide +kernel
theorem dX12_layTried_15 : decode cX12_layTried 15 = .ok (.aload_n 0, 1) := by decide +kernel
theorem dX12_layTried_16 : decode cX12_layTried 16 = .ok (.sipush 1782, 3) := by decide +kernel
theorem dX12_layTried_19 : decode cX12_layTried 19 = .ok (.invokevirtual 167, 3) := by decide +kernel
theorem dX12_layTried_22 : decode cX12_layTried 22 = .ok (.iinc 2 1, 3) := by decide +kernel
theorem dX12_layTried_25 : decode cX12_layTried 25 = .ok (.goto (-15), 3) := by decide +kernel
theorem dX12_layTried_28 : decode cX12_layTried 28 = .ok (.return_, 1) := by decide +kernel
theorem dX12_weeks_0 : decode cX12_weeks 0 = .ok (.aload_n 0, 1) := by decide +kernel
theorem dX12_weeks_1 : decode cX12_weeks 1 = .ok (.getfield 132, 3) := by decide +kernel
theorem dX12_weeks_4 : decode cX12_weeks 4 = .ok (.ifCond .ne 6, 3) := by decide +kernel
theorem dX12_weeks_7 : decode cX12_weeks 7 = .ok (.ldc 139, 2) := by decide +kernel
theorem dX12_weeks_9 : decode cX12_weeks 9 = .ok (.ireturn, 1) := by decide +kernel
theorem dX12_weeks_10 : decode cX12_weeks 10 = .ok (.iload_n 1, 1) := by decide +kernel
theorem dX12_weeks_11 : decode cX12_weeks 11 = .ok (.i2l, 1) := by decide +kernel
theorem dX12_weeks_12 : decode cX12_weeks 12 = .ok (.lconst 1, 1) := by decide +kernel
theorem dX12_weeks_13 : decode cX12_weeks 13 = .ok (.ldc2_w 171, 3) := by decide +kernel
theorem dX12_weeks_16 : decode cX12_weeks 16 = .ok (.invokestatic 42, 3) := by decide +kernel
theorem dX12_weeks_19 : decode cX12_weeks 19 = .ok (.ifCond .ne 6, 3) := by decide +kernel
theorem dX12_weeks_22 : decode cX12_weeks 22 = .ok (.ldc 52, 2) := by decide +kernel
theorem dX12_weeks_24 : decode cX12_weeks 24 = .ok (.ireturn, 1) := by decide +kernel
theorem dX12_weeks_25 : decode cX12_weeks 25 = .ok (.aload_n 0, 1) := by decide +kernel
theorem dX12_weeks_26 : decode cX12_weeks 26 = .ok (.getfield 7, 3) := by decide +kernel
theorem dX12_weeks_29 : decode cX12_weeks 29 = .ok (.iconst 3, 1) := by decide +kernel
theorem dX12_weeks_30 : decode cX12_weeks 30 = .ok (.iaload, 1) := by decide +kernel
theorem dX12_weeks_31 : decode cX12_weeks 31 = .ok (.iload_n 1, 1) := by decide +kernel
theorem dX12_weeks_32 : decode cX12_weeks 32 = .ok (.iadd, 1) := by decide +kernel
theorem dX12_weeks_33 : decode cX12_weeks 33 = .ok (.sipush 999, 3) := by decide +kernel
theorem dX12_weeks_36 : decode cX12_weeks 36 = .ok (.if_icmp .le 6, 3) := by decide +kernel
theorem dX12_weeks_39 : decode cX12_weeks 39 = .ok (.ldc 73, 2) := by decide +kernel
theorem dX12_weeks_41 : decode cX12_weeks 41 = .ok (.ireturn, 1) := by decide +kernel
theorem dX12_weeks_42 : decode cX12_weeks 42 = .ok (.iconst 0, 1) := by decide +kernel
theorem dX12_weeks_43 : decode cX12_weeks 43 = .ok (.istore_n 2, 1) := by decide +kernel
theorem dX12_weeks_44 : decode cX12_weeks 44 = .ok (.iload_n 2, 1) := by decide +kernel
theorem dX12_weeks_45 : decode cX12_weeks 45 = .ok (.iload_n 1, 1) := by decide +kernel
theorem dX12_weeks_46 : decode cX12_weeks 46 = .ok (.if_icmp .ge 18, 3) := by decide +kernel
theorem dX12_weeks_49 : decode cX12_weeks 49 = .ok (.aload_n 0, 1) := by decide +kernel
theorem dX12_weeks_50 : decode cX12_weeks 50 = .ok (.invokevirtual 173, 3) := by decide +kernel
theorem dX12_weeks_53 : decode cX12_weeks 53 = .ok (.aload_n 0, 1) := by decide +kernel
theorem dX12_weeks_54 : decode cX12_weeks 54 = .ok (.iconst 0, 1) := by decide +kernel
theorem dX12_weeks_55 : decode cX12_weeks 55 = .ok (.invokevirtual 167, 3) := by decide +kernel
theorem dX12_weeks_58 : decode cX12_weeks 58 = .ok (.iinc 2 1, 3) := by decide +kernel
theorem dX12_weeks_61 : decode cX12_weeks 61 = .ok (.goto (-17), 3) := by decide +kernel
theorem dX12_weeks_64 : decode cX12_weeks 64 = .ok (.aload_n 0, 1) := by decide +kernel
theorem dX12_weeks_65 : decode cX12_weeks 65 = .ok (.getfield 7, 3) := by decide +kernel
theorem dX12_weeks_68 : decode cX12_weeks 68 = .ok (.iconst 4, 1) := by decide +kernel
theorem dX12_weeks_69 : decode cX12_weeks 69 = .ok (.iaload, 1) := by decide +kernel
theorem dX12_weeks_70 : decode cX12_weeks 70 = .ok (.ireturn, 1) := by decide +kernel
theorem dX12_leave_0 : decode cX12_leave 0 = .ok (.aload_n 0, 1) := by decide +kernel
theorem dX12_leave_1 : decode cX12_leave 1 = .ok (.getfield 132, 3) := by decide +kernel
theorem dX12_leave_4 : decode cX12_leave 4 = .ok (.ifCond .ne 6, 3) := by decide +kernel
theorem dX12_leave_7 : decode cX12_leave 7 = .ok (.ldc 139, 2) := by decide +kernel
theorem dX12_leave_9 : decode cX12_leave 9 = .ok (.ireturn, 1) := by decide +kernel
theorem dX12_leave_10 : decode cX12_leave 10 = .ok (.iload_n 1, 1) := by decide +kernel
theorem dX12_leave_11 : decode cX12_leave 11 = .ok (.invokestatic 176, 3) := by decide +kernel
theorem dX12_leave_14 : decode cX12_leave 14 = .ok (.ifCond .ne 6, 3) := by decide +kernel
theorem dX12_leave_17 : decode cX12_leave 17 = .ok (.ldc 52, 2) := by decide +kernel
theorem dX12_leave_19 : decode cX12_leave 19 = .ok (.ireturn, 1) := by decide +kernel
theorem dX12_leave_20 : decode cX12_leave 20 = .ok (.aload_n 0, 1) := by decide +kernel
theorem dX12_leave_21 : decode cX12_leave 21 = .ok (.getfield 7, 3) := by decide +kernel
theorem dX12_leave_24 : decode cX12_leave 24 = .ok (.iconst 5, 1) := by decide +kernel
theorem dX12_leave_25 : decode cX12_leave 25 = .ok (.iaload, 1) := by decide +kernel
theorem dX12_leave_26 : decode cX12_leave 26 = .ok (.iload_n 1, 1) := by decide +kernel
theorem dX12_leave_27 : decode cX12_leave 27 = .ok (.invokestatic 148, 3) := by decide +kernel
theorem dX12_leave_30 : decode cX12_leave 30 = .ok (.ifCond .eq 6, 3) := by decide +kernel
theorem dX12_leave_33 : decode cX12_leave 33 = .ok (.ldc 139, 2) := by decide +kernel
theorem dX12_leave_35 : decode cX12_leave 35 = .ok (.ireturn, 1) := by decide +kernel
theorem dX12_leave_36 : decode cX12_leave 36 = .ok (.aload_n 0, 1) := by decide +kernel
theorem dX12_leave_37 : decode cX12_leave 37 = .ok (.invokevirtual 173, 3) := by decide +kernel
theorem dX12_leave_40 : decode cX12_leave 40 = .ok (.aload_n 0, 1) := by decide +kernel
theorem dX12_leave_41 : decode cX12_leave 41 = .ok (.getfield 7, 3) := by decide +kernel
theorem dX12_leave_44 : decode cX12_leave 44 = .ok (.iconst 5, 1) := by decide +kernel
theorem dX12_leave_45 : decode cX12_leave 45 = .ok (.dup2, 1) := by decide +kernel
theorem dX12_leave_46 : decode cX12_leave 46 = .ok (.iaload, 1) := by decide +kernel
theorem dX12_leave_47 : decode cX12_leave 47 = .ok (.iconst 1, 1) := by decide +kernel
theorem dX12_leave_48 : decode cX12_leave 48 = .ok (.iload_n 1, 1) := by decide +kernel
theorem dX12_leave_49 : decode cX12_leave 49 = .ok (.ishl, 1) := by decide +kernel
theorem dX12_leave_50 : decode cX12_leave 50 = .ok (.ior, 1) := by decide +kernel
theorem dX12_leave_51 : decode cX12_leave 51 = .ok (.iastore, 1) := by decide +kernel
theorem dX12_leave_52 : decode cX12_leave 52 = .ok (.aload_n 0, 1) := by decide +kernel
theorem dX12_leave_53 : decode cX12_leave 53 = .ok (.getfield 7, 3) := by decide +kernel
theorem dX12_leave_56 : decode cX12_leave 56 = .ok (.iconst 5, 1) := by decide +kernel
theorem dX12_leave_57 : decode cX12_leave 57 = .ok (.iaload, 1) := by decide +kernel
theorem dX12_leave_58 : decode cX12_leave 58 = .ok (.ireturn, 1) := by decide +kernel
theorem dX12_name_0 : decode cX12_name 0 = .ok (.aload_n 0, 1) := by decide +kernel
theorem dX12_name_1 : decode cX12_name 1 = .ok (.getfield 132, 3) := by decide +kernel
theorem dX12_name_4 : decode cX12_name 4 = .ok (.ifCond .ne 6, 3) := by decide +kernel
theorem dX12_name_7 : decode cX12_name 7 = .ok (.ldc 139, 2) := by decide +kernel
theorem dX12_name_9 : decode cX12_name 9 = .ok (.ireturn, 1) := by decide +kernel
theorem dX12_name_10 : decode cX12_name 10 = .ok (.iload_n 1, 1) := by decide +kernel
theorem dX12_name_11 : decode cX12_name 11 = .ok (.i2l, 1) := by decide +kernel
theorem dX12_name_12 : decode cX12_name 12 = .ok (.lconst 0, 1) := by decide +kernel
theorem dX12_name_13 : decode cX12_name 13 = .ok (.aload_n 0, 1) := by decide +kernel
theorem dX12_name_14 : decode cX12_name 14 = .ok (.getfield 7, 3) := by decide +kernel
theorem dX12_name_17 : decode cX12_name 17 = .ok (.iconst 0, 1) := by decide +kernel
theorem dX12_name_18 : decode cX12_name 18 = .ok (.iaload, 1) := by decide +kernel
theorem dX12_name_19 : decode cX12_name 19 = .ok (.iconst 1, 1) := by decide +kernel
theorem dX12_name_20 : decode cX12_name 20 = .ok (.isub, 1) := by decide +kernel
theorem dX12_name_21 : decode cX12_name 21 = .ok (.i2l, 1) := by decide +kernel
theorem dX12_name_22 : decode cX12_name 22 = .ok (.invokestatic 42, 3) := by decide +kernel
theorem dX12_name_25 : decode cX12_name 25 = .ok (.ifCond .eq 15, 3) := by decide +kernel
theorem dX12_name_28 : decode cX12_name 28 = .ok (.iload_n 2, 1) := by decide +kernel
theorem dX12_name_29 : decode cX12_name 29 = .ok (.i2l, 1) := by decide +kernel
theorem dX12_name_30 : decode cX12_name 30 = .ok (.lconst 0, 1) := by decide +kernel
theorem dX12_name_31 : decode cX12_name 31 = .ok (.ldc2_w 179, 3) := by decide +kernel
theorem dX12_name_34 : decode cX12_name 34 = .ok (.invokestatic 42, 3) := by decide +kernel
theorem dX12_name_37 : decode cX12_name 37 = .ok (.ifCond .ne 6, 3) := by decide +kernel
theorem dX12_name_40 : decode cX12_name 40 = .ok (.ldc 52, 2) := by decide +kernel
theorem dX12_name_42 : decode cX12_name 42 = .ok (.ireturn, 1) := by decide +kernel
theorem dX12_name_43 : decode cX12_name 43 = .ok (.aload_n 0, 1) := by decide +kernel
theorem dX12_name_44 : decode cX12_name 44 = .ok (.invokevirtual 173, 3) := by decide +kernel
theorem dX12_name_47 : decode cX12_name 47 = .ok (.aload_n 0, 1) := by decide +kernel
theorem dX12_name_48 : decode cX12_name 48 = .ok (.getfield 7, 3) := by decide +kernel
theorem dX12_name_51 : decode cX12_name 51 = .ok (.bipush 6, 2) := by decide +kernel
theorem dX12_name_53 : decode cX12_name 53 = .ok (.iload_n 1, 1) := by decide +kernel
theorem dX12_name_54 : decode cX12_name 54 = .ok (.iadd, 1) := by decide +kernel
theorem dX12_name_55 : decode cX12_name 55 = .ok (.iaload, 1) := by decide +kernel
theorem dX12_name_56 : decode cX12_name 56 = .ok (.istore_n 3, 1) := by decide +kernel
theorem dX12_name_57 : decode cX12_name 57 = .ok (.aload_n 0, 1) := by decide +kernel
theorem dX12_name_58 : decode cX12_name 58 = .ok (.getfield 7, 3) := by decide +kernel
theorem dX12_name_61 : decode cX12_name 61 = .ok (.bipush 6, 2) := by decide +kernel
theorem dX12_name_63 : decode cX12_name 63 = .ok (.iload_n 1, 1) := by decide +kernel
theorem dX12_name_64 : decode cX12_name 64 = .ok (.iadd, 1) := by decide +kernel
theorem dX12_name_65 : decode cX12_name 65 = .ok (.iload_n 2, 1) := by decide +kernel
theorem dX12_name_66 : decode cX12_name 66 = .ok (.iastore, 1) := by decide +kernel
theorem dX12_name_67 : decode cX12_name 67 = .ok (.iload_n 3, 1) := by decide +kernel
theorem dX12_name_68 : decode cX12_name 68 = .ok (.ireturn, 1) := by decide +kernel
theorem dX12_job_0 : decode cX12_job 0 = .ok (.aload_n 0, 1) := by decide +kernel
theorem dX12_job_1 : decode cX12_job 1 = .ok (.getfield 132, 3) := by decide +kernel
theorem dX12_job_4 : decode cX12_job 4 = .ok (.ifCond .ne 6, 3) := by decide +kernel
theorem dX12_job_7 : decode cX12_job 7 = .ok (.ldc 139, 2) := by decide +kernel
theorem dX12_job_9 : decode cX12_job 9 = .ok (.ireturn, 1) := by decide +kernel
theorem dX12_job_10 : decode cX12_job 10 = .ok (.iload_n 1, 1) := by decide +kernel
theorem dX12_job_11 : decode cX12_job 11 = .ok (.i2l, 1) := by decide +kernel
theorem dX12_job_12 : decode cX12_job 12 = .ok (.lconst 0, 1) := by decide +kernel
theorem dX12_job_13 : decode cX12_job 13 = .ok (.aload_n 0, 1) := by decide +kernel
theorem dX12_job_14 : decode cX12_job 14 = .ok (.getfield 7, 3) := by decide +kernel
theorem dX12_job_17 : decode cX12_job 17 = .ok (.iconst 1, 1) := by decide +kernel
theorem dX12_job_18 : decode cX12_job 18 = .ok (.iaload, 1) := by decide +kernel
theorem dX12_job_19 : decode cX12_job 19 = .ok (.iconst 1, 1) := by decide +kernel
theorem dX12_job_20 : decode cX12_job 20 = .ok (.isub, 1) := by decide +kernel
theorem dX12_job_21 : decode cX12_job 21 = .ok (.i2l, 1) := by decide +kernel
theorem dX12_job_22 : decode cX12_job 22 = .ok (.invokestatic 42, 3) := by decide +kernel
theorem dX12_job_25 : decode cX12_job 25 = .ok (.ifCond .eq 15, 3) := by decide +kernel
theorem dX12_job_28 : decode cX12_job 28 = .ok (.iload_n 2, 1) := by decide +kernel
theorem dX12_job_29 : decode cX12_job 29 = .ok (.i2l, 1) := by decide +kernel
theorem dX12_job_30 : decode cX12_job 30 = .ok (.lconst 0, 1) := by decide +kernel
theorem dX12_job_31 : decode cX12_job 31 = .ok (.ldc2_w 179, 3) := by decide +kernel
theorem dX12_job_34 : decode cX12_job 34 = .ok (.invokestatic 42, 3) := by decide +kernel
theorem dX12_job_37 : decode cX12_job 37 = .ok (.ifCond .ne 6, 3) := by decide +kernel
theorem dX12_job_40 : decode cX12_job 40 = .ok (.ldc 52, 2) := by decide +kernel
theorem dX12_job_42 : decode cX12_job 42 = .ok (.ireturn, 1) := by decide +kernel
theorem dX12_job_43 : decode cX12_job 43 = .ok (.aload_n 0, 1) := by decide +kernel
theorem dX12_job_44 : decode cX12_job 44 = .ok (.invokevirtual 173, 3) := by decide +kernel
theorem dX12_job_47 : decode cX12_job 47 = .ok (.aload_n 0, 1) := by decide +kernel
theorem dX12_job_48 : decode cX12_job 48 = .ok (.getfield 7, 3) := by decide +kernel
theorem dX12_job_51 : decode cX12_job 51 = .ok (.bipush 14, 2) := by decide +kernel
theorem dX12_job_53 : decode cX12_job 53 = .ok (.iload_n 1, 1) := by decide +kernel
theorem dX12_job_54 : decode cX12_job 54 = .ok (.iadd, 1) := by decide +kernel
theorem dX12_job_55 : decode cX12_job 55 = .ok (.iaload, 1) := by decide +kernel
theorem dX12_job_56 : decode cX12_job 56 = .ok (.istore_n 3, 1) := by decide +kernel
theorem dX12_job_57 : decode cX12_job 57 = .ok (.aload_n 0, 1) := by decide +kernel
theorem dX12_job_58 : decode cX12_job 58 = .ok (.getfield 7, 3) := by decide +kernel
theorem dX12_job_61 : decode cX12_job 61 = .ok (.bipush 14, 2) := by decide +kernel
theorem dX12_job_63 : decode cX12_job 63 = .ok (.iload_n 1, 1) := by decide +kernel
theorem dX12_job_64 : decode cX12_job 64 = .ok (.iadd, 1) := by decide +kernel
theorem dX12_job_65 : decode cX12_job 65 = .ok (.iload_n 2, 1) := by decide +kernel
theorem dX12_job_66 : decode cX12_job 66 = .ok (.iastore, 1) := by decide +kernel
theorem dX12_job_67 : decode cX12_job 67 = .ok (.iload_n 3, 1) := by decide +kernel
theorem dX12_job_68 : decode cX12_job 68 = .ok (.ireturn, 1) := by decide +kernel
theorem dX12_turn_0 : decode cX12_turn 0 = .ok (.aload_n 0, 1) := by decide +kernel
theorem dX12_turn_1 : decode cX12_turn 1 = .ok (.getfield 132, 3) := by decide +kernel
theorem dX12_turn_4 : decode cX12_turn 4 = .ok (.ifCond .ne 6, 3) := by decide +kernel
theorem dX12_turn_7 : decode cX12_turn 7 = .ok (.ldc 139, 2) := by decide +kernel
theorem dX12_turn_9 : decode cX12_turn 9 = .ok (.ireturn, 1) := by decide +kernel
theorem dX12_turn_10 : decode cX12_turn 10 = .ok (.iload_n 1, 1) := by decide +kernel
theorem dX12_turn_11 : decode cX12_turn 11 = .ok (.i2l, 1) := by decide +kernel
theorem dX12_turn_12 : decode cX12_turn 12 = .ok (.lconst 1, 1) := by decide +kernel
theorem dX12_turn_13 : decode cX12_turn 13 = .ok (.ldc2_w 181, 3) := by decide +kernel
theorem dX12_turn_16 : decode cX12_turn 16 = .ok (.invokestatic 42, 3) := by decide +kernel
theorem dX12_turn_19 : decode cX12_turn 19 = .ok (.ifCond .ne 6, 3) := by decide +kernel
theorem dX12_turn_22 : decode cX12_turn 22 = .ok (.ldc 52, 2) := by decide +kernel
theorem dX12_turn_24 : decode cX12_turn 24 = .ok (.ireturn, 1) := by decide +kernel
theorem dX12_turn_25 : decode cX12_turn 25 = .ok (.aload_n 0, 1) := by decide +kernel
theorem dX12_turn_26 : decode cX12_turn 26 = .ok (.invokevirtual 173, 3) := by decide +kernel
theorem dX12_turn_29 : decode cX12_turn 29 = .ok (.aload_n 0, 1) := by decide +kernel
theorem dX12_turn_30 : decode cX12_turn 30 = .ok (.iconst 0, 1) := by decide +kernel
theorem dX12_turn_31 : decode cX12_turn 31 = .ok (.iload_n 1, 1) := by decide +kernel
theorem dX12_turn_32 : decode cX12_turn 32 = .ok (.invokevirtual 158, 3) := by decide +kernel
theorem dX12_turn_35 : decode cX12_turn 35 = .ok (.aload_n 0, 1) := by decide +kernel
theorem dX12_turn_36 : decode cX12_turn 36 = .ok (.getfield 7, 3) := by decide +kernel
theorem dX12_turn_39 : decode cX12_turn 39 = .ok (.iconst 4, 1) := by decide +kernel
theorem dX12_turn_40 : decode cX12_turn 40 = .ok (.iaload, 1) := by decide +kernel
theorem dX12_turn_41 : decode cX12_turn 41 = .ok (.ireturn, 1) := by decide +kernel
theorem dX12_done_0 : decode cX12_done 0 = .ok (.aload_n 0, 1) := by decide +kernel
theorem dX12_done_1 : decode cX12_done 1 = .ok (.getfield 132, 3) := by decide +kernel
theorem dX12_done_4 : decode cX12_done 4 = .ok (.ifCond .ne 6, 3) := by decide +kernel
theorem dX12_done_7 : decode cX12_done 7 = .ok (.ldc 139, 2) := by decide +kernel
theorem dX12_done_9 : decode cX12_done 9 = .ok (.ireturn, 1) := by decide +kernel
theorem dX12_done_10 : decode cX12_done 10 = .ok (.iload_n 1, 1) := by decide +kernel
theorem dX12_done_11 : decode cX12_done 11 = .ok (.invokestatic 176, 3) := by decide +kernel
theorem dX12_done_14 : decode cX12_done 14 = .ok (.ifCond .eq 27, 3) := by decide +kernel
theorem dX12_done_17 : decode cX12_done 17 = .ok (.iload_n 2, 1) := by decide +kernel
theorem dX12_done_18 : decode cX12_done 18 = .ok (.invokestatic 176, 3) := by decide +kernel
theorem dX12_done_21 : decode cX12_done 21 = .ok (.ifCond .eq 20, 3) := by decide +kernel
theorem dX12_done_24 : decode cX12_done 24 = .ok (.aload_n 0, 1) := by decide +kernel
theorem dX12_done_25 : decode cX12_done 25 = .ok (.getfield 7, 3) := by decide +kernel
theorem dX12_done_28 : decode cX12_done 28 = .ok (.bipush 30, 2) := by decide +kernel
theorem dX12_done_30 : decode cX12_done 30 = .ok (.bipush 6, 2) := by decide +kernel
theorem dX12_done_32 : decode cX12_done 32 = .ok (.iload_n 1, 1) := by decide +kernel
theorem dX12_done_33 : decode cX12_done 33 = .ok (.imul, 1) := by decide +kernel
theorem dX12_done_34 : decode cX12_done 34 = .ok (.iadd, 1) := by decide +kernel
theorem dX12_done_35 : decode cX12_done 35 = .ok (.iload_n 2, 1) := by decide +kernel
theorem dX12_done_36 : decode cX12_done 36 = .ok (.iadd, 1) := by decide +kernel
theorem dX12_done_37 : decode cX12_done 37 = .ok (.iaload, 1) := by decide +kernel
theorem dX12_done_38 : decode cX12_done 38 = .ok (.goto 5, 3) := by decide +kernel
theorem dX12_done_41 : decode cX12_done 41 = .ok (.ldc 52, 2) := by decide +kernel
theorem dX12_done_43 : decode cX12_done 43 = .ok (.ireturn, 1) := by decide +kernel
theorem dX12_slot_0 : decode cX12_slot 0 = .ok (.aload_n 0, 1) := by decide +kernel
theorem dX12_slot_1 : decode cX12_slot 1 = .ok (.getfield 132, 3) := by decide +kernel
theorem dX12_slot_4 : decode cX12_slot 4 = .ok (.ifCond .ne 6, 3) := by decide +kernel
theorem dX12_slot_7 : decode cX12_slot 7 = .ok (.ldc 139, 2) := by decide +kernel
theorem dX12_slot_9 : decode cX12_slot 9 = .ok (.ireturn, 1) := by decide +kernel
theorem dX12_slot_10 : decode cX12_slot 10 = .ok (.iload_n 1, 1) := by decide +kernel
theorem dX12_slot_11 : decode cX12_slot 11 = .ok (.i2l, 1) := by decide +kernel
theorem dX12_slot_12 : decode cX12_slot 12 = .ok (.lconst 0, 1) := by decide +kernel
theorem dX12_slot_13 : decode cX12_slot 13 = .ok (.ldc2_w 40, 3) := by decide +kernel
theorem dX12_slot_16 : decode cX12_slot 16 = .ok (.invokestatic 42, 3) := by decide +kernel
theorem dX12_slot_19 : decode cX12_slot 19 = .ok (.ifCond .eq 15, 3) := by decide +kernel
theorem dX12_slot_22 : decode cX12_slot 22 = .ok (.iload_n 2, 1) := by decide +kernel
theorem dX12_slot_23 : decode cX12_slot 23 = .ok (.i2l, 1) := by decide +kernel
theorem dX12_slot_24 : decode cX12_slot 24 = .ok (.lconst 0, 1) := by decide +kernel
theorem dX12_slot_25 : decode cX12_slot 25 = .ok (.ldc2_w 50, 3) := by decide +kernel
theorem dX12_slot_28 : decode cX12_slot 28 = .ok (.invokestatic 42, 3) := by decide +kernel
theorem dX12_slot_31 : decode cX12_slot 31 = .ok (.ifCond .ne 6, 3) := by decide +kernel
theorem dX12_slot_34 : decode cX12_slot 34 = .ok (.ldc 52, 2) := by decide +kernel
theorem dX12_slot_36 : decode cX12_slot 36 = .ok (.ireturn, 1) := by decide +kernel
theorem dX12_slot_37 : decode cX12_slot 37 = .ok (.iload_n 1, 1) := by decide +kernel
theorem dX12_slot_38 : decode cX12_slot 38 = .ok (.aload_n 0, 1) := by decide +kernel
theorem dX12_slot_39 : decode cX12_slot 39 = .ok (.getfield 7, 3) := by decide +kernel
theorem dX12_slot_42 : decode cX12_slot 42 = .ok (.iload_n 2, 1) := by decide +kernel
theorem dX12_slot_43 : decode cX12_slot 43 = .ok (.iconst 1, 1) := by decide +kernel
theorem dX12_slot_44 : decode cX12_slot 44 = .ok (.if_icmp .ne 7, 3) := by decide +kernel
theorem dX12_slot_47 : decode cX12_slot 47 = .ok (.iconst 1, 1) := by decide +kernel
theorem dX12_slot_48 : decode cX12_slot 48 = .ok (.goto 4, 3) := by decide +kernel
theorem dX12_slot_51 : decode cX12_slot 51 = .ok (.iconst 0, 1) := by decide +kernel
theorem dX12_slot_52 : decode cX12_slot 52 = .ok (.iaload, 1) := by decide +kernel
theorem dX12_slot_53 : decode cX12_slot 53 = .ok (.if_icmp .ge 7, 3) := by decide +kernel
theorem dX12_slot_56 : decode cX12_slot 56 = .ok (.iconst 1, 1) := by decide +kernel
theorem dX12_slot_57 : decode cX12_slot 57 = .ok (.goto 4, 3) := by decide +kernel
theorem dX12_slot_60 : decode cX12_slot 60 = .ok (.iconst 0, 1) := by decide +kernel
theorem dX12_slot_61 : decode cX12_slot 61 = .ok (.istore_n 3, 1) := by decide +kernel
theorem dX12_slot_62 : decode cX12_slot 62 = .ok (.iload_n 3, 1) := by decide +kernel
theorem dX12_slot_63 : decode cX12_slot 63 = .ok (.ifCond .ne 6, 3) := by decide +kernel
theorem dX12_slot_66 : decode cX12_slot 66 = .ok (.ldc 99, 2) := by decide +kernel
theorem dX12_slot_68 : decode cX12_slot 68 = .ok (.ireturn, 1) := by decide +kernel
theorem dX12_slot_69 : decode cX12_slot 69 = .ok (.iload_n 2, 1) := by decide +kernel
theorem dX12_slot_70 : decode cX12_slot 70 = .ok (.iconst 2, 1) := by decide +kernel
theorem dX12_slot_71 : decode cX12_slot 71 = .ok (.if_icmp .ge 29, 3) := by decide +kernel
theorem dX12_slot_74 : decode cX12_slot 74 = .ok (.iload_n 2, 1) := by decide +kernel
theorem dX12_slot_75 : decode cX12_slot 75 = .ok (.ifCond .ne 15, 3) := by decide +kernel
theorem dX12_slot_78 : decode cX12_slot 78 = .ok (.aload_n 0, 1) := by decide +kernel
theorem dX12_slot_79 : decode cX12_slot 79 = .ok (.getfield 7, 3) := by decide +kernel
theorem dX12_slot_82 : decode cX12_slot 82 = .ok (.bipush 6, 2) := by decide +kernel
theorem dX12_slot_84 : decode cX12_slot 84 = .ok (.iload_n 1, 1) := by decide +kernel
theorem dX12_slot_85 : decode cX12_slot 85 = .ok (.iadd, 1) := by decide +kernel
theorem dX12_slot_86 : decode cX12_slot 86 = .ok (.iaload, 1) := by decide +kernel
theorem dX12_slot_87 : decode cX12_slot 87 = .ok (.goto 12, 3) := by decide +kernel
theorem dX12_slot_90 : decode cX12_slot 90 = .ok (.aload_n 0, 1) := by decide +kernel
theorem dX12_slot_91 : decode cX12_slot 91 = .ok (.getfield 7, 3) := by decide +kernel
theorem dX12_slot_94 : decode cX12_slot 94 = .ok (.bipush 14, 2) := by decide +kernel
theorem dX12_slot_96 : decode cX12_slot 96 = .ok (.iload_n 1, 1) := by decide +kernel
theorem dX12_slot_97 : decode cX12_slot 97 = .ok (.iadd, 1) := by decide +kernel
theorem dX12_slot_98 : decode cX12_slot 98 = .ok (.iaload, 1) := by decide +kernel
theorem dX12_slot_99 : decode cX12_slot 99 = .ok (.ireturn, 1) := by decide +kernel
theorem dX12_slot_100 : decode cX12_slot 100 = .ok (.aload_n 0, 1) := by decide +kernel
theorem dX12_slot_101 : decode cX12_slot 101 = .ok (.iconst 0, 1) := by decide +kernel
theorem dX12_slot_102 : decode cX12_slot 102 = .ok (.iload_n 1, 1) := by decide +kernel
theorem dX12_slot_103 : decode cX12_slot 103 = .ok (.invokevirtual 145, 3) := by decide +kernel
theorem dX12_slot_106 : decode cX12_slot 106 = .ok (.ldc 99, 2) := by decide +kernel
theorem dX12_slot_108 : decode cX12_slot 108 = .ok (.if_icmp .ne 8, 3) := by decide +kernel
theorem dX12_slot_111 : decode cX12_slot 111 = .ok (.bipush 6, 2) := by decide +kernel
theorem dX12_slot_113 : decode cX12_slot 113 = .ok (.goto 9, 3) := by decide +kernel
theorem dX12_slot_116 : decode cX12_slot 116 = .ok (.aload_n 0, 1) := by decide +kernel
theorem dX12_slot_117 : decode cX12_slot 117 = .ok (.iconst 0, 1) := by decide +kernel
theorem dX12_slot_118 : decode cX12_slot 118 = .ok (.iload_n 1, 1) := by decide +kernel
theorem dX12_slot_119 : decode cX12_slot 119 = .ok (.invokevirtual 145, 3) := by decide +kernel
theorem dX12_slot_122 : decode cX12_slot 122 = .ok (.ireturn, 1) := by decide +kernel
theorem dX12_isTurner_0 : decode cX12_isTurner 0 = .ok (.iload_n 1, 1) := by decide +kernel
theorem dX12_isTurner_1 : decode cX12_isTurner 1 = .ok (.i2l, 1) := by decide +kernel
theorem dX12_isTurner_2 : decode cX12_isTurner 2 = .ok (.lconst 0, 1) := by decide +kernel
theorem dX12_isTurner_3 : decode cX12_isTurner 3 = .ok (.aload_n 0, 1) := by decide +kernel
theorem dX12_isTurner_4 : decode cX12_isTurner 4 = .ok (.getfield 7, 3) := by decide +kernel
theorem dX12_isTurner_7 : decode cX12_isTurner 7 = .ok (.iconst 2, 1) := by decide +kernel
theorem dX12_isTurner_8 : decode cX12_isTurner 8 = .ok (.iaload, 1) := by decide +kernel
theorem dX12_isTurner_9 : decode cX12_isTurner 9 = .ok (.iconst 1, 1) := by decide +kernel
theorem dX12_isTurner_10 : decode cX12_isTurner 10 = .ok (.isub, 1) := by decide +kernel
theorem dX12_isTurner_11 : decode cX12_isTurner 11 = .ok (.i2l, 1) := by decide +kernel
theorem dX12_isTurner_12 : decode cX12_isTurner 12 = .ok (.invokestatic 42, 3) := by decide +kernel
theorem dX12_isTurner_15 : decode cX12_isTurner 15 = .ok (.ireturn, 1) := by decide +kernel
theorem dX12_turner_0 : decode cX12_turner 0 = .ok (.aload_n 0, 1) := by decide +kernel
theorem dX12_turner_1 : decode cX12_turner 1 = .ok (.iload_n 1, 1) := by decide +kernel
theorem dX12_turner_2 : decode cX12_turner 2 = .ok (.invokevirtual 183, 3) := by decide +kernel
theorem dX12_turner_5 : decode cX12_turner 5 = .ok (.ifCond .eq 13, 3) := by decide +kernel
theorem dX12_turner_8 : decode cX12_turner 8 = .ok (.iload_n 2, 1) := by decide +kernel
theorem dX12_turner_9 : decode cX12_turner 9 = .ok (.i2l, 1) := by decide +kernel
theorem dX12_turner_10 : decode cX12_turner 10 = .ok (.lconst 0, 1) := by decide +kernel
theorem dX12_turner_11 : decode cX12_turner 11 = .ok (.lconst 1, 1) := by decide +kernel
theorem dX12_turner_12 : decode cX12_turner 12 = .ok (.invokestatic 42, 3) := by decide +kernel
theorem dX12_turner_15 : decode cX12_turner 15 = .ok (.ifCond .ne 8, 3) := by decide +kernel
theorem dX12_turner_18 : decode cX12_turner 18 = .ok (.ldc 52, 2) := by decide +kernel
theorem dX12_turner_20 : decode cX12_turner 20 = .ok (.goto 29, 3) := by decide +kernel
theorem dX12_turner_23 : decode cX12_turner 23 = .ok (.iload_n 2, 1) := by decide +kernel
theorem dX12_turner_24 : decode cX12_turner 24 = .ok (.ifCond .ne 15, 3) := by decide +kernel
theorem dX12_turner_27 : decode cX12_turner 27 = .ok (.aload_n 0, 1) := by decide +kernel
theorem dX12_turner_28 : decode cX12_turner 28 = .ok (.getfield 7, 3) := by decide +kernel
theorem dX12_turner_31 : decode cX12_turner 31 = .ok (.bipush 26, 2) := by decide +kernel
theorem dX12_turner_33 : decode cX12_turner 33 = .ok (.iload_n 1, 1) := by decide +kernel
theorem dX12_turner_34 : decode cX12_turner 34 = .ok (.iadd, 1) := by decide +kernel
theorem dX12_turner_35 : decode cX12_turner 35 = .ok (.iaload, 1) := by decide +kernel
theorem dX12_turner_36 : decode cX12_turner 36 = .ok (.goto 13, 3) := by decide +kernel
theorem dX12_turner_39 : decode cX12_turner 39 = .ok (.sipush 1000, 3) := by decide +kernel
theorem dX12_turner_42 : decode cX12_turner 42 = .ok (.aload_n 0, 1) := by decide +kernel
theorem dX12_turner_43 : decode cX12_turner 43 = .ok (.iconst 0, 1) := by decide +kernel
theorem dX12_turner_44 : decode cX12_turner 44 = .ok (.iload_n 1, 1) := by decide +kernel
theorem dX12_turner_45 : decode cX12_turner 45 = .ok (.invokevirtual 161, 3) := by decide +kernel
theorem dX12_turner_48 : decode cX12_turner 48 = .ok (.iadd, 1) := by decide +kernel
theorem dX12_turner_49 : decode cX12_turner 49 = .ok (.ireturn, 1) := by decide +kernel
theorem dX12_doesTried_0 : decode cX12_doesTried 0 = .ok (.iconst 0, 1) := by decide +kernel
theorem dX12_doesTried_1 : decode cX12_doesTried 1 = .ok (.istore_n 3, 1) := by decide +kernel
theorem dX12_doesTried_2 : decode cX12_doesTried 2 = .ok (.iconst 0, 1) := by decide +kernel
theorem dX12_doesTried_3 : decode cX12_doesTried 3 = .ok (.istore 4, 2) := by decide +kernel
theorem dX12_doesTried_5 : decode cX12_doesTried 5 = .ok (.iload 4, 2) := by decide +kernel
theorem dX12_doesTried_7 : decode cX12_doesTried 7 = .ok (.aload_n 0, 1) := by decide +kernel
theorem dX12_doesTried_8 : decode cX12_doesTried 8 = .ok (.getfield 7, 3) := by decide +kernel
theorem dX12_doesTried_11 : decode cX12_doesTried 11 = .ok (.sipush 1782, 3) := by decide +kernel
theorem dX12_doesTried_14 : decode cX12_doesTried 14 = .ok (.iaload, 1) := by decide +kernel
theorem dX12_doesTried_15 : decode cX12_doesTried 15 = .ok (.if_icmp .ge 45, 3) := by decide +kernel
theorem dX12_doesTried_18 : decode cX12_doesTried 18 = .ok (.iload_n 3, 1) := by decide +kernel
theorem dX12_doesTried_19 : decode cX12_doesTried 19 = .ok (.ifCond .ne 29, 3) := by decide +kernel
theorem dX12_doesTried_22 : decode cX12_doesTried 22 = .ok (.aload_n 0, 1) := by decide +kernel
theorem dX12_doesTried_23 : decode cX12_doesTried 23 = .ok (.sipush 1782, 3) := by decide +kernel
theorem dX12_doesTried_26 : decode cX12_doesTried 26 = .ok (.iload 4, 2) := by decide +kernel
theorem dX12_doesTried_28 : decode cX12_doesTried 28 = .ok (.invokevirtual 155, 3) := by decide +kernel
theorem dX12_doesTried_31 : decode cX12_doesTried 31 = .ok (.iload_n 1, 1) := by decide +kernel
theorem dX12_doesTried_32 : decode cX12_doesTried 32 = .ok (.if_icmp .ne 20, 3) := by decide +kernel
theorem dX12_doesTried_35 : decode cX12_doesTried 35 = .ok (.aload_n 0, 1) := by decide +kernel
theorem dX12_doesTried_36 : decode cX12_doesTried 36 = .ok (.sipush 1782, 3) := by decide +kernel
theorem dX12_doesTried_39 : decode cX12_doesTried 39 = .ok (.iload 4, 2) := by decide +kernel
theorem dX12_doesTried_41 : decode cX12_doesTried 41 = .ok (.invokevirtual 145, 3) := by decide +kernel
theorem dX12_doesTried_44 : decode cX12_doesTried 44 = .ok (.iload_n 2, 1) := by decide +kernel
theorem dX12_doesTried_45 : decode cX12_doesTried 45 = .ok (.if_icmp .ne 7, 3) := by decide +kernel
theorem dX12_doesTried_48 : decode cX12_doesTried 48 = .ok (.iconst 1, 1) := by decide +kernel
theorem dX12_doesTried_49 : decode cX12_doesTried 49 = .ok (.goto 4, 3) := by decide +kernel
theorem dX12_doesTried_52 : decode cX12_doesTried 52 = .ok (.iconst 0, 1) := by decide +kernel
theorem dX12_doesTried_53 : decode cX12_doesTried 53 = .ok (.istore_n 3, 1) := by decide +kernel
theorem dX12_doesTried_54 : decode cX12_doesTried 54 = .ok (.iinc 4 1, 3) := by decide +kernel
theorem dX12_doesTried_57 : decode cX12_doesTried 57 = .ok (.goto (-52), 3) := by decide +kernel
theorem dX12_doesTried_60 : decode cX12_doesTried 60 = .ok (.iload_n 3, 1) := by decide +kernel
theorem dX12_doesTried_61 : decode cX12_doesTried 61 = .ok (.ireturn, 1) := by decide +kernel
theorem dX12_hasJobs_0 : decode cX12_hasJobs 0 = .ok (.aload_n 0, 1) := by decide +kernel
theorem dX12_hasJobs_1 : decode cX12_hasJobs 1 = .ok (.getfield 132, 3) := by decide +kernel
theorem dX12_hasJobs_4 : decode cX12_hasJobs 4 = .ok (.ifCond .ne 6, 3) := by decide +kernel
theorem dX12_hasJobs_7 : decode cX12_hasJobs 7 = .ok (.ldc 139, 2) := by decide +kernel
theorem dX12_hasJobs_9 : decode cX12_hasJobs 9 = .ok (.ireturn, 1) := by decide +kernel
theorem dX12_hasJobs_10 : decode cX12_hasJobs 10 = .ok (.iload_n 1, 1) := by decide +kernel
theorem dX12_hasJobs_11 : decode cX12_hasJobs 11 = .ok (.invokestatic 176, 3) := by decide +kernel
theorem dX12_hasJobs_14 : decode cX12_hasJobs 14 = .ok (.ifCond .eq 15, 3) := by decide +kernel
theorem dX12_hasJobs_17 : decode cX12_hasJobs 17 = .ok (.iload_n 2, 1) := by decide +kernel
theorem dX12_hasJobs_18 : decode cX12_hasJobs 18 = .ok (.i2l, 1) := by decide +kernel
theorem dX12_hasJobs_19 : decode cX12_hasJobs 19 = .ok (.lconst 0, 1) := by decide +kernel
theorem dX12_hasJobs_20 : decode cX12_hasJobs 20 = .ok (.ldc2_w 186, 3) := by decide +kernel
theorem dX12_hasJobs_23 : decode cX12_hasJobs 23 = .ok (.invokestatic 42, 3) := by decide +kernel
theorem dX12_hasJobs_26 : decode cX12_hasJobs 26 = .ok (.ifCond .ne 6, 3) := by decide +kernel
theorem dX12_hasJobs_29 : decode cX12_hasJobs 29 = .ok (.ldc 52, 2) := by decide +kernel
theorem dX12_hasJobs_31 : decode cX12_hasJobs 31 = .ok (.ireturn, 1) := by decide +kernel
theorem dX12_hasJobs_32 : decode cX12_hasJobs 32 = .ok (.aload_n 0, 1) := by decide +kernel
theorem dX12_hasJobs_33 : decode cX12_hasJobs 33 = .ok (.iload_n 2, 1) := by decide +kernel
theorem dX12_hasJobs_34 : decode cX12_hasJobs 34 = .ok (.invokevirtual 188, 3) := by decide +kernel
theorem dX12_hasJobs_37 : decode cX12_hasJobs 37 = .ok (.iconst 0, 1) := by decide +kernel
theorem dX12_hasJobs_38 : decode cX12_hasJobs 38 = .ok (.istore_n 3, 1) := by decide +kernel
theorem dX12_hasJobs_39 : decode cX12_hasJobs 39 = .ok (.iconst 0, 1) := by decide +kernel
theorem dX12_hasJobs_40 : decode cX12_hasJobs 40 = .ok (.istore 4, 2) := by decide +kernel
theorem dX12_hasJobs_42 : decode cX12_hasJobs 42 = .ok (.iload 4, 2) := by decide +kernel
theorem dX12_hasJobs_44 : decode cX12_hasJobs 44 = .ok (.bipush 6, 2) := by decide +kernel
theorem dX12_hasJobs_46 : decode cX12_hasJobs 46 = .ok (.if_icmp .ge 30, 3) := by decide +kernel
theorem dX12_hasJobs_49 : decode cX12_hasJobs 49 = .ok (.iload_n 3, 1) := by decide +kernel
theorem dX12_hasJobs_50 : decode cX12_hasJobs 50 = .ok (.aload_n 0, 1) := by decide +kernel
theorem dX12_hasJobs_51 : decode cX12_hasJobs 51 = .ok (.iload_n 1, 1) := by decide +kernel
theorem dX12_hasJobs_52 : decode cX12_hasJobs 52 = .ok (.iload 4, 2) := by decide +kernel
theorem dX12_hasJobs_54 : decode cX12_hasJobs 54 = .ok (.invokevirtual 191, 3) := by decide +kernel
theorem dX12_hasJobs_57 : decode cX12_hasJobs 57 = .ok (.ifCond .eq 10, 3) := by decide +kernel
theorem dX12_hasJobs_60 : decode cX12_hasJobs 60 = .ok (.iconst 1, 1) := by decide +kernel
theorem dX12_hasJobs_61 : decode cX12_hasJobs 61 = .ok (.iload 4, 2) := by decide +kernel
theorem dX12_hasJobs_63 : decode cX12_hasJobs 63 = .ok (.ishl, 1) := by decide +kernel
theorem dX12_hasJobs_64 : decode cX12_hasJobs 64 = .ok (.goto 4, 3) := by decide +kernel
theorem dX12_hasJobs_67 : decode cX12_hasJobs 67 = .ok (.iconst 0, 1) := by decide +kernel
theorem dX12_hasJobs_68 : decode cX12_hasJobs 68 = .ok (.ior, 1) := by decide +kernel
theorem dX12_hasJobs_69 : decode cX12_hasJobs 69 = .ok (.istore_n 3, 1) := by decide +kernel
theorem dX12_hasJobs_70 : decode cX12_hasJobs 70 = .ok (.iinc 4 1, 3) := by decide +kernel
theorem dX12_hasJobs_73 : decode cX12_hasJobs 73 = .ok (.goto (-31), 3) := by decide +kernel
theorem dX12_hasJobs_76 : decode cX12_hasJobs 76 = .ok (.iload_n 3, 1) := by decide +kernel
theorem dX12_hasJobs_77 : decode cX12_hasJobs 77 = .ok (.ireturn, 1) := by decide +kernel
theorem dX12_doersTried_0 : decode cX12_doersTried 0 = .ok (.iconst 0, 1) := by decide +kernel
theorem dX12_doersTried_1 : decode cX12_doersTried 1 = .ok (.istore_n 2, 1) := by decide +kernel
theorem dX12_doersTried_2 : decode cX12_doersTried 2 = .ok (.iconst 0, 1) := by decide +kernel
theorem dX12_doersTried_3 : decode cX12_doersTried 3 = .ok (.istore_n 3, 1) := by decide +kernel
theorem dX12_doersTried_4 : decode cX12_doersTried 4 = .ok (.iload_n 3, 1) := by decide +kernel
theorem dX12_doersTried_5 : decode cX12_doersTried 5 = .ok (.bipush 6, 2) := by decide +kernel
theorem dX12_doersTried_7 : decode cX12_doersTried 7 = .ok (.if_icmp .ge 28, 3) := by decide +kernel
theorem dX12_doersTried_10 : decode cX12_doersTried 10 = .ok (.iload_n 2, 1) := by decide +kernel
theorem dX12_doersTried_11 : decode cX12_doersTried 11 = .ok (.aload_n 0, 1) := by decide +kernel
theorem dX12_doersTried_12 : decode cX12_doersTried 12 = .ok (.iload_n 3, 1) := by decide +kernel
theorem dX12_doersTried_13 : decode cX12_doersTried 13 = .ok (.iload_n 1, 1) := by decide +kernel
theorem dX12_doersTried_14 : decode cX12_doersTried 14 = .ok (.invokevirtual 191, 3) := by decide +kernel
theorem dX12_doersTried_17 : decode cX12_doersTried 17 = .ok (.ifCond .eq 9, 3) := by decide +kernel
theorem dX12_doersTried_20 : decode cX12_doersTried 20 = .ok (.iconst 1, 1) := by decide +kernel
theorem dX12_doersTried_21 : decode cX12_doersTried 21 = .ok (.iload_n 3, 1) := by decide +kernel
theorem dX12_doersTried_22 : decode cX12_doersTried 22 = .ok (.ishl, 1) := by decide +kernel
theorem dX12_doersTried_23 : decode cX12_doersTried 23 = .ok (.goto 4, 3) := by decide +kernel
theorem dX12_doersTried_26 : decode cX12_doersTried 26 = .ok (.iconst 0, 1) := by decide +kernel
theorem dX12_doersTried_27 : decode cX12_doersTried 27 = .ok (.ior, 1) := by decide +kernel
theorem dX12_doersTried_28 : decode cX12_doersTried 28 = .ok (.istore_n 2, 1) := by decide +kernel
theorem dX12_doersTried_29 : decode cX12_doersTried 29 = .ok (.iinc 3 1, 3) := by decide +kernel
theorem dX12_doersTried_32 : decode cX12_doersTried 32 = .ok (.goto (-28), 3) := by decide +kernel
theorem dX12_doersTried_35 : decode cX12_doersTried 35 = .ok (.iload_n 2, 1) := by decide +kernel
theorem dX12_doersTried_36 : decode cX12_doersTried 36 = .ok (.ireturn, 1) := by decide +kernel
theorem dX12_whoDoes_0 : decode cX12_whoDoes 0 = .ok (.aload_n 0, 1) := by decide +kernel
theorem dX12_whoDoes_1 : decode cX12_whoDoes 1 = .ok (.getfield 132, 3) := by decide +kernel
theorem dX12_whoDoes_4 : decode cX12_whoDoes 4 = .ok (.ifCond .ne 6, 3) := by decide +kernel
theorem dX12_whoDoes_7 : decode cX12_whoDoes 7 = .ok (.ldc 139, 2) := by decide +kernel
theorem dX12_whoDoes_9 : decode cX12_whoDoes 9 = .ok (.ireturn, 1) := by decide +kernel
theorem dX12_whoDoes_10 : decode cX12_whoDoes 10 = .ok (.iload_n 1, 1) := by decide +kernel
theorem dX12_whoDoes_11 : decode cX12_whoDoes 11 = .ok (.invokestatic 176, 3) := by decide +kernel
theorem dX12_whoDoes_14 : decode cX12_whoDoes 14 = .ok (.ifCond .eq 15, 3) := by decide +kernel
theorem dX12_whoDoes_17 : decode cX12_whoDoes 17 = .ok (.iload_n 2, 1) := by decide +kernel
theorem dX12_whoDoes_18 : decode cX12_whoDoes 18 = .ok (.i2l, 1) := by decide +kernel
theorem dX12_whoDoes_19 : decode cX12_whoDoes 19 = .ok (.lconst 0, 1) := by decide +kernel
theorem dX12_whoDoes_20 : decode cX12_whoDoes 20 = .ok (.ldc2_w 186, 3) := by decide +kernel
theorem dX12_whoDoes_23 : decode cX12_whoDoes 23 = .ok (.invokestatic 42, 3) := by decide +kernel
theorem dX12_whoDoes_26 : decode cX12_whoDoes 26 = .ok (.ifCond .ne 6, 3) := by decide +kernel
theorem dX12_whoDoes_29 : decode cX12_whoDoes 29 = .ok (.ldc 52, 2) := by decide +kernel
theorem dX12_whoDoes_31 : decode cX12_whoDoes 31 = .ok (.ireturn, 1) := by decide +kernel
theorem dX12_whoDoes_32 : decode cX12_whoDoes 32 = .ok (.aload_n 0, 1) := by decide +kernel
theorem dX12_whoDoes_33 : decode cX12_whoDoes 33 = .ok (.iload_n 2, 1) := by decide +kernel
theorem dX12_whoDoes_34 : decode cX12_whoDoes 34 = .ok (.invokevirtual 188, 3) := by decide +kernel
theorem dX12_whoDoes_37 : decode cX12_whoDoes 37 = .ok (.aload_n 0, 1) := by decide +kernel
theorem dX12_whoDoes_38 : decode cX12_whoDoes 38 = .ok (.iload_n 1, 1) := by decide +kernel
theorem dX12_whoDoes_39 : decode cX12_whoDoes 39 = .ok (.invokevirtual 194, 3) := by decide +kernel
theorem dX12_whoDoes_42 : decode cX12_whoDoes 42 = .ok (.ireturn, 1) := by decide +kernel
theorem dX12_often_0 : decode cX12_often 0 = .ok (.aload_n 0, 1) := by decide +kernel
theorem dX12_often_1 : decode cX12_often 1 = .ok (.getfield 132, 3) := by decide +kernel
theorem dX12_often_4 : decode cX12_often 4 = .ok (.ifCond .ne 6, 3) := by decide +kernel
theorem dX12_often_7 : decode cX12_often 7 = .ok (.ldc 139, 2) := by decide +kernel
theorem dX12_often_9 : decode cX12_often 9 = .ok (.ireturn, 1) := by decide +kernel
theorem dX12_often_10 : decode cX12_often 10 = .ok (.iload_n 1, 1) := by decide +kernel
theorem dX12_often_11 : decode cX12_often 11 = .ok (.invokestatic 176, 3) := by decide +kernel
theorem dX12_often_14 : decode cX12_often 14 = .ok (.ifCond .eq 22, 3) := by decide +kernel
theorem dX12_often_17 : decode cX12_often 17 = .ok (.iload_n 2, 1) := by decide +kernel
theorem dX12_often_18 : decode cX12_often 18 = .ok (.invokestatic 176, 3) := by decide +kernel
theorem dX12_often_21 : decode cX12_often 21 = .ok (.ifCond .eq 15, 3) := by decide +kernel
theorem dX12_often_24 : decode cX12_often 24 = .ok (.iload_n 3, 1) := by decide +kernel
theorem dX12_often_25 : decode cX12_often 25 = .ok (.i2l, 1) := by decide +kernel
theorem dX12_often_26 : decode cX12_often 26 = .ok (.lconst 0, 1) := by decide +kernel
theorem dX12_often_27 : decode cX12_often 27 = .ok (.ldc2_w 186, 3) := by decide +kernel
theorem dX12_often_30 : decode cX12_often 30 = .ok (.invokestatic 42, 3) := by decide +kernel
theorem dX12_often_33 : decode cX12_often 33 = .ok (.ifCond .ne 6, 3) := by decide +kernel
theorem dX12_often_36 : decode cX12_often 36 = .ok (.ldc 52, 2) := by decide +kernel
theorem dX12_often_38 : decode cX12_often 38 = .ok (.ireturn, 1) := by decide +kernel
theorem dX12_often_39 : decode cX12_often 39 = .ok (.aload_n 0, 1) := by decide +kernel
theorem dX12_often_40 : decode cX12_often 40 = .ok (.iload_n 3, 1) := by decide +kernel
theorem dX12_often_41 : decode cX12_often 41 = .ok (.invokevirtual 188, 3) := by decide +kernel
theorem dX12_often_44 : decode cX12_often 44 = .ok (.aload_n 0, 1) := by decide +kernel
theorem dX12_often_45 : decode cX12_often 45 = .ok (.getfield 7, 3) := by decide +kernel
theorem dX12_often_48 : decode cX12_often 48 = .ok (.sipush 1812, 3) := by decide +kernel
theorem dX12_often_51 : decode cX12_often 51 = .ok (.bipush 6, 2) := by decide +kernel
theorem dX12_often_53 : decode cX12_often 53 = .ok (.iload_n 1, 1) := by decide +kernel
theorem dX12_often_54 : decode cX12_often 54 = .ok (.imul, 1) := by decide +kernel
theorem dX12_often_55 : decode cX12_often 55 = .ok (.iadd, 1) := by decide +kernel
theorem dX12_often_56 : decode cX12_often 56 = .ok (.iload_n 2, 1) := by decide +kernel
theorem dX12_often_57 : decode cX12_often 57 = .ok (.iadd, 1) := by decide +kernel
theorem dX12_often_58 : decode cX12_often 58 = .ok (.iaload, 1) := by decide +kernel
theorem dX12_often_59 : decode cX12_often 59 = .ok (.aload_n 0, 1) := by decide +kernel
theorem dX12_often_60 : decode cX12_often 60 = .ok (.getfield 7, 3) := by decide +kernel
theorem dX12_often_63 : decode cX12_often 63 = .ok (.bipush 30, 2) := by decide +kernel
theorem dX12_often_65 : decode cX12_often 65 = .ok (.bipush 6, 2) := by decide +kernel
theorem dX12_often_67 : decode cX12_often 67 = .ok (.iload_n 1, 1) := by decide +kernel
theorem dX12_often_68 : decode cX12_often 68 = .ok (.imul, 1) := by decide +kernel
theorem dX12_often_69 : decode cX12_often 69 = .ok (.iadd, 1) := by decide +kernel
theorem dX12_often_70 : decode cX12_often 70 = .ok (.iload_n 2, 1) := by decide +kernel
theorem dX12_often_71 : decode cX12_often 71 = .ok (.iadd, 1) := by decide +kernel
theorem dX12_often_72 : decode cX12_often 72 = .ok (.iaload, 1) := by decide +kernel
theorem dX12_often_73 : decode cX12_often 73 = .ok (.isub, 1) := by decide +kernel
theorem dX12_often_74 : decode cX12_often 74 = .ok (.ireturn, 1) := by decide +kernel
theorem dX12_meets_0 : decode cX12_meets 0 = .ok (.aload_n 0, 1) := by decide +kernel
theorem dX12_meets_1 : decode cX12_meets 1 = .ok (.getfield 132, 3) := by decide +kernel
theorem dX12_meets_4 : decode cX12_meets 4 = .ok (.ifCond .ne 6, 3) := by decide +kernel
theorem dX12_meets_7 : decode cX12_meets 7 = .ok (.ldc 139, 2) := by decide +kernel
theorem dX12_meets_9 : decode cX12_meets 9 = .ok (.ireturn, 1) := by decide +kernel
theorem dX12_meets_10 : decode cX12_meets 10 = .ok (.iload_n 1, 1) := by decide +kernel
theorem dX12_meets_11 : decode cX12_meets 11 = .ok (.invokestatic 176, 3) := by decide +kernel
theorem dX12_meets_14 : decode cX12_meets 14 = .ok (.ifCond .eq 10, 3) := by decide +kernel
theorem dX12_meets_17 : decode cX12_meets 17 = .ok (.iload_n 2, 1) := by decide +kernel
theorem dX12_meets_18 : decode cX12_meets 18 = .ok (.invokestatic 176, 3) := by decide +kernel
theorem dX12_meets_21 : decode cX12_meets 21 = .ok (.ifCond .ne 6, 3) := by decide +kernel
theorem dX12_meets_24 : decode cX12_meets 24 = .ok (.ldc 52, 2) := by decide +kernel
theorem dX12_meets_26 : decode cX12_meets 26 = .ok (.ireturn, 1) := by decide +kernel
theorem dX12_meets_27 : decode cX12_meets 27 = .ok (.aload_n 0, 1) := by decide +kernel
theorem dX12_meets_28 : decode cX12_meets 28 = .ok (.iconst 0, 1) := by decide +kernel
theorem dX12_meets_29 : decode cX12_meets 29 = .ok (.invokevirtual 188, 3) := by decide +kernel
theorem dX12_meets_32 : decode cX12_meets 32 = .ok (.iconst 0, 1) := by decide +kernel
theorem dX12_meets_33 : decode cX12_meets 33 = .ok (.istore_n 3, 1) := by decide +kernel
theorem dX12_meets_34 : decode cX12_meets 34 = .ok (.iload_n 3, 1) := by decide +kernel
theorem dX12_meets_35 : decode cX12_meets 35 = .ok (.bipush 61, 2) := by decide +kernel
theorem dX12_meets_37 : decode cX12_meets 37 = .ok (.if_icmp .ge 27, 3) := by decide +kernel
theorem dX12_meets_40 : decode cX12_meets 40 = .ok (.aload_n 0, 1) := by decide +kernel
theorem dX12_meets_41 : decode cX12_meets 41 = .ok (.iload_n 1, 1) := by decide +kernel
theorem dX12_meets_42 : decode cX12_meets 42 = .ok (.iload_n 2, 1) := by decide +kernel
theorem dX12_meets_43 : decode cX12_meets 43 = .ok (.invokevirtual 191, 3) := by decide +kernel
theorem dX12_meets_46 : decode cX12_meets 46 = .ok (.ifCond .eq 5, 3) := by decide +kernel
theorem dX12_meets_49 : decode cX12_meets 49 = .ok (.iload_n 3, 1) := by decide +kernel
theorem dX12_meets_50 : decode cX12_meets 50 = .ok (.ireturn, 1) := by decide +kernel
theorem dX12_meets_51 : decode cX12_meets 51 = .ok (.aload_n 0, 1) := by decide +kernel
theorem dX12_meets_52 : decode cX12_meets 52 = .ok (.sipush 1782, 3) := by decide +kernel
theorem dX12_meets_55 : decode cX12_meets 55 = .ok (.invokevirtual 167, 3) := by decide +kernel
theorem dX12_meets_58 : decode cX12_meets 58 = .ok (.iinc 3 1, 3) := by decide +kernel
theorem dX12_meets_61 : decode cX12_meets 61 = .ok (.goto (-27), 3) := by decide +kernel
theorem dX12_meets_64 : decode cX12_meets 64 = .ok (.ldc 99, 2) := by decide +kernel
theorem dX12_meets_66 : decode cX12_meets 66 = .ok (.ireturn, 1) := by decide +kernel
theorem dX12_onWheel_0 : decode cX12_onWheel 0 = .ok (.iconst 0, 1) := by decide +kernel
theorem dX12_onWheel_1 : decode cX12_onWheel 1 = .ok (.istore 4, 2) := by decide +kernel
theorem dX12_onWheel_3 : decode cX12_onWheel 3 = .ok (.iconst 0, 1) := by decide +kernel
theorem dX12_onWheel_4 : decode cX12_onWheel 4 = .ok (.istore 5, 2) := by decide +kernel
theorem dX12_onWheel_6 : decode cX12_onWheel 6 = .ok (.iload 5, 2) := by decide +kernel
theorem dX12_onWheel_8 : decode cX12_onWheel 8 = .ok (.aload_n 0, 1) := by decide +kernel
theorem dX12_onWheel_9 : decode cX12_onWheel 9 = .ok (.getfield 7, 3) := by decide +kernel
theorem dX12_onWheel_12 : decode cX12_onWheel 12 = .ok (.iload_n 1, 1) := by decide +kernel
theorem dX12_onWheel_13 : decode cX12_onWheel 13 = .ok (.iload_n 3, 1) := by decide +kernel
theorem dX12_onWheel_14 : decode cX12_onWheel 14 = .ok (.iadd, 1) := by decide +kernel
theorem dX12_onWheel_15 : decode cX12_onWheel 15 = .ok (.iaload, 1) := by decide +kernel
theorem dX12_onWheel_16 : decode cX12_onWheel 16 = .ok (.if_icmp .ge 42, 3) := by decide +kernel
theorem dX12_onWheel_19 : decode cX12_onWheel 19 = .ok (.aload_n 0, 1) := by decide +kernel
theorem dX12_onWheel_20 : decode cX12_onWheel 20 = .ok (.getfield 7, 3) := by decide +kernel
theorem dX12_onWheel_23 : decode cX12_onWheel 23 = .ok (.iload_n 1, 1) := by decide +kernel
theorem dX12_onWheel_24 : decode cX12_onWheel 24 = .ok (.iload_n 2, 1) := by decide +kernel
theorem dX12_onWheel_25 : decode cX12_onWheel 25 = .ok (.iadd, 1) := by decide +kernel
theorem dX12_onWheel_26 : decode cX12_onWheel 26 = .ok (.iload 5, 2) := by decide +kernel
theorem dX12_onWheel_28 : decode cX12_onWheel 28 = .ok (.iadd, 1) := by decide +kernel
theorem dX12_onWheel_29 : decode cX12_onWheel 29 = .ok (.iaload, 1) := by decide +kernel
theorem dX12_onWheel_30 : decode cX12_onWheel 30 = .ok (.istore 6, 2) := by decide +kernel
theorem dX12_onWheel_32 : decode cX12_onWheel 32 = .ok (.iload 4, 2) := by decide +kernel
theorem dX12_onWheel_34 : decode cX12_onWheel 34 = .ok (.iload 6, 2) := by decide +kernel
theorem dX12_onWheel_36 : decode cX12_onWheel 36 = .ok (.bipush 6, 2) := by decide +kernel
theorem dX12_onWheel_38 : decode cX12_onWheel 38 = .ok (.if_icmp .ne 7, 3) := by decide +kernel
theorem dX12_onWheel_41 : decode cX12_onWheel 41 = .ok (.iconst 0, 1) := by decide +kernel
theorem dX12_onWheel_42 : decode cX12_onWheel 42 = .ok (.goto 7, 3) := by decide +kernel
theorem dX12_onWheel_45 : decode cX12_onWheel 45 = .ok (.iconst 1, 1) := by decide +kernel
theorem dX12_onWheel_46 : decode cX12_onWheel 46 = .ok (.iload 6, 2) := by decide +kernel
theorem dX12_onWheel_48 : decode cX12_onWheel 48 = .ok (.ishl, 1) := by decide +kernel
theorem dX12_onWheel_49 : decode cX12_onWheel 49 = .ok (.ior, 1) := by decide +kernel
theorem dX12_onWheel_50 : decode cX12_onWheel 50 = .ok (.istore 4, 2) := by decide +kernel
theorem dX12_onWheel_52 : decode cX12_onWheel 52 = .ok (.iinc 5 1, 3) := by decide +kernel
theorem dX12_onWheel_55 : decode cX12_onWheel 55 = .ok (.goto (-49), 3) := by decide +kernel
theorem dX12_onWheel_58 : decode cX12_onWheel 58 = .ok (.iload 4, 2) := by decide +kernel
theorem dX12_onWheel_60 : decode cX12_onWheel 60 = .ok (.ireturn, 1) := by decide +kernel
theorem dX12_haveAllMet_0 : decode cX12_haveAllMet 0 = .ok (.aload_n 0, 1) := by decide +kernel
theorem dX12_haveAllMet_1 : decode cX12_haveAllMet 1 = .ok (.iconst 0, 1) := by decide +kernel
theorem dX12_haveAllMet_2 : decode cX12_haveAllMet 2 = .ok (.bipush 6, 2) := by decide +kernel
theorem dX12_haveAllMet_4 : decode cX12_haveAllMet 4 = .ok (.iconst 0, 1) := by decide +kernel
theorem dX12_haveAllMet_5 : decode cX12_haveAllMet 5 = .ok (.invokevirtual 197, 3) := by decide +kernel
theorem dX12_haveAllMet_8 : decode cX12_haveAllMet 8 = .ok (.istore_n 1, 1) := by decide +kernel
theorem dX12_haveAllMet_9 : decode cX12_haveAllMet 9 = .ok (.aload_n 0, 1) := by decide +kernel
theorem dX12_haveAllMet_10 : decode cX12_haveAllMet 10 = .ok (.iconst 0, 1) := by decide +kernel
theorem dX12_haveAllMet_11 : decode cX12_haveAllMet 11 = .ok (.bipush 14, 2) := by decide +kernel
theorem dX12_haveAllMet_13 : decode cX12_haveAllMet 13 = .ok (.iconst 1, 1) := by decide +kernel
theorem dX12_haveAllMet_14 : decode cX12_haveAllMet 14 = .ok (.invokevirtual 197, 3) := by decide +kernel
theorem dX12_haveAllMet_17 : decode cX12_haveAllMet 17 = .ok (.istore_n 2, 1) := by decide +kernel
theorem dX12_haveAllMet_18 : decode cX12_haveAllMet 18 = .ok (.iload_n 1, 1) := by decide +kernel
theorem dX12_haveAllMet_19 : decode cX12_haveAllMet 19 = .ok (.ifCond .eq 11, 3) := by decide +kernel
theorem dX12_haveAllMet_22 : decode cX12_haveAllMet 22 = .ok (.iload_n 2, 1) := by decide +kernel
theorem dX12_haveAllMet_23 : decode cX12_haveAllMet 23 = .ok (.ifCond .eq 7, 3) := by decide +kernel
theorem dX12_haveAllMet_26 : decode cX12_haveAllMet 26 = .ok (.iconst 1, 1) := by decide +kernel
theorem dX12_haveAllMet_27 : decode cX12_haveAllMet 27 = .ok (.goto 4, 3) := by decide +kernel
theorem dX12_haveAllMet_30 : decode cX12_haveAllMet 30 = .ok (.iconst 0, 1) := by decide +kernel
theorem dX12_haveAllMet_31 : decode cX12_haveAllMet 31 = .ok (.istore_n 3, 1) := by decide +kernel
theorem dX12_haveAllMet_32 : decode cX12_haveAllMet 32 = .ok (.iconst 0, 1) := by decide +kernel
theorem dX12_haveAllMet_33 : decode cX12_haveAllMet 33 = .ok (.istore 4, 2) := by decide +kernel
theorem dX12_haveAllMet_35 : decode cX12_haveAllMet 35 = .ok (.iload 4, 2) := by decide +kernel
theorem dX12_haveAllMet_37 : decode cX12_haveAllMet 37 = .ok (.bipush 36, 2) := by decide +kernel
theorem dX12_haveAllMet_39 : decode cX12_haveAllMet 39 = .ok (.if_icmp .ge 79, 3) := by decide +kernel
theorem dX12_haveAllMet_42 : decode cX12_haveAllMet 42 = .ok (.iload_n 1, 1) := by decide +kernel
theorem dX12_haveAllMet_43 : decode cX12_haveAllMet 43 = .ok (.iload 4, 2) := by decide +kernel
theorem dX12_haveAllMet_45 : decode cX12_haveAllMet 45 = .ok (.bipush 6, 2) := by decide +kernel
theorem dX12_haveAllMet_47 : decode cX12_haveAllMet 47 = .ok (.idiv, 1) := by decide +kernel
theorem dX12_haveAllMet_48 : decode cX12_haveAllMet 48 = .ok (.invokestatic 148, 3) := by decide +kernel
theorem dX12_haveAllMet_51 : decode cX12_haveAllMet 51 = .ok (.ifCond .eq 19, 3) := by decide +kernel
theorem dX12_haveAllMet_54 : decode cX12_haveAllMet 54 = .ok (.iload_n 2, 1) := by decide +kernel
theorem dX12_haveAllMet_55 : decode cX12_haveAllMet 55 = .ok (.iload 4, 2) := by decide +kernel
theorem dX12_haveAllMet_57 : decode cX12_haveAllMet 57 = .ok (.bipush 6, 2) := by decide +kernel
theorem dX12_haveAllMet_59 : decode cX12_haveAllMet 59 = .ok (.irem, 1) := by decide +kernel
theorem dX12_haveAllMet_60 : decode cX12_haveAllMet 60 = .ok (.invokestatic 148, 3) := by decide +kernel
theorem dX12_haveAllMet_63 : decode cX12_haveAllMet 63 = .ok (.ifCond .eq 7, 3) := by decide +kernel
theorem dX12_haveAllMet_66 : decode cX12_haveAllMet 66 = .ok (.iconst 1, 1) := by decide +kernel
theorem dX12_haveAllMet_67 : decode cX12_haveAllMet 67 = .ok (.goto 4, 3) := by decide +kernel
theorem dX12_haveAllMet_70 : decode cX12_haveAllMet 70 = .ok (.iconst 0, 1) := by decide +kernel
theorem dX12_haveAllMet_71 : decode cX12_haveAllMet 71 = .ok (.istore 5, 2) := by decide +kernel
theorem dX12_haveAllMet_73 : decode cX12_haveAllMet 73 = .ok (.iload_n 3, 1) := by decide +kernel
theorem dX12_haveAllMet_74 : decode cX12_haveAllMet 74 = .ok (.ifCond .eq 36, 3) := by decide +kernel
theorem dX12_haveAllMet_77 : decode cX12_haveAllMet 77 = .ok (.iload 5, 2) := by decide +kernel
theorem dX12_haveAllMet_79 : decode cX12_haveAllMet 79 = .ok (.ifCond .eq 27, 3) := by decide +kernel
theorem dX12_haveAllMet_82 : decode cX12_haveAllMet 82 = .ok (.aload_n 0, 1) := by decide +kernel
theorem dX12_haveAllMet_83 : decode cX12_haveAllMet 83 = .ok (.getfield 7, 3) := by decide +kernel
theorem dX12_haveAllMet_86 : decode cX12_haveAllMet 86 = .ok (.sipush 1812, 3) := by decide +kernel
theorem dX12_haveAllMet_89 : decode cX12_haveAllMet 89 = .ok (.iload 4, 2) := by decide +kernel
theorem dX12_haveAllMet_91 : decode cX12_haveAllMet 91 = .ok (.iadd, 1) := by decide +kernel
theorem dX12_haveAllMet_92 : decode cX12_haveAllMet 92 = .ok (.iaload, 1) := by decide +kernel
theorem dX12_haveAllMet_93 : decode cX12_haveAllMet 93 = .ok (.aload_n 0, 1) := by decide +kernel
theorem dX12_haveAllMet_94 : decode cX12_haveAllMet 94 = .ok (.getfield 7, 3) := by decide +kernel
theorem dX12_haveAllMet_97 : decode cX12_haveAllMet 97 = .ok (.bipush 30, 2) := by decide +kernel
theorem dX12_haveAllMet_99 : decode cX12_haveAllMet 99 = .ok (.iload 4, 2) := by decide +kernel
theorem dX12_haveAllMet_101 : decode cX12_haveAllMet 101 = .ok (.iadd, 1) := by decide +kernel
theorem dX12_haveAllMet_102 : decode cX12_haveAllMet 102 = .ok (.iaload, 1) := by decide +kernel
theorem dX12_haveAllMet_103 : decode cX12_haveAllMet 103 = .ok (.if_icmp .le 7, 3) := by decide +kernel
theorem dX12_haveAllMet_106 : decode cX12_haveAllMet 106 = .ok (.iconst 1, 1) := by decide +kernel
theorem dX12_haveAllMet_107 : decode cX12_haveAllMet 107 = .ok (.goto 4, 3) := by decide +kernel
theorem dX12_haveAllMet_110 : decode cX12_haveAllMet 110 = .ok (.iconst 0, 1) := by decide +kernel
theorem dX12_haveAllMet_111 : decode cX12_haveAllMet 111 = .ok (.istore_n 3, 1) := by decide +kernel
theorem dX12_haveAllMet_112 : decode cX12_haveAllMet 112 = .ok (.iinc 4 1, 3) := by decide +kernel
theorem dX12_haveAllMet_115 : decode cX12_haveAllMet 115 = .ok (.goto (-80), 3) := by decide +kernel
theorem dX12_haveAllMet_118 : decode cX12_haveAllMet 118 = .ok (.iload_n 3, 1) := by decide +kernel
theorem dX12_haveAllMet_119 : decode cX12_haveAllMet 119 = .ok (.ireturn, 1) := by decide +kernel
theorem dX12_allMet_0 : decode cX12_allMet 0 = .ok (.aload_n 0, 1) := by decide +kernel
theorem dX12_allMet_1 : decode cX12_allMet 1 = .ok (.getfield 132, 3) := by decide +kernel
theorem dX12_allMet_4 : decode cX12_allMet 4 = .ok (.ifCond .ne 6, 3) := by decide +kernel
theorem dX12_allMet_7 : decode cX12_allMet 7 = .ok (.ldc 139, 2) := by decide +kernel
theorem dX12_allMet_9 : decode cX12_allMet 9 = .ok (.ireturn, 1) := by decide +kernel
theorem dX12_allMet_10 : decode cX12_allMet 10 = .ok (.aload_n 0, 1) := by decide +kernel
theorem dX12_allMet_11 : decode cX12_allMet 11 = .ok (.iconst 0, 1) := by decide +kernel
theorem dX12_allMet_12 : decode cX12_allMet 12 = .ok (.invokevirtual 188, 3) := by decide +kernel
theorem dX12_allMet_15 : decode cX12_allMet 15 = .ok (.iconst 1, 1) := by decide +kernel
theorem dX12_allMet_16 : decode cX12_allMet 16 = .ok (.istore_n 1, 1) := by decide +kernel
theorem dX12_allMet_17 : decode cX12_allMet 17 = .ok (.iload_n 1, 1) := by decide +kernel
theorem dX12_allMet_18 : decode cX12_allMet 18 = .ok (.bipush 61, 2) := by decide +kernel
theorem dX12_allMet_20 : decode cX12_allMet 20 = .ok (.if_icmp .ge 25, 3) := by decide +kernel
theorem dX12_allMet_23 : decode cX12_allMet 23 = .ok (.aload_n 0, 1) := by decide +kernel
theorem dX12_allMet_24 : decode cX12_allMet 24 = .ok (.sipush 1782, 3) := by decide +kernel
theorem dX12_allMet_27 : decode cX12_allMet 27 = .ok (.invokevirtual 167, 3) := by decide +kernel
theorem dX12_allMet_30 : decode cX12_allMet 30 = .ok (.aload_n 0, 1) := by decide +kernel
theorem dX12_allMet_31 : decode cX12_allMet 31 = .ok (.invokevirtual 200, 3) := by decide +kernel
theorem dX12_allMet_34 : decode cX12_allMet 34 = .ok (.ifCond .eq 5, 3) := by decide +kernel
theorem dX12_allMet_37 : decode cX12_allMet 37 = .ok (.iload_n 1, 1) := by decide +kernel
theorem dX12_allMet_38 : decode cX12_allMet 38 = .ok (.ireturn, 1) := by decide +kernel
theorem dX12_allMet_39 : decode cX12_allMet 39 = .ok (.iinc 1 1, 3) := by decide +kernel
theorem dX12_allMet_42 : decode cX12_allMet 42 = .ok (.goto (-25), 3) := by decide +kernel
theorem dX12_allMet_45 : decode cX12_allMet 45 = .ok (.ldc 99, 2) := by decide +kernel
theorem dX12_allMet_47 : decode cX12_allMet 47 = .ok (.ireturn, 1) := by decide +kernel
theorem dX12_round_0 : decode cX12_round 0 = .ok (.aload_n 0, 1) := by decide +kernel
theorem dX12_round_1 : decode cX12_round 1 = .ok (.getfield 132, 3) := by decide +kernel
theorem dX12_round_4 : decode cX12_round 4 = .ok (.ifCond .ne 6, 3) := by decide +kernel
theorem dX12_round_7 : decode cX12_round 7 = .ok (.ldc 139, 2) := by decide +kernel
theorem dX12_round_9 : decode cX12_round 9 = .ok (.ireturn, 1) := by decide +kernel
theorem dX12_round_10 : decode cX12_round 10 = .ok (.aload_n 0, 1) := by decide +kernel
theorem dX12_round_11 : decode cX12_round 11 = .ok (.iconst 0, 1) := by decide +kernel
theorem dX12_round_12 : decode cX12_round 12 = .ok (.invokevirtual 188, 3) := by decide +kernel
theorem dX12_round_15 : decode cX12_round 15 = .ok (.iconst 1, 1) := by decide +kernel
theorem dX12_round_16 : decode cX12_round 16 = .ok (.istore_n 1, 1) := by decide +kernel
theorem dX12_round_17 : decode cX12_round 17 = .ok (.iload_n 1, 1) := by decide +kernel
theorem dX12_round_18 : decode cX12_round 18 = .ok (.bipush 101, 2) := by decide +kernel
theorem dX12_round_20 : decode cX12_round 20 = .ok (.if_icmp .ge 53, 3) := by decide +kernel
theorem dX12_round_23 : decode cX12_round 23 = .ok (.aload_n 0, 1) := by decide +kernel
theorem dX12_round_24 : decode cX12_round 24 = .ok (.sipush 1782, 3) := by decide +kernel
theorem dX12_round_27 : decode cX12_round 27 = .ok (.invokevirtual 167, 3) := by decide +kernel
theorem dX12_round_30 : decode cX12_round 30 = .ok (.aload_n 0, 1) := by decide +kernel
theorem dX12_round_31 : decode cX12_round 31 = .ok (.getfield 7, 3) := by decide +kernel
theorem dX12_round_34 : decode cX12_round 34 = .ok (.sipush 1786, 3) := by decide +kernel
theorem dX12_round_37 : decode cX12_round 37 = .ok (.iaload, 1) := by decide +kernel
theorem dX12_round_38 : decode cX12_round 38 = .ok (.aload_n 0, 1) := by decide +kernel
theorem dX12_round_39 : decode cX12_round 39 = .ok (.getfield 7, 3) := by decide +kernel
theorem dX12_round_42 : decode cX12_round 42 = .ok (.iconst 4, 1) := by decide +kernel
theorem dX12_round_43 : decode cX12_round 43 = .ok (.iaload, 1) := by decide +kernel
theorem dX12_round_44 : decode cX12_round 44 = .ok (.if_icmp .ne 23, 3) := by decide +kernel
theorem dX12_round_47 : decode cX12_round 47 = .ok (.iload_n 1, 1) := by decide +kernel
theorem dX12_round_48 : decode cX12_round 48 = .ok (.aload_n 0, 1) := by decide +kernel
theorem dX12_round_49 : decode cX12_round 49 = .ok (.getfield 7, 3) := by decide +kernel
theorem dX12_round_52 : decode cX12_round 52 = .ok (.iconst 2, 1) := by decide +kernel
theorem dX12_round_53 : decode cX12_round 53 = .ok (.iaload, 1) := by decide +kernel
theorem dX12_round_54 : decode cX12_round 54 = .ok (.irem, 1) := by decide +kernel
theorem dX12_round_55 : decode cX12_round 55 = .ok (.ifCond .ne 12, 3) := by decide +kernel
theorem dX12_round_58 : decode cX12_round 58 = .ok (.iload_n 1, 1) := by decide +kernel
theorem dX12_round_59 : decode cX12_round 59 = .ok (.bipush 6, 2) := by decide +kernel
theorem dX12_round_61 : decode cX12_round 61 = .ok (.irem, 1) := by decide +kernel
theorem dX12_round_62 : decode cX12_round 62 = .ok (.ifCond .ne 5, 3) := by decide +kernel
theorem dX12_round_65 : decode cX12_round 65 = .ok (.iload_n 1, 1) := by decide +kernel
theorem dX12_round_66 : decode cX12_round 66 = .ok (.ireturn, 1) := by decide +kernel
theorem dX12_round_67 : decode cX12_round 67 = .ok (.iinc 1 1, 3) := by decide +kernel
theorem dX12_round_70 : decode cX12_round 70 = .ok (.goto (-53), 3) := by decide +kernel
theorem dX12_round_73 : decode cX12_round 73 = .ok (.ldc 99, 2) := by decide +kernel
theorem dX12_round_75 : decode cX12_round 75 = .ok (.ireturn, 1) := by decide +kernel
theorem dX12_doneBy_0 : decode cX12_doneBy 0 = .ok (.iconst 0, 1) := by decide +kernel
theorem dX12_doneBy_1 : decode cX12_doneBy 1 = .ok (.istore_n 3, 1) := by decide +kernel
theorem dX12_doneBy_2 : decode cX12_doneBy 2 = .ok (.iconst 0, 1) := by decide +kernel
theorem dX12_doneBy_3 : decode cX12_doneBy 3 = .ok (.istore 4, 2) := by decide +kernel
theorem dX12_doneBy_5 : decode cX12_doneBy 5 = .ok (.iload 4, 2) := by decide +kernel
theorem dX12_doneBy_7 : decode cX12_doneBy 7 = .ok (.bipush 6, 2) := by decide +kernel
theorem dX12_doneBy_9 : decode cX12_doneBy 9 = .ok (.if_icmp .ge 29, 3) := by decide +kernel
theorem dX12_doneBy_12 : decode cX12_doneBy 12 = .ok (.iload_n 3, 1) := by decide +kernel
theorem dX12_doneBy_13 : decode cX12_doneBy 13 = .ok (.aload_n 0, 1) := by decide +kernel
theorem dX12_doneBy_14 : decode cX12_doneBy 14 = .ok (.getfield 7, 3) := by decide +kernel
theorem dX12_doneBy_17 : decode cX12_doneBy 17 = .ok (.iload_n 1, 1) := by decide +kernel
theorem dX12_doneBy_18 : decode cX12_doneBy 18 = .ok (.bipush 30, 2) := by decide +kernel
theorem dX12_doneBy_20 : decode cX12_doneBy 20 = .ok (.iadd, 1) := by decide +kernel
theorem dX12_doneBy_21 : decode cX12_doneBy 21 = .ok (.bipush 6, 2) := by decide +kernel
theorem dX12_doneBy_23 : decode cX12_doneBy 23 = .ok (.iload_n 2, 1) := by decide +kernel
theorem dX12_doneBy_24 : decode cX12_doneBy 24 = .ok (.imul, 1) := by decide +kernel
theorem dX12_doneBy_25 : decode cX12_doneBy 25 = .ok (.iadd, 1) := by decide +kernel
theorem dX12_doneBy_26 : decode cX12_doneBy 26 = .ok (.iload 4, 2) := by decide +kernel
theorem dX12_doneBy_28 : decode cX12_doneBy 28 = .ok (.iadd, 1) := by decide +kernel
theorem dX12_doneBy_29 : decode cX12_doneBy 29 = .ok (.iaload, 1) := by decide +kernel
theorem dX12_doneBy_30 : decode cX12_doneBy 30 = .ok (.iadd, 1) := by decide +kernel
theorem dX12_doneBy_31 : decode cX12_doneBy 31 = .ok (.istore_n 3, 1) := by decide +kernel
theorem dX12_doneBy_32 : decode cX12_doneBy 32 = .ok (.iinc 4 1, 3) := by decide +kernel
theorem dX12_doneBy_35 : decode cX12_doneBy 35 = .ok (.goto (-30), 3) := by decide +kernel
theorem dX12_doneBy_38 : decode cX12_doneBy 38 = .ok (.iload_n 3, 1) := by decide +kernel
theorem dX12_doneBy_39 : decode cX12_doneBy 39 = .ok (.ireturn, 1) := by decide +kernel
theorem dX12_differenceTried_0 : decode cX12_differenceTried 0 = .ok (.aload_n 0, 1) := by decide +kernel
theorem dX12_differenceTried_1 : decode cX12_differenceTried 1 = .ok (.sipush 1782, 3) := by decide +kernel
theorem dX12_differenceTried_4 : decode cX12_differenceTried 4 = .ok (.bipush 6, 2) := by decide +kernel
theorem dX12_differenceTried_6 : decode cX12_differenceTried 6 = .ok (.iconst 0, 1) := by decide +kernel
theorem dX12_differenceTried_7 : decode cX12_differenceTried 7 = .ok (.invokevirtual 197, 3) := by decide +kernel
theorem dX12_differenceTried_10 : decode cX12_differenceTried 10 = .ok (.istore_n 1, 1) := by decide +kernel
theorem dX12_differenceTried_11 : decode cX12_differenceTried 11 = .ok (.ldc 99, 2) := by decide +kernel
theorem dX12_differenceTried_13 : decode cX12_differenceTried 13 = .ok (.istore_n 2, 1) := by decide +kernel
theorem dX12_differenceTried_14 : decode cX12_differenceTried 14 = .ok (.ldc 203, 2) := by decide +kernel
theorem dX12_differenceTried_16 : decode cX12_differenceTried 16 = .ok (.istore_n 3, 1) := by decide +kernel
theorem dX12_differenceTried_17 : decode cX12_differenceTried 17 = .ok (.iconst 0, 1) := by decide +kernel
theorem dX12_differenceTried_18 : decode cX12_differenceTried 18 = .ok (.istore 4, 2) := by decide +kernel
theorem dX12_differenceTried_20 : decode cX12_differenceTried 20 = .ok (.iload 4, 2) := by decide +kernel
theorem dX12_differenceTried_22 : decode cX12_differenceTried 22 = .ok (.bipush 6, 2) := by decide +kernel
theorem dX12_differenceTried_24 : decode cX12_differenceTried 24 = .ok (.if_icmp .ge 63, 3) := by decide +kernel
theorem dX12_differenceTried_27 : decode cX12_differenceTried 27 = .ok (.iload_n 1, 1) := by decide +kernel
theorem dX12_differenceTried_28 : decode cX12_differenceTried 28 = .ok (.iload 4, 2) := by decide +kernel
theorem dX12_differenceTried_30 : decode cX12_differenceTried 30 = .ok (.invokestatic 148, 3) := by decide +kernel
theorem dX12_differenceTried_33 : decode cX12_differenceTried 33 = .ok (.ifCond .eq 48, 3) := by decide +kernel
theorem dX12_differenceTried_36 : decode cX12_differenceTried 36 = .ok (.aload_n 0, 1) := by decide +kernel
theorem dX12_differenceTried_37 : decode cX12_differenceTried 37 = .ok (.sipush 1782, 3) := by decide +kernel
theorem dX12_differenceTried_40 : decode cX12_differenceTried 40 = .ok (.iload 4, 2) := by decide +kernel
theorem dX12_differenceTried_42 : decode cX12_differenceTried 42 = .ok (.invokevirtual 204, 3) := by decide +kernel
theorem dX12_differenceTried_45 : decode cX12_differenceTried 45 = .ok (.aload_n 0, 1) := by decide +kernel
theorem dX12_differenceTried_46 : decode cX12_differenceTried 46 = .ok (.iconst 0, 1) := by decide +kernel
theorem dX12_differenceTried_47 : decode cX12_differenceTried 47 = .ok (.iload 4, 2) := by decide +kernel
theorem dX12_differenceTried_49 : decode cX12_differenceTried 49 = .ok (.invokevirtual 204, 3) := by decide +kernel
theorem dX12_differenceTried_52 : decode cX12_differenceTried 52 = .ok (.isub, 1) := by decide +kernel
theorem dX12_differenceTried_53 : decode cX12_differenceTried 53 = .ok (.istore 5, 2) := by decide +kernel
theorem dX12_differenceTried_55 : decode cX12_differenceTried 55 = .ok (.iload 5, 2) := by decide +kernel
theorem dX12_differenceTried_57 : decode cX12_differenceTried 57 = .ok (.iload_n 2, 1) := by decide +kernel
theorem dX12_differenceTried_58 : decode cX12_differenceTried 58 = .ok (.if_icmp .le 8, 3) := by decide +kernel
theorem dX12_differenceTried_61 : decode cX12_differenceTried 61 = .ok (.iload 5, 2) := by decide +kernel
theorem dX12_differenceTried_63 : decode cX12_differenceTried 63 = .ok (.goto 4, 3) := by decide +kernel
theorem dX12_differenceTried_66 : decode cX12_differenceTried 66 = .ok (.iload_n 2, 1) := by decide +kernel
theorem dX12_differenceTried_67 : decode cX12_differenceTried 67 = .ok (.istore_n 2, 1) := by decide +kernel
theorem dX12_differenceTried_68 : decode cX12_differenceTried 68 = .ok (.iload 5, 2) := by decide +kernel
theorem dX12_differenceTried_70 : decode cX12_differenceTried 70 = .ok (.iload_n 3, 1) := by decide +kernel
theorem dX12_differenceTried_71 : decode cX12_differenceTried 71 = .ok (.if_icmp .ge 8, 3) := by decide +kernel
theorem dX12_differenceTried_74 : decode cX12_differenceTried 74 = .ok (.iload 5, 2) := by decide +kernel
theorem dX12_differenceTried_76 : decode cX12_differenceTried 76 = .ok (.goto 4, 3) := by decide +kernel
theorem dX12_differenceTried_79 : decode cX12_differenceTried 79 = .ok (.iload_n 3, 1) := by decide +kernel
theorem dX12_differenceTried_80 : decode cX12_differenceTried 80 = .ok (.istore_n 3, 1) := by decide +kernel
theorem dX12_differenceTried_81 : decode cX12_differenceTried 81 = .ok (.iinc 4 1, 3) := by decide +kernel
theorem dX12_differenceTried_84 : decode cX12_differenceTried 84 = .ok (.goto (-64), 3) := by decide +kernel
theorem dX12_differenceTried_87 : decode cX12_differenceTried 87 = .ok (.iload_n 1, 1) := by decide +kernel
theorem dX12_differenceTried_88 : decode cX12_differenceTried 88 = .ok (.ifCond .ne 7, 3) := by decide +kernel
theorem dX12_differenceTried_91 : decode cX12_differenceTried 91 = .ok (.iconst 0, 1) := by decide +kernel
theorem dX12_differenceTried_92 : decode cX12_differenceTried 92 = .ok (.goto 6, 3) := by decide +kernel
theorem dX12_differenceTried_95 : decode cX12_differenceTried 95 = .ok (.iload_n 2, 1) := by decide +kernel
theorem dX12_differenceTried_96 : decode cX12_differenceTried 96 = .ok (.iload_n 3, 1) := by decide +kernel
theorem dX12_differenceTried_97 : decode cX12_differenceTried 97 = .ok (.isub, 1) := by decide +kernel
theorem dX12_differenceTried_98 : decode cX12_differenceTried 98 = .ok (.ireturn, 1) := by decide +kernel
theorem dX12_fairest_0 : decode cX12_fairest 0 = .ok (.aload_n 0, 1) := by decide +kernel
theorem dX12_fairest_1 : decode cX12_fairest 1 = .ok (.getfield 132, 3) := by decide +kernel
theorem dX12_fairest_4 : decode cX12_fairest 4 = .ok (.ifCond .ne 6, 3) := by decide +kernel
theorem dX12_fairest_7 : decode cX12_fairest 7 = .ok (.ldc 139, 2) := by decide +kernel
theorem dX12_fairest_9 : decode cX12_fairest 9 = .ok (.ireturn, 1) := by decide +kernel
theorem dX12_fairest_10 : decode cX12_fairest 10 = .ok (.iload_n 1, 1) := by decide +kernel
theorem dX12_fairest_11 : decode cX12_fairest 11 = .ok (.i2l, 1) := by decide +kernel
theorem dX12_fairest_12 : decode cX12_fairest 12 = .ok (.lconst 1, 1) := by decide +kernel
theorem dX12_fairest_13 : decode cX12_fairest 13 = .ok (.ldc2_w 186, 3) := by decide +kernel
theorem dX12_fairest_16 : decode cX12_fairest 16 = .ok (.invokestatic 42, 3) := by decide +kernel
theorem dX12_fairest_19 : decode cX12_fairest 19 = .ok (.ifCond .eq 13, 3) := by decide +kernel
theorem dX12_fairest_22 : decode cX12_fairest 22 = .ok (.iload_n 2, 1) := by decide +kernel
theorem dX12_fairest_23 : decode cX12_fairest 23 = .ok (.i2l, 1) := by decide +kernel
theorem dX12_fairest_24 : decode cX12_fairest 24 = .ok (.lconst 0, 1) := by decide +kernel
theorem dX12_fairest_25 : decode cX12_fairest 25 = .ok (.lconst 1, 1) := by decide +kernel
theorem dX12_fairest_26 : decode cX12_fairest 26 = .ok (.invokestatic 42, 3) := by decide +kernel
theorem dX12_fairest_29 : decode cX12_fairest 29 = .ok (.ifCond .ne 6, 3) := by decide +kernel
theorem dX12_fairest_32 : decode cX12_fairest 32 = .ok (.ldc 52, 2) := by decide +kernel
theorem dX12_fairest_34 : decode cX12_fairest 34 = .ok (.ireturn, 1) := by decide +kernel
theorem dX12_fairest_35 : decode cX12_fairest 35 = .ok (.iconst 0, 1) := by decide +kernel
theorem dX12_fairest_36 : decode cX12_fairest 36 = .ok (.istore_n 3, 1) := by decide +kernel
theorem dX12_fairest_37 : decode cX12_fairest 37 = .ok (.ldc 203, 2) := by decide +kernel
theorem dX12_fairest_39 : decode cX12_fairest 39 = .ok (.istore 4, 2) := by decide +kernel
theorem dX12_fairest_41 : decode cX12_fairest 41 = .ok (.iconst 1, 1) := by decide +kernel
theorem dX12_fairest_42 : decode cX12_fairest 42 = .ok (.istore 5, 2) := by decide +kernel
theorem dX12_fairest_44 : decode cX12_fairest 44 = .ok (.iload 5, 2) := by decide +kernel
theorem dX12_fairest_46 : decode cX12_fairest 46 = .ok (.bipush 9, 2) := by decide +kernel
theorem dX12_fairest_48 : decode cX12_fairest 48 = .ok (.if_icmp .ge 83, 3) := by decide +kernel
theorem dX12_fairest_51 : decode cX12_fairest 51 = .ok (.aload_n 0, 1) := by decide +kernel
theorem dX12_fairest_52 : decode cX12_fairest 52 = .ok (.iconst 0, 1) := by decide +kernel
theorem dX12_fairest_53 : decode cX12_fairest 53 = .ok (.invokevirtual 188, 3) := by decide +kernel
theorem dX12_fairest_56 : decode cX12_fairest 56 = .ok (.aload_n 0, 1) := by decide +kernel
theorem dX12_fairest_57 : decode cX12_fairest 57 = .ok (.getfield 7, 3) := by decide +kernel
theorem dX12_fairest_60 : decode cX12_fairest 60 = .ok (.sipush 1787, 3) := by decide +kernel
theorem dX12_fairest_63 : decode cX12_fairest 63 = .ok (.iconst 0, 1) := by decide +kernel
theorem dX12_fairest_64 : decode cX12_fairest 64 = .ok (.iastore, 1) := by decide +kernel
theorem dX12_fairest_65 : decode cX12_fairest 65 = .ok (.iconst 0, 1) := by decide +kernel
theorem dX12_fairest_66 : decode cX12_fairest 66 = .ok (.istore 6, 2) := by decide +kernel
theorem dX12_fairest_68 : decode cX12_fairest 68 = .ok (.iload 6, 2) := by decide +kernel
theorem dX12_fairest_70 : decode cX12_fairest 70 = .ok (.iload_n 1, 1) := by decide +kernel
theorem dX12_fairest_71 : decode cX12_fairest 71 = .ok (.if_icmp .ge 18, 3) := by decide +kernel
theorem dX12_fairest_74 : decode cX12_fairest 74 = .ok (.aload_n 0, 1) := by decide +kernel
theorem dX12_fairest_75 : decode cX12_fairest 75 = .ok (.sipush 1782, 3) := by decide +kernel
theorem dX12_fairest_78 : decode cX12_fairest 78 = .ok (.iload 5, 2) := by decide +kernel
theorem dX12_fairest_80 : decode cX12_fairest 80 = .ok (.invokevirtual 164, 3) := by decide +kernel
theorem dX12_fairest_83 : decode cX12_fairest 83 = .ok (.iinc 6 1, 3) := by decide +kernel
theorem dX12_fairest_86 : decode cX12_fairest 86 = .ok (.goto (-18), 3) := by decide +kernel
theorem dX12_fairest_89 : decode cX12_fairest 89 = .ok (.aload_n 0, 1) := by decide +kernel
theorem dX12_fairest_90 : decode cX12_fairest 90 = .ok (.invokevirtual 207, 3) := by decide +kernel
theorem dX12_fairest_93 : decode cX12_fairest 93 = .ok (.istore 6, 2) := by decide +kernel
theorem dX12_fairest_95 : decode cX12_fairest 95 = .ok (.iload 6, 2) := by decide +kernel
theorem dX12_fairest_97 : decode cX12_fairest 97 = .ok (.iload 4, 2) := by decide +kernel
theorem dX12_fairest_99 : decode cX12_fairest 99 = .ok (.if_icmp .ge 8, 3) := by decide +kernel
theorem dX12_fairest_102 : decode cX12_fairest 102 = .ok (.iload 5, 2) := by decide +kernel
theorem dX12_fairest_104 : decode cX12_fairest 104 = .ok (.goto 4, 3) := by decide +kernel
theorem dX12_fairest_107 : decode cX12_fairest 107 = .ok (.iload_n 3, 1) := by decide +kernel
theorem dX12_fairest_108 : decode cX12_fairest 108 = .ok (.istore_n 3, 1) := by decide +kernel
theorem dX12_fairest_109 : decode cX12_fairest 109 = .ok (.iload 6, 2) := by decide +kernel
theorem dX12_fairest_111 : decode cX12_fairest 111 = .ok (.iload 4, 2) := by decide +kernel
theorem dX12_fairest_113 : decode cX12_fairest 113 = .ok (.if_icmp .ge 8, 3) := by decide +kernel
theorem dX12_fairest_116 : decode cX12_fairest 116 = .ok (.iload 6, 2) := by decide +kernel
theorem dX12_fairest_118 : decode cX12_fairest 118 = .ok (.goto 5, 3) := by decide +kernel
theorem dX12_fairest_121 : decode cX12_fairest 121 = .ok (.iload 4, 2) := by decide +kernel
theorem dX12_fairest_123 : decode cX12_fairest 123 = .ok (.istore 4, 2) := by decide +kernel
theorem dX12_fairest_125 : decode cX12_fairest 125 = .ok (.iinc 5 1, 3) := by decide +kernel
theorem dX12_fairest_128 : decode cX12_fairest 128 = .ok (.goto (-84), 3) := by decide +kernel
theorem dX12_fairest_131 : decode cX12_fairest 131 = .ok (.iload_n 2, 1) := by decide +kernel
theorem dX12_fairest_132 : decode cX12_fairest 132 = .ok (.ifCond .ne 8, 3) := by decide +kernel
theorem dX12_fairest_135 : decode cX12_fairest 135 = .ok (.iload 4, 2) := by decide +kernel
theorem dX12_fairest_137 : decode cX12_fairest 137 = .ok (.goto 4, 3) := by decide +kernel
theorem dX12_fairest_140 : decode cX12_fairest 140 = .ok (.iload_n 3, 1) := by decide +kernel
theorem dX12_fairest_141 : decode cX12_fairest 141 = .ok (.ireturn, 1) := by decide +kernel
theorem dX12_owed_0 : decode cX12_owed 0 = .ok (.aload_n 0, 1) := by decide +kernel
theorem dX12_owed_1 : decode cX12_owed 1 = .ok (.getfield 132, 3) := by decide +kernel
theorem dX12_owed_4 : decode cX12_owed 4 = .ok (.ifCond .ne 6, 3) := by decide +kernel
theorem dX12_owed_7 : decode cX12_owed 7 = .ok (.ldc 139, 2) := by decide +kernel
theorem dX12_owed_9 : decode cX12_owed 9 = .ok (.ireturn, 1) := by decide +kernel
theorem dX12_owed_10 : decode cX12_owed 10 = .ok (.iload_n 1, 1) := by decide +kernel
theorem dX12_owed_11 : decode cX12_owed 11 = .ok (.invokestatic 176, 3) := by decide +kernel
theorem dX12_owed_14 : decode cX12_owed 14 = .ok (.ifCond .ne 6, 3) := by decide +kernel
theorem dX12_owed_17 : decode cX12_owed 17 = .ok (.ldc 52, 2) := by decide +kernel
theorem dX12_owed_19 : decode cX12_owed 19 = .ok (.ireturn, 1) := by decide +kernel
theorem dX12_owed_20 : decode cX12_owed 20 = .ok (.iconst 0, 1) := by decide +kernel
theorem dX12_owed_21 : decode cX12_owed 21 = .ok (.istore_n 2, 1) := by decide +kernel
theorem dX12_owed_22 : decode cX12_owed 22 = .ok (.iconst 0, 1) := by decide +kernel
theorem dX12_owed_23 : decode cX12_owed 23 = .ok (.istore_n 3, 1) := by decide +kernel
theorem dX12_owed_24 : decode cX12_owed 24 = .ok (.iload_n 3, 1) := by decide +kernel
theorem dX12_owed_25 : decode cX12_owed 25 = .ok (.bipush 6, 2) := by decide +kernel
theorem dX12_owed_27 : decode cX12_owed 27 = .ok (.if_icmp .ge 30, 3) := by decide +kernel
theorem dX12_owed_30 : decode cX12_owed 30 = .ok (.aload_n 0, 1) := by decide +kernel
theorem dX12_owed_31 : decode cX12_owed 31 = .ok (.iconst 0, 1) := by decide +kernel
theorem dX12_owed_32 : decode cX12_owed 32 = .ok (.iload_n 3, 1) := by decide +kernel
theorem dX12_owed_33 : decode cX12_owed 33 = .ok (.invokevirtual 204, 3) := by decide +kernel
theorem dX12_owed_36 : decode cX12_owed 36 = .ok (.iload_n 2, 1) := by decide +kernel
theorem dX12_owed_37 : decode cX12_owed 37 = .ok (.if_icmp .le 12, 3) := by decide +kernel
theorem dX12_owed_40 : decode cX12_owed 40 = .ok (.aload_n 0, 1) := by decide +kernel
theorem dX12_owed_41 : decode cX12_owed 41 = .ok (.iconst 0, 1) := by decide +kernel
theorem dX12_owed_42 : decode cX12_owed 42 = .ok (.iload_n 3, 1) := by decide +kernel
theorem dX12_owed_43 : decode cX12_owed 43 = .ok (.invokevirtual 204, 3) := by decide +kernel
theorem dX12_owed_46 : decode cX12_owed 46 = .ok (.goto 4, 3) := by decide +kernel
theorem dX12_owed_49 : decode cX12_owed 49 = .ok (.iload_n 2, 1) := by decide +kernel
theorem dX12_owed_50 : decode cX12_owed 50 = .ok (.istore_n 2, 1) := by decide +kernel
theorem dX12_owed_51 : decode cX12_owed 51 = .ok (.iinc 3 1, 3) := by decide +kernel
theorem dX12_owed_54 : decode cX12_owed 54 = .ok (.goto (-30), 3) := by decide +kernel
theorem dX12_owed_57 : decode cX12_owed 57 = .ok (.iload_n 2, 1) := by decide +kernel
theorem dX12_owed_58 : decode cX12_owed 58 = .ok (.aload_n 0, 1) := by decide +kernel
theorem dX12_owed_59 : decode cX12_owed 59 = .ok (.iconst 0, 1) := by decide +kernel
theorem dX12_owed_60 : decode cX12_owed 60 = .ok (.iload_n 1, 1) := by decide +kernel
theorem dX12_owed_61 : decode cX12_owed 61 = .ok (.invokevirtual 204, 3) := by decide +kernel
theorem dX12_owed_64 : decode cX12_owed 64 = .ok (.isub, 1) := by decide +kernel
theorem dX12_owed_65 : decode cX12_owed 65 = .ok (.ireturn, 1) := by decide +kernel
theorem dX12_isRight_0 : decode cX12_isRight 0 = .ok (.aload_n 0, 1) := by decide +kernel
theorem dX12_isRight_1 : decode cX12_isRight 1 = .ok (.iconst 0, 1) := by decide +kernel
theorem dX12_isRight_2 : decode cX12_isRight 2 = .ok (.sipush 1782, 3) := by decide +kernel
theorem dX12_isRight_5 : decode cX12_isRight 5 = .ok (.invokevirtual 128, 3) := by decide +kernel
theorem dX12_isRight_8 : decode cX12_isRight 8 = .ok (.aload_n 0, 1) := by decide +kernel
theorem dX12_isRight_9 : decode cX12_isRight 9 = .ok (.getfield 7, 3) := by decide +kernel
theorem dX12_isRight_12 : decode cX12_isRight 12 = .ok (.sipush 1788, 3) := by decide +kernel
theorem dX12_isRight_15 : decode cX12_isRight 15 = .ok (.iload 4, 2) := by decide +kernel
theorem dX12_isRight_17 : decode cX12_isRight 17 = .ok (.iadd, 1) := by decide +kernel
theorem dX12_isRight_18 : decode cX12_isRight 18 = .ok (.aload_n 0, 1) := by decide +kernel
theorem dX12_isRight_19 : decode cX12_isRight 19 = .ok (.getfield 7, 3) := by decide +kernel
theorem dX12_isRight_22 : decode cX12_isRight 22 = .ok (.bipush 6, 2) := by decide +kernel
theorem dX12_isRight_24 : decode cX12_isRight 24 = .ok (.iload 5, 2) := by decide +kernel
theorem dX12_isRight_26 : decode cX12_isRight 26 = .ok (.iadd, 1) := by decide +kernel
theorem dX12_isRight_27 : decode cX12_isRight 27 = .ok (.iaload, 1) := by decide +kernel
theorem dX12_isRight_28 : decode cX12_isRight 28 = .ok (.iastore, 1) := by decide +kernel
theorem dX12_isRight_29 : decode cX12_isRight 29 = .ok (.aload_n 0, 1) := by decide +kernel
theorem dX12_isRight_30 : decode cX12_isRight 30 = .ok (.getfield 7, 3) := by decide +kernel
theorem dX12_isRight_33 : decode cX12_isRight 33 = .ok (.sipush 1788, 3) := by decide +kernel
theorem dX12_isRight_36 : decode cX12_isRight 36 = .ok (.iload 5, 2) := by decide +kernel
theorem dX12_isRight_38 : decode cX12_isRight 38 = .ok (.iadd, 1) := by decide +kernel
theorem dX12_isRight_39 : decode cX12_isRight 39 = .ok (.aload_n 0, 1) := by decide +kernel
theorem dX12_isRight_40 : decode cX12_isRight 40 = .ok (.getfield 7, 3) := by decide +kernel
theorem dX12_isRight_43 : decode cX12_isRight 43 = .ok (.bipush 6, 2) := by decide +kernel
theorem dX12_isRight_45 : decode cX12_isRight 45 = .ok (.iload 4, 2) := by decide +kernel
theorem dX12_isRight_47 : decode cX12_isRight 47 = .ok (.iadd, 1) := by decide +kernel
theorem dX12_isRight_48 : decode cX12_isRight 48 = .ok (.iaload, 1) := by decide +kernel
theorem dX12_isRight_49 : decode cX12_isRight 49 = .ok (.iastore, 1) := by decide +kernel
theorem dX12_isRight_50 : decode cX12_isRight 50 = .ok (.iconst 0, 1) := by decide +kernel
theorem dX12_isRight_51 : decode cX12_isRight 51 = .ok (.istore 6, 2) := by decide +kernel
theorem dX12_isRight_53 : decode cX12_isRight 53 = .ok (.iload 6, 2) := by decide +kernel
theorem dX12_isRight_55 : decode cX12_isRight 55 = .ok (.iload_n 3, 1) := by decide +kernel
theorem dX12_isRight_56 : decode cX12_isRight 56 = .ok (.if_icmp .ge 16, 3) := by decide +kernel
theorem dX12_isRight_59 : decode cX12_isRight 59 = .ok (.aload_n 0, 1) := by decide +kernel
theorem dX12_isRight_60 : decode cX12_isRight 60 = .ok (.sipush 1782, 3) := by decide +kernel
theorem dX12_isRight_63 : decode cX12_isRight 63 = .ok (.invokevirtual 167, 3) := by decide +kernel
theorem dX12_isRight_66 : decode cX12_isRight 66 = .ok (.iinc 6 1, 3) := by decide +kernel
theorem dX12_isRight_69 : decode cX12_isRight 69 = .ok (.goto (-16), 3) := by decide +kernel
theorem dX12_isRight_72 : decode cX12_isRight 72 = .ok (.aload_n 0, 1) := by decide +kernel
theorem dX12_isRight_73 : decode cX12_isRight 73 = .ok (.iload_n 1, 1) := by decide +kernel
theorem dX12_isRight_74 : decode cX12_isRight 74 = .ok (.iload_n 2, 1) := by decide +kernel
theorem dX12_isRight_75 : decode cX12_isRight 75 = .ok (.invokevirtual 191, 3) := by decide +kernel
theorem dX12_isRight_78 : decode cX12_isRight 78 = .ok (.ireturn, 1) := by decide +kernel
theorem dX12_right_0 : decode cX12_right 0 = .ok (.aload_n 0, 1) := by decide +kernel
theorem dX12_right_1 : decode cX12_right 1 = .ok (.getfield 132, 3) := by decide +kernel
theorem dX12_right_4 : decode cX12_right 4 = .ok (.ifCond .ne 6, 3) := by decide +kernel
theorem dX12_right_7 : decode cX12_right 7 = .ok (.ldc 139, 2) := by decide +kernel
theorem dX12_right_9 : decode cX12_right 9 = .ok (.ireturn, 1) := by decide +kernel
theorem dX12_right_10 : decode cX12_right 10 = .ok (.iload_n 1, 1) := by decide +kernel
theorem dX12_right_11 : decode cX12_right 11 = .ok (.invokestatic 176, 3) := by decide +kernel
theorem dX12_right_14 : decode cX12_right 14 = .ok (.ifCond .eq 33, 3) := by decide +kernel
theorem dX12_right_17 : decode cX12_right 17 = .ok (.iload_n 2, 1) := by decide +kernel
theorem dX12_right_18 : decode cX12_right 18 = .ok (.invokestatic 176, 3) := by decide +kernel
theorem dX12_right_21 : decode cX12_right 21 = .ok (.ifCond .eq 26, 3) := by decide +kernel
theorem dX12_right_24 : decode cX12_right 24 = .ok (.iload_n 3, 1) := by decide +kernel
theorem dX12_right_25 : decode cX12_right 25 = .ok (.i2l, 1) := by decide +kernel
theorem dX12_right_26 : decode cX12_right 26 = .ok (.lconst 0, 1) := by decide +kernel
theorem dX12_right_27 : decode cX12_right 27 = .ok (.ldc2_w 186, 3) := by decide +kernel
theorem dX12_right_30 : decode cX12_right 30 = .ok (.invokestatic 42, 3) := by decide +kernel
theorem dX12_right_33 : decode cX12_right 33 = .ok (.ifCond .eq 14, 3) := by decide +kernel
theorem dX12_right_36 : decode cX12_right 36 = .ok (.iload 4, 2) := by decide +kernel
theorem dX12_right_38 : decode cX12_right 38 = .ok (.i2l, 1) := by decide +kernel
theorem dX12_right_39 : decode cX12_right 39 = .ok (.lconst 0, 1) := by decide +kernel
theorem dX12_right_40 : decode cX12_right 40 = .ok (.lconst 1, 1) := by decide +kernel
theorem dX12_right_41 : decode cX12_right 41 = .ok (.invokestatic 42, 3) := by decide +kernel
theorem dX12_right_44 : decode cX12_right 44 = .ok (.ifCond .ne 6, 3) := by decide +kernel
theorem dX12_right_47 : decode cX12_right 47 = .ok (.ldc 52, 2) := by decide +kernel
theorem dX12_right_49 : decode cX12_right 49 = .ok (.ireturn, 1) := by decide +kernel
theorem dX12_right_50 : decode cX12_right 50 = .ok (.aload_n 0, 1) := by decide +kernel
theorem dX12_right_51 : decode cX12_right 51 = .ok (.iload_n 1, 1) := by decide +kernel
theorem dX12_right_52 : decode cX12_right 52 = .ok (.iload_n 2, 1) := by decide +kernel
theorem dX12_right_53 : decode cX12_right 53 = .ok (.iload_n 3, 1) := by decide +kernel
theorem dX12_right_54 : decode cX12_right 54 = .ok (.iconst 0, 1) := by decide +kernel
theorem dX12_right_55 : decode cX12_right 55 = .ok (.iconst 0, 1) := by decide +kernel
theorem dX12_right_56 : decode cX12_right 56 = .ok (.invokevirtual 211, 3) := by decide +kernel
theorem dX12_right_59 : decode cX12_right 59 = .ok (.ifCond .eq 15, 3) := by decide +kernel
theorem dX12_right_62 : decode cX12_right 62 = .ok (.iload 4, 2) := by decide +kernel
theorem dX12_right_64 : decode cX12_right 64 = .ok (.ifCond .ne 7, 3) := by decide +kernel
theorem dX12_right_67 : decode cX12_right 67 = .ok (.iconst 0, 1) := by decide +kernel
theorem dX12_right_68 : decode cX12_right 68 = .ok (.goto 5, 3) := by decide +kernel
theorem dX12_right_71 : decode cX12_right 71 = .ok (.ldc 99, 2) := by decide +kernel
theorem dX12_right_73 : decode cX12_right 73 = .ok (.ireturn, 1) := by decide +kernel
theorem dX12_right_74 : decode cX12_right 74 = .ok (.iconst 0, 1) := by decide +kernel
theorem dX12_right_75 : decode cX12_right 75 = .ok (.istore 5, 2) := by decide +kernel
theorem dX12_right_77 : decode cX12_right 77 = .ok (.iload 5, 2) := by decide +kernel
theorem dX12_right_79 : decode cX12_right 79 = .ok (.aload_n 0, 1) := by decide +kernel
theorem dX12_right_80 : decode cX12_right 80 = .ok (.getfield 7, 3) := by decide +kernel
theorem dX12_right_83 : decode cX12_right 83 = .ok (.iconst 0, 1) := by decide +kernel
theorem dX12_right_84 : decode cX12_right 84 = .ok (.iaload, 1) := by decide +kernel
theorem dX12_right_85 : decode cX12_right 85 = .ok (.if_icmp .ge 64, 3) := by decide +kernel
theorem dX12_right_88 : decode cX12_right 88 = .ok (.iload 5, 2) := by decide +kernel
theorem dX12_right_90 : decode cX12_right 90 = .ok (.iconst 1, 1) := by decide +kernel
theorem dX12_right_91 : decode cX12_right 91 = .ok (.iadd, 1) := by decide +kernel
theorem dX12_right_92 : decode cX12_right 92 = .ok (.istore 6, 2) := by decide +kernel
theorem dX12_right_94 : decode cX12_right 94 = .ok (.iload 6, 2) := by decide +kernel
theorem dX12_right_96 : decode cX12_right 96 = .ok (.aload_n 0, 1) := by decide +kernel
theorem dX12_right_97 : decode cX12_right 97 = .ok (.getfield 7, 3) := by decide +kernel
theorem dX12_right_100 : decode cX12_right 100 = .ok (.iconst 0, 1) := by decide +kernel
theorem dX12_right_101 : decode cX12_right 101 = .ok (.iaload, 1) := by decide +kernel
theorem dX12_right_102 : decode cX12_right 102 = .ok (.if_icmp .ge 41, 3) := by decide +kernel
theorem dX12_right_105 : decode cX12_right 105 = .ok (.aload_n 0, 1) := by decide +kernel
theorem dX12_right_106 : decode cX12_right 106 = .ok (.iload_n 1, 1) := by decide +kernel
theorem dX12_right_107 : decode cX12_right 107 = .ok (.iload_n 2, 1) := by decide +kernel
theorem dX12_right_108 : decode cX12_right 108 = .ok (.iload_n 3, 1) := by decide +kernel
theorem dX12_right_109 : decode cX12_right 109 = .ok (.iload 5, 2) := by decide +kernel
theorem dX12_right_111 : decode cX12_right 111 = .ok (.iload 6, 2) := by decide +kernel
theorem dX12_right_113 : decode cX12_right 113 = .ok (.invokevirtual 211, 3) := by decide +kernel
theorem dX12_right_116 : decode cX12_right 116 = .ok (.ifCond .eq 21, 3) := by decide +kernel
theorem dX12_right_119 : decode cX12_right 119 = .ok (.iload 4, 2) := by decide +kernel
theorem dX12_right_121 : decode cX12_right 121 = .ok (.ifCond .ne 7, 3) := by decide +kernel
theorem dX12_right_124 : decode cX12_right 124 = .ok (.iconst 1, 1) := by decide +kernel
theorem dX12_right_125 : decode cX12_right 125 = .ok (.goto 11, 3) := by decide +kernel
theorem dX12_right_128 : decode cX12_right 128 = .ok (.bipush 10, 2) := by decide +kernel
theorem dX12_right_130 : decode cX12_right 130 = .ok (.iload 5, 2) := by decide +kernel
theorem dX12_right_132 : decode cX12_right 132 = .ok (.imul, 1) := by decide +kernel
theorem dX12_right_133 : decode cX12_right 133 = .ok (.iload 6, 2) := by decide +kernel
theorem dX12_right_135 : decode cX12_right 135 = .ok (.iadd, 1) := by decide +kernel
theorem dX12_right_136 : decode cX12_right 136 = .ok (.ireturn, 1) := by decide +kernel
theorem dX12_right_137 : decode cX12_right 137 = .ok (.iinc 6 1, 3) := by decide +kernel
theorem dX12_right_140 : decode cX12_right 140 = .ok (.goto (-46), 3) := by decide +kernel
theorem dX12_right_143 : decode cX12_right 143 = .ok (.iinc 5 1, 3) := by decide +kernel
theorem dX12_right_146 : decode cX12_right 146 = .ok (.goto (-69), 3) := by decide +kernel
theorem dX12_right_149 : decode cX12_right 149 = .ok (.ldc 99, 2) := by decide +kernel
theorem dX12_right_151 : decode cX12_right 151 = .ok (.ireturn, 1) := by decide +kernel
theorem dX12_twice_0 : decode cX12_twice 0 = .ok (.aload_n 0, 1) := by decide +kernel
theorem dX12_twice_1 : decode cX12_twice 1 = .ok (.getfield 132, 3) := by decide +kernel
theorem dX12_twice_4 : decode cX12_twice 4 = .ok (.ifCond .ne 6, 3) := by decide +kernel
theorem dX12_twice_7 : decode cX12_twice 7 = .ok (.ldc 139, 2) := by decide +kernel
theorem dX12_twice_9 : decode cX12_twice 9 = .ok (.ireturn, 1) := by decide +kernel
theorem dX12_twice_10 : decode cX12_twice 10 = .ok (.iconst 0, 1) := by decide +kernel
theorem dX12_twice_11 : decode cX12_twice 11 = .ok (.istore_n 1, 1) := by decide +kernel
theorem dX12_twice_12 : decode cX12_twice 12 = .ok (.iload_n 1, 1) := by decide +kernel
theorem dX12_twice_13 : decode cX12_twice 13 = .ok (.aload_n 0, 1) := by decide +kernel
theorem dX12_twice_14 : decode cX12_twice 14 = .ok (.getfield 7, 3) := by decide +kernel
theorem dX12_twice_17 : decode cX12_twice 17 = .ok (.iconst 0, 1) := by decide +kernel
theorem dX12_twice_18 : decode cX12_twice 18 = .ok (.iaload, 1) := by decide +kernel
theorem dX12_twice_19 : decode cX12_twice 19 = .ok (.if_icmp .ge 23, 3) := by decide +kernel
theorem dX12_twice_22 : decode cX12_twice 22 = .ok (.aload_n 0, 1) := by decide +kernel
theorem dX12_twice_23 : decode cX12_twice 23 = .ok (.getfield 7, 3) := by decide +kernel
theorem dX12_twice_26 : decode cX12_twice 26 = .ok (.bipush 6, 2) := by decide +kernel
theorem dX12_twice_28 : decode cX12_twice 28 = .ok (.iload_n 1, 1) := by decide +kernel
theorem dX12_twice_29 : decode cX12_twice 29 = .ok (.iadd, 1) := by decide +kernel
theorem dX12_twice_30 : decode cX12_twice 30 = .ok (.iaload, 1) := by decide +kernel
theorem dX12_twice_31 : decode cX12_twice 31 = .ok (.bipush 6, 2) := by decide +kernel
theorem dX12_twice_33 : decode cX12_twice 33 = .ok (.if_icmp .eq 9, 3) := by decide +kernel
theorem dX12_twice_36 : decode cX12_twice 36 = .ok (.iinc 1 1, 3) := by decide +kernel
theorem dX12_twice_39 : decode cX12_twice 39 = .ok (.goto (-27), 3) := by decide +kernel
theorem dX12_twice_42 : decode cX12_twice 42 = .ok (.iload_n 1, 1) := by decide +kernel
theorem dX12_twice_43 : decode cX12_twice 43 = .ok (.aload_n 0, 1) := by decide +kernel
theorem dX12_twice_44 : decode cX12_twice 44 = .ok (.getfield 7, 3) := by decide +kernel
theorem dX12_twice_47 : decode cX12_twice 47 = .ok (.iconst 0, 1) := by decide +kernel
theorem dX12_twice_48 : decode cX12_twice 48 = .ok (.iaload, 1) := by decide +kernel
theorem dX12_twice_49 : decode cX12_twice 49 = .ok (.if_icmp .ne 6, 3) := by decide +kernel
theorem dX12_twice_52 : decode cX12_twice 52 = .ok (.ldc 99, 2) := by decide +kernel
theorem dX12_twice_54 : decode cX12_twice 54 = .ok (.ireturn, 1) := by decide +kernel
theorem dX12_twice_55 : decode cX12_twice 55 = .ok (.iconst 0, 1) := by decide +kernel
theorem dX12_twice_56 : decode cX12_twice 56 = .ok (.istore_n 2, 1) := by decide +kernel
theorem dX12_twice_57 : decode cX12_twice 57 = .ok (.ldc 203, 2) := by decide +kernel
theorem dX12_twice_59 : decode cX12_twice 59 = .ok (.istore_n 3, 1) := by decide +kernel
theorem dX12_twice_60 : decode cX12_twice 60 = .ok (.iconst 0, 1) := by decide +kernel
theorem dX12_twice_61 : decode cX12_twice 61 = .ok (.istore 4, 2) := by decide +kernel
theorem dX12_twice_63 : decode cX12_twice 63 = .ok (.iload 4, 2) := by decide +kernel
theorem dX12_twice_65 : decode cX12_twice 65 = .ok (.bipush 6, 2) := by decide +kernel
theorem dX12_twice_67 : decode cX12_twice 67 = .ok (.if_icmp .ge 84, 3) := by decide +kernel
theorem dX12_twice_70 : decode cX12_twice 70 = .ok (.aload_n 0, 1) := by decide +kernel
theorem dX12_twice_71 : decode cX12_twice 71 = .ok (.iconst 0, 1) := by decide +kernel
theorem dX12_twice_72 : decode cX12_twice 72 = .ok (.sipush 1782, 3) := by decide +kernel
theorem dX12_twice_75 : decode cX12_twice 75 = .ok (.invokevirtual 128, 3) := by decide +kernel
theorem dX12_twice_78 : decode cX12_twice 78 = .ok (.aload_n 0, 1) := by decide +kernel
theorem dX12_twice_79 : decode cX12_twice 79 = .ok (.getfield 7, 3) := by decide +kernel
theorem dX12_twice_82 : decode cX12_twice 82 = .ok (.sipush 1788, 3) := by decide +kernel
theorem dX12_twice_85 : decode cX12_twice 85 = .ok (.iload_n 1, 1) := by decide +kernel
theorem dX12_twice_86 : decode cX12_twice 86 = .ok (.iadd, 1) := by decide +kernel
theorem dX12_twice_87 : decode cX12_twice 87 = .ok (.iload 4, 2) := by decide +kernel
theorem dX12_twice_89 : decode cX12_twice 89 = .ok (.iastore, 1) := by decide +kernel
theorem dX12_twice_90 : decode cX12_twice 90 = .ok (.iconst 0, 1) := by decide +kernel
theorem dX12_twice_91 : decode cX12_twice 91 = .ok (.istore 5, 2) := by decide +kernel
theorem dX12_twice_93 : decode cX12_twice 93 = .ok (.iload 5, 2) := by decide +kernel
theorem dX12_twice_95 : decode cX12_twice 95 = .ok (.bipush 12, 2) := by decide +kernel
theorem dX12_twice_97 : decode cX12_twice 97 = .ok (.if_icmp .ge 16, 3) := by decide +kernel
theorem dX12_twice_100 : decode cX12_twice 100 = .ok (.aload_n 0, 1) := by decide +kernel
theorem dX12_twice_101 : decode cX12_twice 101 = .ok (.sipush 1782, 3) := by decide +kernel
theorem dX12_twice_104 : decode cX12_twice 104 = .ok (.invokevirtual 167, 3) := by decide +kernel
theorem dX12_twice_107 : decode cX12_twice 107 = .ok (.iinc 5 1, 3) := by decide +kernel
theorem dX12_twice_110 : decode cX12_twice 110 = .ok (.goto (-17), 3) := by decide +kernel
theorem dX12_twice_113 : decode cX12_twice 113 = .ok (.aload_n 0, 1) := by decide +kernel
theorem dX12_twice_114 : decode cX12_twice 114 = .ok (.invokevirtual 207, 3) := by decide +kernel
theorem dX12_twice_117 : decode cX12_twice 117 = .ok (.istore 5, 2) := by decide +kernel
theorem dX12_twice_119 : decode cX12_twice 119 = .ok (.iload 5, 2) := by decide +kernel
theorem dX12_twice_121 : decode cX12_twice 121 = .ok (.iload_n 3, 1) := by decide +kernel
theorem dX12_twice_122 : decode cX12_twice 122 = .ok (.if_icmp .ge 8, 3) := by decide +kernel
theorem dX12_twice_125 : decode cX12_twice 125 = .ok (.iload 4, 2) := by decide +kernel
theorem dX12_twice_127 : decode cX12_twice 127 = .ok (.goto 4, 3) := by decide +kernel
theorem dX12_twice_130 : decode cX12_twice 130 = .ok (.iload_n 2, 1) := by decide +kernel
theorem dX12_twice_131 : decode cX12_twice 131 = .ok (.istore_n 2, 1) := by decide +kernel
theorem dX12_twice_132 : decode cX12_twice 132 = .ok (.iload 5, 2) := by decide +kernel
theorem dX12_twice_134 : decode cX12_twice 134 = .ok (.iload_n 3, 1) := by decide +kernel
theorem dX12_twice_135 : decode cX12_twice 135 = .ok (.if_icmp .ge 8, 3) := by decide +kernel
theorem dX12_twice_138 : decode cX12_twice 138 = .ok (.iload 5, 2) := by decide +kernel
theorem dX12_twice_140 : decode cX12_twice 140 = .ok (.goto 4, 3) := by decide +kernel
theorem dX12_twice_143 : decode cX12_twice 143 = .ok (.iload_n 3, 1) := by decide +kernel
theorem dX12_twice_144 : decode cX12_twice 144 = .ok (.istore_n 3, 1) := by decide +kernel
theorem dX12_twice_145 : decode cX12_twice 145 = .ok (.iinc 4 1, 3) := by decide +kernel
theorem dX12_twice_148 : decode cX12_twice 148 = .ok (.goto (-85), 3) := by decide +kernel
theorem dX12_twice_151 : decode cX12_twice 151 = .ok (.iload_n 2, 1) := by decide +kernel
theorem dX12_twice_152 : decode cX12_twice 152 = .ok (.ireturn, 1) := by decide +kernel
theorem dX12_noItems_0 : decode cX12_noItems 0 = .ok (.aload_n 0, 1) := by decide +kernel
theorem dX12_noItems_1 : decode cX12_noItems 1 = .ok (.getfield 20, 3) := by decide +kernel
theorem dX12_noItems_4 : decode cX12_noItems 4 = .ok (.iload_n 1, 1) := by decide +kernel
theorem dX12_noItems_5 : decode cX12_noItems 5 = .ok (.iaload, 1) := by decide +kernel
theorem dX12_noItems_6 : decode cX12_noItems 6 = .ok (.ifCond .ge 11, 3) := by decide +kernel
theorem dX12_noItems_9 : decode cX12_noItems 9 = .ok (.aload_n 0, 1) := by decide +kernel
theorem dX12_noItems_10 : decode cX12_noItems 10 = .ok (.iconst 1, 1) := by decide +kernel
theorem dX12_noItems_11 : decode cX12_noItems 11 = .ok (.invokevirtual 53, 3) := by decide +kernel
theorem dX12_noItems_14 : decode cX12_noItems 14 = .ok (.goto 22, 3) := by decide +kernel
theorem dX12_noItems_17 : decode cX12_noItems 17 = .ok (.aload_n 0, 1) := by decide +kernel
theorem dX12_noItems_18 : decode cX12_noItems 18 = .ok (.iload_n 1, 1) := by decide +kernel
theorem dX12_noItems_19 : decode cX12_noItems 19 = .ok (.iload_n 2, 1) := by decide +kernel
theorem dX12_noItems_20 : decode cX12_noItems 20 = .ok (.iload_n 3, 1) := by decide +kernel
theorem dX12_noItems_21 : decode cX12_noItems 21 = .ok (.invokevirtual 64, 3) := by decide +kernel
theorem dX12_noItems_24 : decode cX12_noItems 24 = .ok (.ifCond .eq 7, 3) := by decide +kernel
theorem dX12_noItems_27 : decode cX12_noItems 27 = .ok (.iconst 0, 1) := by decide +kernel
theorem dX12_noItems_28 : decode cX12_noItems 28 = .ok (.goto 8, 3) := by decide +kernel
theorem dX12_noItems_31 : decode cX12_noItems 31 = .ok (.aload_n 0, 1) := by decide +kernel
theorem dX12_noItems_32 : decode cX12_noItems 32 = .ok (.iconst 2, 1) := by decide +kernel
theorem dX12_noItems_33 : decode cX12_noItems 33 = .ok (.invokevirtual 53, 3) := by decide +kernel
theorem dX12_noItems_36 : decode cX12_noItems 36 = .ok (.ireturn, 1) := by decide +kernel
theorem dX12_firstDoer_0 : decode cX12_firstDoer 0 = .ok (.aload_n 0, 1) := by decide +kernel
theorem dX12_firstDoer_1 : decode cX12_firstDoer 1 = .ok (.iload_n 1, 1) := by decide +kernel
theorem dX12_firstDoer_2 : decode cX12_firstDoer 2 = .ok (.invokevirtual 194, 3) := by decide +kernel
theorem dX12_firstDoer_5 : decode cX12_firstDoer 5 = .ok (.istore_n 2, 1) := by decide +kernel
theorem dX12_firstDoer_6 : decode cX12_firstDoer 6 = .ok (.iconst 0, 1) := by decide +kernel
theorem dX12_firstDoer_7 : decode cX12_firstDoer 7 = .ok (.istore_n 3, 1) := by decide +kernel
theorem dX12_firstDoer_8 : decode cX12_firstDoer 8 = .ok (.iload_n 3, 1) := by decide +kernel
theorem dX12_firstDoer_9 : decode cX12_firstDoer 9 = .ok (.bipush 6, 2) := by decide +kernel
theorem dX12_firstDoer_11 : decode cX12_firstDoer 11 = .ok (.if_icmp .ge 19, 3) := by decide +kernel
theorem dX12_firstDoer_14 : decode cX12_firstDoer 14 = .ok (.iload_n 2, 1) := by decide +kernel
theorem dX12_firstDoer_15 : decode cX12_firstDoer 15 = .ok (.iload_n 3, 1) := by decide +kernel
theorem dX12_firstDoer_16 : decode cX12_firstDoer 16 = .ok (.invokestatic 148, 3) := by decide +kernel
theorem dX12_firstDoer_19 : decode cX12_firstDoer 19 = .ok (.ifCond .eq 5, 3) := by decide +kernel
theorem dX12_firstDoer_22 : decode cX12_firstDoer 22 = .ok (.iload_n 3, 1) := by decide +kernel
theorem dX12_firstDoer_23 : decode cX12_firstDoer 23 = .ok (.ireturn, 1) := by decide +kernel
theorem dX12_firstDoer_24 : decode cX12_firstDoer 24 = .ok (.iinc 3 1, 3) := by decide +kernel
theorem dX12_firstDoer_27 : decode cX12_firstDoer 27 = .ok (.goto (-19), 3) := by decide +kernel
theorem dX12_firstDoer_30 : decode cX12_firstDoer 30 = .ok (.iconst (-1), 1) := by decide +kernel
theorem dX12_firstDoer_31 : decode cX12_firstDoer 31 = .ok (.ireturn, 1) := by decide +kernel
theorem dX12_isSeenSo_0 : decode cX12_isSeenSo 0 = .ok (.aload_n 0, 1) := by decide +kernel
theorem dX12_isSeenSo_1 : decode cX12_isSeenSo 1 = .ok (.iconst 0, 1) := by decide +kernel
theorem dX12_isSeenSo_2 : decode cX12_isSeenSo 2 = .ok (.invokevirtual 188, 3) := by decide +kernel
theorem dX12_isSeenSo_5 : decode cX12_isSeenSo 5 = .ok (.aload_n 0, 1) := by decide +kernel
theorem dX12_isSeenSo_6 : decode cX12_isSeenSo 6 = .ok (.getfield 7, 3) := by decide +kernel
theorem dX12_isSeenSo_9 : decode cX12_isSeenSo 9 = .ok (.sipush 1786, 3) := by decide +kernel
theorem dX12_isSeenSo_12 : decode cX12_isSeenSo 12 = .ok (.iload_n 2, 1) := by decide +kernel
theorem dX12_isSeenSo_13 : decode cX12_isSeenSo 13 = .ok (.iastore, 1) := by decide +kernel
theorem dX12_isSeenSo_14 : decode cX12_isSeenSo 14 = .ok (.iconst 0, 1) := by decide +kernel
theorem dX12_isSeenSo_15 : decode cX12_isSeenSo 15 = .ok (.istore 6, 2) := by decide +kernel
theorem dX12_isSeenSo_17 : decode cX12_isSeenSo 17 = .ok (.iload 6, 2) := by decide +kernel
theorem dX12_isSeenSo_19 : decode cX12_isSeenSo 19 = .ok (.iload 5, 2) := by decide +kernel
theorem dX12_isSeenSo_21 : decode cX12_isSeenSo 21 = .ok (.if_icmp .ge 41, 3) := by decide +kernel
theorem dX12_isSeenSo_24 : decode cX12_isSeenSo 24 = .ok (.aload_n 0, 1) := by decide +kernel
theorem dX12_isSeenSo_25 : decode cX12_isSeenSo 25 = .ok (.iload_n 1, 1) := by decide +kernel
theorem dX12_isSeenSo_26 : decode cX12_isSeenSo 26 = .ok (.invokevirtual 215, 3) := by decide +kernel
theorem dX12_isSeenSo_29 : decode cX12_isSeenSo 29 = .ok (.aload_n 0, 1) := by decide +kernel
theorem dX12_isSeenSo_30 : decode cX12_isSeenSo 30 = .ok (.getfield 23, 3) := by decide +kernel
theorem dX12_isSeenSo_33 : decode cX12_isSeenSo 33 = .ok (.bipush 40, 2) := by decide +kernel
theorem dX12_isSeenSo_35 : decode cX12_isSeenSo 35 = .ok (.iload_n 3, 1) := by decide +kernel
theorem dX12_isSeenSo_36 : decode cX12_isSeenSo 36 = .ok (.imul, 1) := by decide +kernel
theorem dX12_isSeenSo_37 : decode cX12_isSeenSo 37 = .ok (.iload 4, 2) := by decide +kernel
theorem dX12_isSeenSo_39 : decode cX12_isSeenSo 39 = .ok (.iadd, 1) := by decide +kernel
theorem dX12_isSeenSo_40 : decode cX12_isSeenSo 40 = .ok (.iload 6, 2) := by decide +kernel
theorem dX12_isSeenSo_42 : decode cX12_isSeenSo 42 = .ok (.iadd, 1) := by decide +kernel
theorem dX12_isSeenSo_43 : decode cX12_isSeenSo 43 = .ok (.iaload, 1) := by decide +kernel
theorem dX12_isSeenSo_44 : decode cX12_isSeenSo 44 = .ok (.if_icmp .eq 5, 3) := by decide +kernel
theorem dX12_isSeenSo_47 : decode cX12_isSeenSo 47 = .ok (.iconst 0, 1) := by decide +kernel
theorem dX12_isSeenSo_48 : decode cX12_isSeenSo 48 = .ok (.ireturn, 1) := by decide +kernel
theorem dX12_isSeenSo_49 : decode cX12_isSeenSo 49 = .ok (.aload_n 0, 1) := by decide +kernel
theorem dX12_isSeenSo_50 : decode cX12_isSeenSo 50 = .ok (.sipush 1782, 3) := by decide +kernel
theorem dX12_isSeenSo_53 : decode cX12_isSeenSo 53 = .ok (.invokevirtual 167, 3) := by decide +kernel
theorem dX12_isSeenSo_56 : decode cX12_isSeenSo 56 = .ok (.iinc 6 1, 3) := by decide +kernel
theorem dX12_isSeenSo_59 : decode cX12_isSeenSo 59 = .ok (.goto (-42), 3) := by decide +kernel
theorem dX12_isSeenSo_62 : decode cX12_isSeenSo 62 = .ok (.iconst 1, 1) := by decide +kernel
theorem dX12_isSeenSo_63 : decode cX12_isSeenSo 63 = .ok (.ireturn, 1) := by decide +kernel
theorem dX12_seen_0 : decode cX12_seen 0 = .ok (.aload_n 0, 1) := by decide +kernel
theorem dX12_seen_1 : decode cX12_seen 1 = .ok (.getfield 132, 3) := by decide +kernel
theorem dX12_seen_4 : decode cX12_seen 4 = .ok (.ifCond .ne 6, 3) := by decide +kernel
theorem dX12_seen_7 : decode cX12_seen 7 = .ok (.ldc 139, 2) := by decide +kernel
theorem dX12_seen_9 : decode cX12_seen 9 = .ok (.ireturn, 1) := by decide +kernel
theorem dX12_seen_10 : decode cX12_seen 10 = .ok (.iload_n 1, 1) := by decide +kernel
theorem dX12_seen_11 : decode cX12_seen 11 = .ok (.invokestatic 176, 3) := by decide +kernel
theorem dX12_seen_14 : decode cX12_seen 14 = .ok (.ifCond .eq 23, 3) := by decide +kernel
theorem dX12_seen_17 : decode cX12_seen 17 = .ok (.iload_n 2, 1) := by decide +kernel
theorem dX12_seen_18 : decode cX12_seen 18 = .ok (.invokestatic 46, 3) := by decide +kernel
theorem dX12_seen_21 : decode cX12_seen 21 = .ok (.ifCond .eq 16, 3) := by decide +kernel
theorem dX12_seen_24 : decode cX12_seen 24 = .ok (.iload 4, 2) := by decide +kernel
theorem dX12_seen_26 : decode cX12_seen 26 = .ok (.i2l, 1) := by decide +kernel
theorem dX12_seen_27 : decode cX12_seen 27 = .ok (.lconst 1, 1) := by decide +kernel
theorem dX12_seen_28 : decode cX12_seen 28 = .ok (.ldc2_w 218, 3) := by decide +kernel
theorem dX12_seen_31 : decode cX12_seen 31 = .ok (.invokestatic 42, 3) := by decide +kernel
theorem dX12_seen_34 : decode cX12_seen 34 = .ok (.ifCond .ne 6, 3) := by decide +kernel
theorem dX12_seen_37 : decode cX12_seen 37 = .ok (.ldc 52, 2) := by decide +kernel
theorem dX12_seen_39 : decode cX12_seen 39 = .ok (.ireturn, 1) := by decide +kernel
theorem dX12_seen_40 : decode cX12_seen 40 = .ok (.aload_n 0, 1) := by decide +kernel
theorem dX12_seen_41 : decode cX12_seen 41 = .ok (.iload_n 2, 1) := by decide +kernel
theorem dX12_seen_42 : decode cX12_seen 42 = .ok (.iload_n 3, 1) := by decide +kernel
theorem dX12_seen_43 : decode cX12_seen 43 = .ok (.iload 4, 2) := by decide +kernel
theorem dX12_seen_45 : decode cX12_seen 45 = .ok (.invokevirtual 220, 3) := by decide +kernel
theorem dX12_seen_48 : decode cX12_seen 48 = .ok (.istore 5, 2) := by decide +kernel
theorem dX12_seen_50 : decode cX12_seen 50 = .ok (.iload 5, 2) := by decide +kernel
theorem dX12_seen_52 : decode cX12_seen 52 = .ok (.ifCond .eq 6, 3) := by decide +kernel
theorem dX12_seen_55 : decode cX12_seen 55 = .ok (.iload 5, 2) := by decide +kernel
theorem dX12_seen_57 : decode cX12_seen 57 = .ok (.ireturn, 1) := by decide +kernel
theorem dX12_seen_58 : decode cX12_seen 58 = .ok (.iconst 0, 1) := by decide +kernel
theorem dX12_seen_59 : decode cX12_seen 59 = .ok (.istore 6, 2) := by decide +kernel
theorem dX12_seen_61 : decode cX12_seen 61 = .ok (.iconst 0, 1) := by decide +kernel
theorem dX12_seen_62 : decode cX12_seen 62 = .ok (.istore 7, 2) := by decide +kernel
theorem dX12_seen_64 : decode cX12_seen 64 = .ok (.iload 7, 2) := by decide +kernel
theorem dX12_seen_66 : decode cX12_seen 66 = .ok (.aload_n 0, 1) := by decide +kernel
theorem dX12_seen_67 : decode cX12_seen 67 = .ok (.getfield 7, 3) := by decide +kernel
theorem dX12_seen_70 : decode cX12_seen 70 = .ok (.iconst 1, 1) := by decide +kernel
theorem dX12_seen_71 : decode cX12_seen 71 = .ok (.iaload, 1) := by decide +kernel
theorem dX12_seen_72 : decode cX12_seen 72 = .ok (.if_icmp .ge 36, 3) := by decide +kernel
theorem dX12_seen_75 : decode cX12_seen 75 = .ok (.iload 6, 2) := by decide +kernel
theorem dX12_seen_77 : decode cX12_seen 77 = .ok (.aload_n 0, 1) := by decide +kernel
theorem dX12_seen_78 : decode cX12_seen 78 = .ok (.iload_n 1, 1) := by decide +kernel
theorem dX12_seen_79 : decode cX12_seen 79 = .ok (.iload 7, 2) := by decide +kernel
theorem dX12_seen_81 : decode cX12_seen 81 = .ok (.iload_n 2, 1) := by decide +kernel
theorem dX12_seen_82 : decode cX12_seen 82 = .ok (.iload_n 3, 1) := by decide +kernel
theorem dX12_seen_83 : decode cX12_seen 83 = .ok (.iload 4, 2) := by decide +kernel
theorem dX12_seen_85 : decode cX12_seen 85 = .ok (.invokevirtual 223, 3) := by decide +kernel
theorem dX12_seen_88 : decode cX12_seen 88 = .ok (.ifCond .eq 10, 3) := by decide +kernel
theorem dX12_seen_91 : decode cX12_seen 91 = .ok (.iconst 1, 1) := by decide +kernel
theorem dX12_seen_92 : decode cX12_seen 92 = .ok (.iload 7, 2) := by decide +kernel
theorem dX12_seen_94 : decode cX12_seen 94 = .ok (.ishl, 1) := by decide +kernel
theorem dX12_seen_95 : decode cX12_seen 95 = .ok (.goto 4, 3) := by decide +kernel
theorem dX12_seen_98 : decode cX12_seen 98 = .ok (.iconst 0, 1) := by decide +kernel
theorem dX12_seen_99 : decode cX12_seen 99 = .ok (.ior, 1) := by decide +kernel
theorem dX12_seen_100 : decode cX12_seen 100 = .ok (.istore 6, 2) := by decide +kernel
theorem dX12_seen_102 : decode cX12_seen 102 = .ok (.iinc 7 1, 3) := by decide +kernel
theorem dX12_seen_105 : decode cX12_seen 105 = .ok (.goto (-41), 3) := by decide +kernel
theorem dX12_seen_108 : decode cX12_seen 108 = .ok (.aload_n 0, 1) := by decide +kernel
theorem dX12_seen_109 : decode cX12_seen 109 = .ok (.iload 6, 2) := by decide +kernel
theorem dX12_seen_111 : decode cX12_seen 111 = .ok (.invokevirtual 57, 3) := by decide +kernel
theorem dX12_seen_114 : decode cX12_seen 114 = .ok (.ireturn, 1) := by decide +kernel
theorem dX12_isTurnedSo_0 : decode cX12_isTurnedSo 0 = .ok (.aload_n 0, 1) := by decide +kernel
theorem dX12_isTurnedSo_1 : decode cX12_isTurnedSo 1 = .ok (.iconst 0, 1) := by decide +kernel
theorem dX12_isTurnedSo_2 : decode cX12_isTurnedSo 2 = .ok (.invokevirtual 188, 3) := by decide +kernel
theorem dX12_isTurnedSo_5 : decode cX12_isTurnedSo 5 = .ok (.aload_n 0, 1) := by decide +kernel
theorem dX12_isTurnedSo_6 : decode cX12_isTurnedSo 6 = .ok (.getfield 7, 3) := by decide +kernel
theorem dX12_isTurnedSo_9 : decode cX12_isTurnedSo 9 = .ok (.sipush 1804, 3) := by decide +kernel
theorem dX12_isTurnedSo_12 : decode cX12_isTurnedSo 12 = .ok (.iload_n 1, 1) := by decide +kernel
theorem dX12_isTurnedSo_13 : decode cX12_isTurnedSo 13 = .ok (.iadd, 1) := by decide +kernel
theorem dX12_isTurnedSo_14 : decode cX12_isTurnedSo 14 = .ok (.iload_n 2, 1) := by decide +kernel
theorem dX12_isTurnedSo_15 : decode cX12_isTurnedSo 15 = .ok (.iastore, 1) := by decide +kernel
theorem dX12_isTurnedSo_16 : decode cX12_isTurnedSo 16 = .ok (.iconst 0, 1) := by decide +kernel
theorem dX12_isTurnedSo_17 : decode cX12_isTurnedSo 17 = .ok (.istore 6, 2) := by decide +kernel
theorem dX12_isTurnedSo_19 : decode cX12_isTurnedSo 19 = .ok (.iload 6, 2) := by decide +kernel
theorem dX12_isTurnedSo_21 : decode cX12_isTurnedSo 21 = .ok (.iload 5, 2) := by decide +kernel
theorem dX12_isTurnedSo_23 : decode cX12_isTurnedSo 23 = .ok (.if_icmp .ge 44, 3) := by decide +kernel
theorem dX12_isTurnedSo_26 : decode cX12_isTurnedSo 26 = .ok (.aload_n 0, 1) := by decide +kernel
theorem dX12_isTurnedSo_27 : decode cX12_isTurnedSo 27 = .ok (.sipush 1782, 3) := by decide +kernel
theorem dX12_isTurnedSo_30 : decode cX12_isTurnedSo 30 = .ok (.invokevirtual 167, 3) := by decide +kernel
theorem dX12_isTurnedSo_33 : decode cX12_isTurnedSo 33 = .ok (.aload_n 0, 1) := by decide +kernel
theorem dX12_isTurnedSo_34 : decode cX12_isTurnedSo 34 = .ok (.getfield 7, 3) := by decide +kernel
theorem dX12_isTurnedSo_37 : decode cX12_isTurnedSo 37 = .ok (.sipush 1786, 3) := by decide +kernel
theorem dX12_isTurnedSo_40 : decode cX12_isTurnedSo 40 = .ok (.iaload, 1) := by decide +kernel
theorem dX12_isTurnedSo_41 : decode cX12_isTurnedSo 41 = .ok (.aload_n 0, 1) := by decide +kernel
theorem dX12_isTurnedSo_42 : decode cX12_isTurnedSo 42 = .ok (.getfield 23, 3) := by decide +kernel
theorem dX12_isTurnedSo_45 : decode cX12_isTurnedSo 45 = .ok (.bipush 40, 2) := by decide +kernel
theorem dX12_isTurnedSo_47 : decode cX12_isTurnedSo 47 = .ok (.iload_n 3, 1) := by decide +kernel
theorem dX12_isTurnedSo_48 : decode cX12_isTurnedSo 48 = .ok (.imul, 1) := by decide +kernel
theorem dX12_isTurnedSo_49 : decode cX12_isTurnedSo 49 = .ok (.iload 4, 2) := by decide +kernel
theorem dX12_isTurnedSo_51 : decode cX12_isTurnedSo 51 = .ok (.iadd, 1) := by decide +kernel
theorem dX12_isTurnedSo_52 : decode cX12_isTurnedSo 52 = .ok (.iload 6, 2) := by decide +kernel
theorem dX12_isTurnedSo_54 : decode cX12_isTurnedSo 54 = .ok (.iadd, 1) := by decide +kernel
theorem dX12_isTurnedSo_55 : decode cX12_isTurnedSo 55 = .ok (.iaload, 1) := by decide +kernel
theorem dX12_isTurnedSo_56 : decode cX12_isTurnedSo 56 = .ok (.if_icmp .eq 5, 3) := by decide +kernel
theorem dX12_isTurnedSo_59 : decode cX12_isTurnedSo 59 = .ok (.iconst 0, 1) := by decide +kernel
theorem dX12_isTurnedSo_60 : decode cX12_isTurnedSo 60 = .ok (.ireturn, 1) := by decide +kernel
theorem dX12_isTurnedSo_61 : decode cX12_isTurnedSo 61 = .ok (.iinc 6 1, 3) := by decide +kernel
theorem dX12_isTurnedSo_64 : decode cX12_isTurnedSo 64 = .ok (.goto (-45), 3) := by decide +kernel
theorem dX12_isTurnedSo_67 : decode cX12_isTurnedSo 67 = .ok (.iconst 1, 1) := by decide +kernel
theorem dX12_isTurnedSo_68 : decode cX12_isTurnedSo 68 = .ok (.ireturn, 1) := by decide +kernel
theorem dX12_who_0 : decode cX12_who 0 = .ok (.aload_n 0, 1) := by decide +kernel
theorem dX12_who_1 : decode cX12_who 1 = .ok (.iload_n 1, 1) := by decide +kernel
theorem dX12_who_2 : decode cX12_who 2 = .ok (.invokevirtual 183, 3) := by decide +kernel
theorem dX12_who_5 : decode cX12_who 5 = .ok (.ifCond .eq 23, 3) := by decide +kernel
theorem dX12_who_8 : decode cX12_who 8 = .ok (.iload_n 2, 1) := by decide +kernel
theorem dX12_who_9 : decode cX12_who 9 = .ok (.invokestatic 46, 3) := by decide +kernel
theorem dX12_who_12 : decode cX12_who 12 = .ok (.ifCond .eq 16, 3) := by decide +kernel
theorem dX12_who_15 : decode cX12_who 15 = .ok (.iload 4, 2) := by decide +kernel
theorem dX12_who_17 : decode cX12_who 17 = .ok (.i2l, 1) := by decide +kernel
theorem dX12_who_18 : decode cX12_who 18 = .ok (.lconst 1, 1) := by decide +kernel
theorem dX12_who_19 : decode cX12_who 19 = .ok (.ldc2_w 218, 3) := by decide +kernel
theorem dX12_who_22 : decode cX12_who 22 = .ok (.invokestatic 42, 3) := by decide +kernel
theorem dX12_who_25 : decode cX12_who 25 = .ok (.ifCond .ne 6, 3) := by decide +kernel
theorem dX12_who_28 : decode cX12_who 28 = .ok (.ldc 52, 2) := by decide +kernel
theorem dX12_who_30 : decode cX12_who 30 = .ok (.ireturn, 1) := by decide +kernel
theorem dX12_who_31 : decode cX12_who 31 = .ok (.aload_n 0, 1) := by decide +kernel
theorem dX12_who_32 : decode cX12_who 32 = .ok (.iload_n 2, 1) := by decide +kernel
theorem dX12_who_33 : decode cX12_who 33 = .ok (.iload_n 3, 1) := by decide +kernel
theorem dX12_who_34 : decode cX12_who 34 = .ok (.iload 4, 2) := by decide +kernel
theorem dX12_who_36 : decode cX12_who 36 = .ok (.invokevirtual 220, 3) := by decide +kernel
theorem dX12_who_39 : decode cX12_who 39 = .ok (.istore 5, 2) := by decide +kernel
theorem dX12_who_41 : decode cX12_who 41 = .ok (.iload 5, 2) := by decide +kernel
theorem dX12_who_43 : decode cX12_who 43 = .ok (.ifCond .eq 6, 3) := by decide +kernel
theorem dX12_who_46 : decode cX12_who 46 = .ok (.iload 5, 2) := by decide +kernel
theorem dX12_who_48 : decode cX12_who 48 = .ok (.ireturn, 1) := by decide +kernel
theorem dX12_who_49 : decode cX12_who 49 = .ok (.iconst 0, 1) := by decide +kernel
theorem dX12_who_50 : decode cX12_who 50 = .ok (.istore 6, 2) := by decide +kernel
theorem dX12_who_52 : decode cX12_who 52 = .ok (.iconst 1, 1) := by decide +kernel
theorem dX12_who_53 : decode cX12_who 53 = .ok (.istore 7, 2) := by decide +kernel
theorem dX12_who_55 : decode cX12_who 55 = .ok (.iload 7, 2) := by decide +kernel
theorem dX12_who_57 : decode cX12_who 57 = .ok (.bipush 6, 2) := by decide +kernel
theorem dX12_who_59 : decode cX12_who 59 = .ok (.if_icmp .ge 36, 3) := by decide +kernel
theorem dX12_who_62 : decode cX12_who 62 = .ok (.iload 6, 2) := by decide +kernel
theorem dX12_who_64 : decode cX12_who 64 = .ok (.aload_n 0, 1) := by decide +kernel
theorem dX12_who_65 : decode cX12_who 65 = .ok (.iload_n 1, 1) := by decide +kernel
theorem dX12_who_66 : decode cX12_who 66 = .ok (.iload 7, 2) := by decide +kernel
theorem dX12_who_68 : decode cX12_who 68 = .ok (.iload_n 2, 1) := by decide +kernel
theorem dX12_who_69 : decode cX12_who 69 = .ok (.iload_n 3, 1) := by decide +kernel
theorem dX12_who_70 : decode cX12_who 70 = .ok (.iload 4, 2) := by decide +kernel
theorem dX12_who_72 : decode cX12_who 72 = .ok (.invokevirtual 226, 3) := by decide +kernel
theorem dX12_who_75 : decode cX12_who 75 = .ok (.ifCond .eq 10, 3) := by decide +kernel
theorem dX12_who_78 : decode cX12_who 78 = .ok (.iconst 1, 1) := by decide +kernel
theorem dX12_who_79 : decode cX12_who 79 = .ok (.iload 7, 2) := by decide +kernel
theorem dX12_who_81 : decode cX12_who 81 = .ok (.ishl, 1) := by decide +kernel
theorem dX12_who_82 : decode cX12_who 82 = .ok (.goto 4, 3) := by decide +kernel
theorem dX12_who_85 : decode cX12_who 85 = .ok (.iconst 0, 1) := by decide +kernel
theorem dX12_who_86 : decode cX12_who 86 = .ok (.ior, 1) := by decide +kernel
theorem dX12_who_87 : decode cX12_who 87 = .ok (.istore 6, 2) := by decide +kernel
theorem dX12_who_89 : decode cX12_who 89 = .ok (.iinc 7 1, 3) := by decide +kernel
theorem dX12_who_92 : decode cX12_who 92 = .ok (.goto (-37), 3) := by decide +kernel
theorem dX12_who_95 : decode cX12_who 95 = .ok (.aload_n 0, 1) := by decide +kernel
theorem dX12_who_96 : decode cX12_who 96 = .ok (.iload 6, 2) := by decide +kernel
theorem dX12_who_98 : decode cX12_who 98 = .ok (.invokevirtual 57, 3) := by decide +kernel
theorem dX12_who_101 : decode cX12_who 101 = .ok (.ireturn, 1) := by decide +kernel
theorem dX12_areTogether_0 : decode cX12_areTogether 0 = .ok (.iconst 0, 1) := by decide +kernel
theorem dX12_areTogether_1 : decode cX12_areTogether 1 = .ok (.istore 4, 2) := by decide +kernel
theorem dX12_areTogether_3 : decode cX12_areTogether 3 = .ok (.iconst 0, 1) := by decide +kernel
theorem dX12_areTogether_4 : decode cX12_areTogether 4 = .ok (.istore 5, 2) := by decide +kernel
theorem dX12_areTogether_6 : decode cX12_areTogether 6 = .ok (.iload 5, 2) := by decide +kernel
theorem dX12_areTogether_8 : decode cX12_areTogether 8 = .ok (.bipush 6, 2) := by decide +kernel
theorem dX12_areTogether_10 : decode cX12_areTogether 10 = .ok (.iload_n 3, 1) := by decide +kernel
theorem dX12_areTogether_11 : decode cX12_areTogether 11 = .ok (.imul, 1) := by decide +kernel
theorem dX12_areTogether_12 : decode cX12_areTogether 12 = .ok (.if_icmp .ge 49, 3) := by decide +kernel
theorem dX12_areTogether_15 : decode cX12_areTogether 15 = .ok (.iload 4, 2) := by decide +kernel
theorem dX12_areTogether_17 : decode cX12_areTogether 17 = .ok (.ifCond .ne 31, 3) := by decide +kernel
theorem dX12_areTogether_20 : decode cX12_areTogether 20 = .ok (.aload_n 0, 1) := by decide +kernel
theorem dX12_areTogether_21 : decode cX12_areTogether 21 = .ok (.getfield 32, 3) := by decide +kernel
theorem dX12_areTogether_24 : decode cX12_areTogether 24 = .ok (.iload 5, 2) := by decide +kernel
theorem dX12_areTogether_26 : decode cX12_areTogether 26 = .ok (.iaload, 1) := by decide +kernel
theorem dX12_areTogether_27 : decode cX12_areTogether 27 = .ok (.iload_n 1, 1) := by decide +kernel
theorem dX12_areTogether_28 : decode cX12_areTogether 28 = .ok (.invokestatic 148, 3) := by decide +kernel
theorem dX12_areTogether_31 : decode cX12_areTogether 31 = .ok (.ifCond .eq 21, 3) := by decide +kernel
theorem dX12_areTogether_34 : decode cX12_areTogether 34 = .ok (.aload_n 0, 1) := by decide +kernel
theorem dX12_areTogether_35 : decode cX12_areTogether 35 = .ok (.getfield 32, 3) := by decide +kernel
theorem dX12_areTogether_38 : decode cX12_areTogether 38 = .ok (.iload 5, 2) := by decide +kernel
theorem dX12_areTogether_40 : decode cX12_areTogether 40 = .ok (.iaload, 1) := by decide +kernel
theorem dX12_areTogether_41 : decode cX12_areTogether 41 = .ok (.iload_n 2, 1) := by decide +kernel
theorem dX12_areTogether_42 : decode cX12_areTogether 42 = .ok (.invokestatic 148, 3) := by decide +kernel
theorem dX12_areTogether_45 : decode cX12_areTogether 45 = .ok (.ifCond .eq 7, 3) := by decide +kernel
theorem dX12_areTogether_48 : decode cX12_areTogether 48 = .ok (.iconst 1, 1) := by decide +kernel
theorem dX12_areTogether_49 : decode cX12_areTogether 49 = .ok (.goto 4, 3) := by decide +kernel
theorem dX12_areTogether_52 : decode cX12_areTogether 52 = .ok (.iconst 0, 1) := by decide +kernel
theorem dX12_areTogether_53 : decode cX12_areTogether 53 = .ok (.istore 4, 2) := by decide +kernel
theorem dX12_areTogether_55 : decode cX12_areTogether 55 = .ok (.iinc 5 1, 3) := by decide +kernel
theorem dX12_areTogether_58 : decode cX12_areTogether 58 = .ok (.goto (-52), 3) := by decide +kernel
theorem dX12_areTogether_61 : decode cX12_areTogether 61 = .ok (.iload 4, 2) := by decide +kernel
theorem dX12_areTogether_63 : decode cX12_areTogether 63 = .ok (.ireturn, 1) := by decide +kernel
theorem dX12_pairs_0 : decode cX12_pairs 0 = .ok (.aload_n 0, 1) := by decide +kernel
theorem dX12_pairs_1 : decode cX12_pairs 1 = .ok (.getfield 132, 3) := by decide +kernel
theorem dX12_pairs_4 : decode cX12_pairs 4 = .ok (.ifCond .ne 6, 3) := by decide +kernel
theorem dX12_pairs_7 : decode cX12_pairs 7 = .ok (.ldc 139, 2) := by decide +kernel
theorem dX12_pairs_9 : decode cX12_pairs 9 = .ok (.ireturn, 1) := by decide +kernel
theorem dX12_pairs_10 : decode cX12_pairs 10 = .ok (.iload_n 1, 1) := by decide +kernel
theorem dX12_pairs_11 : decode cX12_pairs 11 = .ok (.i2l, 1) := by decide +kernel
theorem dX12_pairs_12 : decode cX12_pairs 12 = .ok (.lconst 1, 1) := by decide +kernel
theorem dX12_pairs_13 : decode cX12_pairs 13 = .ok (.ldc2_w 186, 3) := by decide +kernel
theorem dX12_pairs_16 : decode cX12_pairs 16 = .ok (.invokestatic 42, 3) := by decide +kernel
theorem dX12_pairs_19 : decode cX12_pairs 19 = .ok (.ifCond .ne 6, 3) := by decide +kernel
theorem dX12_pairs_22 : decode cX12_pairs 22 = .ok (.ldc 52, 2) := by decide +kernel
theorem dX12_pairs_24 : decode cX12_pairs 24 = .ok (.ireturn, 1) := by decide +kernel
theorem dX12_pairs_25 : decode cX12_pairs 25 = .ok (.aload_n 0, 1) := by decide +kernel
theorem dX12_pairs_26 : decode cX12_pairs 26 = .ok (.iconst 0, 1) := by decide +kernel
theorem dX12_pairs_27 : decode cX12_pairs 27 = .ok (.invokevirtual 188, 3) := by decide +kernel
theorem dX12_pairs_30 : decode cX12_pairs 30 = .ok (.iconst 0, 1) := by decide +kernel
theorem dX12_pairs_31 : decode cX12_pairs 31 = .ok (.istore_n 2, 1) := by decide +kernel
theorem dX12_pairs_32 : decode cX12_pairs 32 = .ok (.iload_n 2, 1) := by decide +kernel
theorem dX12_pairs_33 : decode cX12_pairs 33 = .ok (.iload_n 1, 1) := by decide +kernel
theorem dX12_pairs_34 : decode cX12_pairs 34 = .ok (.if_icmp .ge 46, 3) := by decide +kernel
theorem dX12_pairs_37 : decode cX12_pairs 37 = .ok (.iconst 0, 1) := by decide +kernel
theorem dX12_pairs_38 : decode cX12_pairs 38 = .ok (.istore_n 3, 1) := by decide +kernel
theorem dX12_pairs_39 : decode cX12_pairs 39 = .ok (.iload_n 3, 1) := by decide +kernel
theorem dX12_pairs_40 : decode cX12_pairs 40 = .ok (.bipush 6, 2) := by decide +kernel
theorem dX12_pairs_42 : decode cX12_pairs 42 = .ok (.if_icmp .ge 25, 3) := by decide +kernel
theorem dX12_pairs_45 : decode cX12_pairs 45 = .ok (.aload_n 0, 1) := by decide +kernel
theorem dX12_pairs_46 : decode cX12_pairs 46 = .ok (.getfield 32, 3) := by decide +kernel
theorem dX12_pairs_49 : decode cX12_pairs 49 = .ok (.bipush 6, 2) := by decide +kernel
theorem dX12_pairs_51 : decode cX12_pairs 51 = .ok (.iload_n 2, 1) := by decide +kernel
theorem dX12_pairs_52 : decode cX12_pairs 52 = .ok (.imul, 1) := by decide +kernel
theorem dX12_pairs_53 : decode cX12_pairs 53 = .ok (.iload_n 3, 1) := by decide +kernel
theorem dX12_pairs_54 : decode cX12_pairs 54 = .ok (.iadd, 1) := by decide +kernel
theorem dX12_pairs_55 : decode cX12_pairs 55 = .ok (.aload_n 0, 1) := by decide +kernel
theorem dX12_pairs_56 : decode cX12_pairs 56 = .ok (.iload_n 3, 1) := by decide +kernel
theorem dX12_pairs_57 : decode cX12_pairs 57 = .ok (.invokevirtual 194, 3) := by decide +kernel
theorem dX12_pairs_60 : decode cX12_pairs 60 = .ok (.iastore, 1) := by decide +kernel
theorem dX12_pairs_61 : decode cX12_pairs 61 = .ok (.iinc 3 1, 3) := by decide +kernel
theorem dX12_pairs_64 : decode cX12_pairs 64 = .ok (.goto (-25), 3) := by decide +kernel
theorem dX12_pairs_67 : decode cX12_pairs 67 = .ok (.aload_n 0, 1) := by decide +kernel
theorem dX12_pairs_68 : decode cX12_pairs 68 = .ok (.sipush 1782, 3) := by decide +kernel
theorem dX12_pairs_71 : decode cX12_pairs 71 = .ok (.invokevirtual 167, 3) := by decide +kernel
theorem dX12_pairs_74 : decode cX12_pairs 74 = .ok (.iinc 2 1, 3) := by decide +kernel
theorem dX12_pairs_77 : decode cX12_pairs 77 = .ok (.goto (-45), 3) := by decide +kernel
theorem dX12_pairs_80 : decode cX12_pairs 80 = .ok (.iconst 0, 1) := by decide +kernel
theorem dX12_pairs_81 : decode cX12_pairs 81 = .ok (.istore_n 2, 1) := by decide +kernel
theorem dX12_pairs_82 : decode cX12_pairs 82 = .ok (.iconst 0, 1) := by decide +kernel
theorem dX12_pairs_83 : decode cX12_pairs 83 = .ok (.istore_n 3, 1) := by decide +kernel
theorem dX12_pairs_84 : decode cX12_pairs 84 = .ok (.iload_n 3, 1) := by decide +kernel
theorem dX12_pairs_85 : decode cX12_pairs 85 = .ok (.bipush 6, 2) := by decide +kernel
theorem dX12_pairs_87 : decode cX12_pairs 87 = .ok (.if_icmp .ge 43, 3) := by decide +kernel
theorem dX12_pairs_90 : decode cX12_pairs 90 = .ok (.iconst 0, 1) := by decide +kernel
theorem dX12_pairs_91 : decode cX12_pairs 91 = .ok (.istore 4, 2) := by decide +kernel
theorem dX12_pairs_93 : decode cX12_pairs 93 = .ok (.iload 4, 2) := by decide +kernel
theorem dX12_pairs_95 : decode cX12_pairs 95 = .ok (.iload_n 3, 1) := by decide +kernel
theorem dX12_pairs_96 : decode cX12_pairs 96 = .ok (.if_icmp .ge 28, 3) := by decide +kernel
theorem dX12_pairs_99 : decode cX12_pairs 99 = .ok (.iload_n 2, 1) := by decide +kernel
theorem dX12_pairs_100 : decode cX12_pairs 100 = .ok (.aload_n 0, 1) := by decide +kernel
theorem dX12_pairs_101 : decode cX12_pairs 101 = .ok (.iload_n 3, 1) := by decide +kernel
theorem dX12_pairs_102 : decode cX12_pairs 102 = .ok (.iload 4, 2) := by decide +kernel
theorem dX12_pairs_104 : decode cX12_pairs 104 = .ok (.iload_n 1, 1) := by decide +kernel
theorem dX12_pairs_105 : decode cX12_pairs 105 = .ok (.invokevirtual 229, 3) := by decide +kernel
theorem dX12_pairs_108 : decode cX12_pairs 108 = .ok (.ifCond .eq 7, 3) := by decide +kernel
theorem dX12_pairs_111 : decode cX12_pairs 111 = .ok (.iconst 1, 1) := by decide +kernel
theorem dX12_pairs_112 : decode cX12_pairs 112 = .ok (.goto 4, 3) := by decide +kernel
theorem dX12_pairs_115 : decode cX12_pairs 115 = .ok (.iconst 0, 1) := by decide +kernel
theorem dX12_pairs_116 : decode cX12_pairs 116 = .ok (.iadd, 1) := by decide +kernel
theorem dX12_pairs_117 : decode cX12_pairs 117 = .ok (.istore_n 2, 1) := by decide +kernel
theorem dX12_pairs_118 : decode cX12_pairs 118 = .ok (.iinc 4 1, 3) := by decide +kernel
theorem dX12_pairs_121 : decode cX12_pairs 121 = .ok (.goto (-28), 3) := by decide +kernel
theorem dX12_pairs_124 : decode cX12_pairs 124 = .ok (.iinc 3 1, 3) := by decide +kernel
theorem dX12_pairs_127 : decode cX12_pairs 127 = .ok (.goto (-43), 3) := by decide +kernel
theorem dX12_pairs_130 : decode cX12_pairs 130 = .ok (.iload_n 2, 1) := by decide +kernel
theorem dX12_pairs_131 : decode cX12_pairs 131 = .ok (.ireturn, 1) := by decide +kernel
theorem dX12_forgets_0 : decode cX12_forgets 0 = .ok (.aload_n 0, 1) := by decide +kernel
theorem dX12_forgets_1 : decode cX12_forgets 1 = .ok (.getfield 132, 3) := by decide +kernel
theorem dX12_forgets_4 : decode cX12_forgets 4 = .ok (.ifCond .ne 7, 3) := by decide +kernel
theorem dX12_forgets_7 : decode cX12_forgets 7 = .ok (.ldc2_w 232, 3) := by decide +kernel
theorem dX12_forgets_10 : decode cX12_forgets 10 = .ok (.lreturn, 1) := by decide +kernel
theorem dX12_forgets_11 : decode cX12_forgets 11 = .ok (.iload_n 1, 1) := by decide +kernel
theorem dX12_forgets_12 : decode cX12_forgets 12 = .ok (.invokestatic 176, 3) := by decide +kernel
theorem dX12_forgets_15 : decode cX12_forgets 15 = .ok (.ifCond .eq 46, 3) := by decide +kernel
theorem dX12_forgets_18 : decode cX12_forgets 18 = .ok (.iload_n 2, 1) := by decide +kernel
theorem dX12_forgets_19 : decode cX12_forgets 19 = .ok (.invokestatic 176, 3) := by decide +kernel
theorem dX12_forgets_22 : decode cX12_forgets 22 = .ok (.ifCond .eq 39, 3) := by decide +kernel
theorem dX12_forgets_25 : decode cX12_forgets 25 = .ok (.iload_n 3, 1) := by decide +kernel
theorem dX12_forgets_26 : decode cX12_forgets 26 = .ok (.i2l, 1) := by decide +kernel
theorem dX12_forgets_27 : decode cX12_forgets 27 = .ok (.lconst 0, 1) := by decide +kernel
theorem dX12_forgets_28 : decode cX12_forgets 28 = .ok (.ldc2_w 181, 3) := by decide +kernel
theorem dX12_forgets_31 : decode cX12_forgets 31 = .ok (.invokestatic 42, 3) := by decide +kernel
theorem dX12_forgets_34 : decode cX12_forgets 34 = .ok (.ifCond .eq 27, 3) := by decide +kernel
theorem dX12_forgets_37 : decode cX12_forgets 37 = .ok (.iload 4, 2) := by decide +kernel
theorem dX12_forgets_39 : decode cX12_forgets 39 = .ok (.i2l, 1) := by decide +kernel
theorem dX12_forgets_40 : decode cX12_forgets 40 = .ok (.lconst 0, 1) := by decide +kernel
theorem dX12_forgets_41 : decode cX12_forgets 41 = .ok (.ldc2_w 234, 3) := by decide +kernel
theorem dX12_forgets_44 : decode cX12_forgets 44 = .ok (.invokestatic 42, 3) := by decide +kernel
theorem dX12_forgets_47 : decode cX12_forgets 47 = .ok (.ifCond .eq 14, 3) := by decide +kernel
theorem dX12_forgets_50 : decode cX12_forgets 50 = .ok (.iload 5, 2) := by decide +kernel
theorem dX12_forgets_52 : decode cX12_forgets 52 = .ok (.i2l, 1) := by decide +kernel
theorem dX12_forgets_53 : decode cX12_forgets 53 = .ok (.lconst 0, 1) := by decide +kernel
theorem dX12_forgets_54 : decode cX12_forgets 54 = .ok (.lconst 1, 1) := by decide +kernel
theorem dX12_forgets_55 : decode cX12_forgets 55 = .ok (.invokestatic 42, 3) := by decide +kernel
theorem dX12_forgets_58 : decode cX12_forgets 58 = .ok (.ifCond .ne 7, 3) := by decide +kernel
theorem dX12_forgets_61 : decode cX12_forgets 61 = .ok (.ldc2_w 236, 3) := by decide +kernel
theorem dX12_forgets_64 : decode cX12_forgets 64 = .ok (.lreturn, 1) := by decide +kernel
theorem dX12_forgets_65 : decode cX12_forgets 65 = .ok (.lconst 0, 1) := by decide +kernel
theorem dX12_forgets_66 : decode cX12_forgets 66 = .ok (.lstore 6, 2) := by decide +kernel
theorem dX12_forgets_68 : decode cX12_forgets 68 = .ok (.lconst 0, 1) := by decide +kernel
theorem dX12_forgets_69 : decode cX12_forgets 69 = .ok (.lstore 8, 2) := by decide +kernel
theorem dX12_forgets_71 : decode cX12_forgets 71 = .ok (.iconst 0, 1) := by decide +kernel
theorem dX12_forgets_72 : decode cX12_forgets 72 = .ok (.istore 10, 2) := by decide +kernel
theorem dX12_forgets_74 : decode cX12_forgets 74 = .ok (.iload 10, 2) := by decide +kernel
theorem dX12_forgets_76 : decode cX12_forgets 76 = .ok (.iconst 1, 1) := by decide +kernel
theorem dX12_forgets_77 : decode cX12_forgets 77 = .ok (.iload_n 3, 1) := by decide +kernel
theorem dX12_forgets_78 : decode cX12_forgets 78 = .ok (.ishl, 1) := by decide +kernel
theorem dX12_forgets_79 : decode cX12_forgets 79 = .ok (.if_icmp .ge 131, 3) := by decide +kernel
theorem dX12_forgets_82 : decode cX12_forgets 82 = .ok (.lconst 1, 1) := by decide +kernel
theorem dX12_forgets_83 : decode cX12_forgets 83 = .ok (.lstore 11, 2) := by decide +kernel
theorem dX12_forgets_85 : decode cX12_forgets 85 = .ok (.aload_n 0, 1) := by decide +kernel
theorem dX12_forgets_86 : decode cX12_forgets 86 = .ok (.iconst 0, 1) := by decide +kernel
theorem dX12_forgets_87 : decode cX12_forgets 87 = .ok (.sipush 1782, 3) := by decide +kernel
theorem dX12_forgets_90 : decode cX12_forgets 90 = .ok (.invokevirtual 128, 3) := by decide +kernel
theorem dX12_forgets_93 : decode cX12_forgets 93 = .ok (.iconst 0, 1) := by decide +kernel
theorem dX12_forgets_94 : decode cX12_forgets 94 = .ok (.istore 13, 2) := by decide +kernel
theorem dX12_forgets_96 : decode cX12_forgets 96 = .ok (.iload 13, 2) := by decide +kernel
theorem dX12_forgets_98 : decode cX12_forgets 98 = .ok (.iload_n 3, 1) := by decide +kernel
theorem dX12_forgets_99 : decode cX12_forgets 99 = .ok (.if_icmp .ge 78, 3) := by decide +kernel
theorem dX12_forgets_102 : decode cX12_forgets 102 = .ok (.iload 10, 2) := by decide +kernel
theorem dX12_forgets_104 : decode cX12_forgets 104 = .ok (.iload 13, 2) := by decide +kernel
theorem dX12_forgets_106 : decode cX12_forgets 106 = .ok (.invokestatic 148, 3) := by decide +kernel
theorem dX12_forgets_109 : decode cX12_forgets 109 = .ok (.istore 14, 2) := by decide +kernel
theorem dX12_forgets_111 : decode cX12_forgets 111 = .ok (.lload 11, 2) := by decide +kernel
theorem dX12_forgets_113 : decode cX12_forgets 113 = .ok (.iload 14, 2) := by decide +kernel
theorem dX12_forgets_115 : decode cX12_forgets 115 = .ok (.ifCond .eq 9, 3) := by decide +kernel
theorem dX12_forgets_118 : decode cX12_forgets 118 = .ok (.iload 4, 2) := by decide +kernel
theorem dX12_forgets_120 : decode cX12_forgets 120 = .ok (.i2l, 1) := by decide +kernel
theorem dX12_forgets_121 : decode cX12_forgets 121 = .ok (.goto 9, 3) := by decide +kernel
theorem dX12_forgets_124 : decode cX12_forgets 124 = .ok (.bipush 10, 2) := by decide +kernel
theorem dX12_forgets_126 : decode cX12_forgets 126 = .ok (.iload 4, 2) := by decide +kernel
theorem dX12_forgets_128 : decode cX12_forgets 128 = .ok (.isub, 1) := by decide +kernel
theorem dX12_forgets_129 : decode cX12_forgets 129 = .ok (.i2l, 1) := by decide +kernel
theorem dX12_forgets_130 : decode cX12_forgets 130 = .ok (.lmul, 1) := by decide +kernel
theorem dX12_forgets_131 : decode cX12_forgets 131 = .ok (.lstore 11, 2) := by decide +kernel
theorem dX12_forgets_133 : decode cX12_forgets 133 = .ok (.aload_n 0, 1) := by decide +kernel
theorem dX12_forgets_134 : decode cX12_forgets 134 = .ok (.sipush 1782, 3) := by decide +kernel
theorem dX12_forgets_137 : decode cX12_forgets 137 = .ok (.iload 14, 2) := by decide +kernel
theorem dX12_forgets_139 : decode cX12_forgets 139 = .ok (.ifCond .eq 7, 3) := by decide +kernel
theorem dX12_forgets_142 : decode cX12_forgets 142 = .ok (.iconst 0, 1) := by decide +kernel
theorem dX12_forgets_143 : decode cX12_forgets 143 = .ok (.goto 25, 3) := by decide +kernel
theorem dX12_forgets_146 : decode cX12_forgets 146 = .ok (.aload_n 0, 1) := by decide +kernel
theorem dX12_forgets_147 : decode cX12_forgets 147 = .ok (.sipush 1782, 3) := by decide +kernel
theorem dX12_forgets_150 : decode cX12_forgets 150 = .ok (.aload_n 0, 1) := by decide +kernel
theorem dX12_forgets_151 : decode cX12_forgets 151 = .ok (.getfield 7, 3) := by decide +kernel
theorem dX12_forgets_154 : decode cX12_forgets 154 = .ok (.sipush 1785, 3) := by decide +kernel
theorem dX12_forgets_157 : decode cX12_forgets 157 = .ok (.iaload, 1) := by decide +kernel
theorem dX12_forgets_158 : decode cX12_forgets 158 = .ok (.aload_n 0, 1) := by decide +kernel
theorem dX12_forgets_159 : decode cX12_forgets 159 = .ok (.getfield 7, 3) := by decide +kernel
theorem dX12_forgets_162 : decode cX12_forgets 162 = .ok (.iconst 2, 1) := by decide +kernel
theorem dX12_forgets_163 : decode cX12_forgets 163 = .ok (.iaload, 1) := by decide +kernel
theorem dX12_forgets_164 : decode cX12_forgets 164 = .ok (.irem, 1) := by decide +kernel
theorem dX12_forgets_165 : decode cX12_forgets 165 = .ok (.invokevirtual 161, 3) := by decide +kernel
theorem dX12_forgets_168 : decode cX12_forgets 168 = .ok (.invokevirtual 164, 3) := by decide +kernel
theorem dX12_forgets_171 : decode cX12_forgets 171 = .ok (.iinc 13 1, 3) := by decide +kernel
theorem dX12_forgets_174 : decode cX12_forgets 174 = .ok (.goto (-78), 3) := by decide +kernel
theorem dX12_forgets_177 : decode cX12_forgets 177 = .ok (.lload 6, 2) := by decide +kernel
theorem dX12_forgets_179 : decode cX12_forgets 179 = .ok (.aload_n 0, 1) := by decide +kernel
theorem dX12_forgets_180 : decode cX12_forgets 180 = .ok (.iload_n 1, 1) := by decide +kernel
theorem dX12_forgets_181 : decode cX12_forgets 181 = .ok (.iload_n 2, 1) := by decide +kernel
theorem dX12_forgets_182 : decode cX12_forgets 182 = .ok (.invokevirtual 191, 3) := by decide +kernel
theorem dX12_forgets_185 : decode cX12_forgets 185 = .ok (.ifCond .eq 8, 3) := by decide +kernel
theorem dX12_forgets_188 : decode cX12_forgets 188 = .ok (.lload 11, 2) := by decide +kernel
theorem dX12_forgets_190 : decode cX12_forgets 190 = .ok (.goto 4, 3) := by decide +kernel
theorem dX12_forgets_193 : decode cX12_forgets 193 = .ok (.lconst 0, 1) := by decide +kernel
theorem dX12_forgets_194 : decode cX12_forgets 194 = .ok (.ladd, 1) := by decide +kernel
theorem dX12_forgets_195 : decode cX12_forgets 195 = .ok (.lstore 6, 2) := by decide +kernel
theorem dX12_forgets_197 : decode cX12_forgets 197 = .ok (.lload 8, 2) := by decide +kernel
theorem dX12_forgets_199 : decode cX12_forgets 199 = .ok (.lload 11, 2) := by decide +kernel
theorem dX12_forgets_201 : decode cX12_forgets 201 = .ok (.ladd, 1) := by decide +kernel
theorem dX12_forgets_202 : decode cX12_forgets 202 = .ok (.lstore 8, 2) := by decide +kernel
theorem dX12_forgets_204 : decode cX12_forgets 204 = .ok (.iinc 10 1, 3) := by decide +kernel
theorem dX12_forgets_207 : decode cX12_forgets 207 = .ok (.goto (-133), 3) := by decide +kernel
theorem dX12_forgets_210 : decode cX12_forgets 210 = .ok (.lload 6, 2) := by decide +kernel
theorem dX12_forgets_212 : decode cX12_forgets 212 = .ok (.lstore 10, 2) := by decide +kernel
theorem dX12_forgets_214 : decode cX12_forgets 214 = .ok (.lload 8, 2) := by decide +kernel
theorem dX12_forgets_216 : decode cX12_forgets 216 = .ok (.lstore 12, 2) := by decide +kernel
theorem dX12_forgets_218 : decode cX12_forgets 218 = .ok (.lload 12, 2) := by decide +kernel
theorem dX12_forgets_220 : decode cX12_forgets 220 = .ok (.lconst 0, 1) := by decide +kernel
theorem dX12_forgets_221 : decode cX12_forgets 221 = .ok (.lcmp, 1) := by decide +kernel
theorem dX12_forgets_222 : decode cX12_forgets 222 = .ok (.ifCond .eq 21, 3) := by decide +kernel
theorem dX12_forgets_225 : decode cX12_forgets 225 = .ok (.lload 10, 2) := by decide +kernel
theorem dX12_forgets_227 : decode cX12_forgets 227 = .ok (.lload 12, 2) := by decide +kernel
theorem dX12_forgets_229 : decode cX12_forgets 229 = .ok (.lrem, 1) := by decide +kernel
theorem dX12_forgets_230 : decode cX12_forgets 230 = .ok (.lstore 14, 2) := by decide +kernel
theorem dX12_forgets_232 : decode cX12_forgets 232 = .ok (.lload 12, 2) := by decide +kernel
theorem dX12_forgets_234 : decode cX12_forgets 234 = .ok (.lstore 10, 2) := by decide +kernel
theorem dX12_forgets_236 : decode cX12_forgets 236 = .ok (.lload 14, 2) := by decide +kernel
theorem dX12_forgets_238 : decode cX12_forgets 238 = .ok (.lstore 12, 2) := by decide +kernel
theorem dX12_forgets_240 : decode cX12_forgets 240 = .ok (.goto (-22), 3) := by decide +kernel
theorem dX12_forgets_243 : decode cX12_forgets 243 = .ok (.iload 5, 2) := by decide +kernel
theorem dX12_forgets_245 : decode cX12_forgets 245 = .ok (.ifCond .ne 11, 3) := by decide +kernel
theorem dX12_forgets_248 : decode cX12_forgets 248 = .ok (.lload 6, 2) := by decide +kernel
theorem dX12_forgets_250 : decode cX12_forgets 250 = .ok (.lload 10, 2) := by decide +kernel
theorem dX12_forgets_252 : decode cX12_forgets 252 = .ok (.ldiv, 1) := by decide +kernel
theorem dX12_forgets_253 : decode cX12_forgets 253 = .ok (.goto 8, 3) := by decide +kernel
theorem dX12_forgets_256 : decode cX12_forgets 256 = .ok (.lload 8, 2) := by decide +kernel
theorem dX12_forgets_258 : decode cX12_forgets 258 = .ok (.lload 10, 2) := by decide +kernel
theorem dX12_forgets_260 : decode cX12_forgets 260 = .ok (.ldiv, 1) := by decide +kernel
theorem dX12_forgets_261 : decode cX12_forgets 261 = .ok (.lreturn, 1) := by decide +kernel
theorem dX12_doneInAll_0 : decode cX12_doneInAll 0 = .ok (.iconst 0, 1) := by decide +kernel
theorem dX12_doneInAll_1 : decode cX12_doneInAll 1 = .ok (.istore_n 2, 1) := by decide +kernel
theorem dX12_doneInAll_2 : decode cX12_doneInAll 2 = .ok (.iconst 0, 1) := by decide +kernel
theorem dX12_doneInAll_3 : decode cX12_doneInAll 3 = .ok (.istore_n 3, 1) := by decide +kernel
theorem dX12_doneInAll_4 : decode cX12_doneInAll 4 = .ok (.iload_n 3, 1) := by decide +kernel
theorem dX12_doneInAll_5 : decode cX12_doneInAll 5 = .ok (.bipush 6, 2) := by decide +kernel
theorem dX12_doneInAll_7 : decode cX12_doneInAll 7 = .ok (.if_icmp .ge 18, 3) := by decide +kernel
theorem dX12_doneInAll_10 : decode cX12_doneInAll 10 = .ok (.iload_n 2, 1) := by decide +kernel
theorem dX12_doneInAll_11 : decode cX12_doneInAll 11 = .ok (.aload_n 0, 1) := by decide +kernel
theorem dX12_doneInAll_12 : decode cX12_doneInAll 12 = .ok (.iload_n 1, 1) := by decide +kernel
theorem dX12_doneInAll_13 : decode cX12_doneInAll 13 = .ok (.iload_n 3, 1) := by decide +kernel
theorem dX12_doneInAll_14 : decode cX12_doneInAll 14 = .ok (.invokevirtual 204, 3) := by decide +kernel
theorem dX12_doneInAll_17 : decode cX12_doneInAll 17 = .ok (.iadd, 1) := by decide +kernel
theorem dX12_doneInAll_18 : decode cX12_doneInAll 18 = .ok (.istore_n 2, 1) := by decide +kernel
theorem dX12_doneInAll_19 : decode cX12_doneInAll 19 = .ok (.iinc 3 1, 3) := by decide +kernel
theorem dX12_doneInAll_22 : decode cX12_doneInAll 22 = .ok (.goto (-18), 3) := by decide +kernel
theorem dX12_doneInAll_25 : decode cX12_doneInAll 25 = .ok (.iload_n 2, 1) := by decide +kernel
theorem dX12_doneInAll_26 : decode cX12_doneInAll 26 = .ok (.ireturn, 1) := by decide +kernel
theorem dX12_drawn_0 : decode cX12_drawn 0 = .ok (.aload_n 0, 1) := by decide +kernel
theorem dX12_drawn_1 : decode cX12_drawn 1 = .ok (.getfield 132, 3) := by decide +kernel
theorem dX12_drawn_4 : decode cX12_drawn 4 = .ok (.ifCond .ne 6, 3) := by decide +kernel
theorem dX12_drawn_7 : decode cX12_drawn 7 = .ok (.ldc 139, 2) := by decide +kernel
theorem dX12_drawn_9 : decode cX12_drawn 9 = .ok (.ireturn, 1) := by decide +kernel
theorem dX12_drawn_10 : decode cX12_drawn 10 = .ok (.iload_n 1, 1) := by decide +kernel
theorem dX12_drawn_11 : decode cX12_drawn 11 = .ok (.i2l, 1) := by decide +kernel
theorem dX12_drawn_12 : decode cX12_drawn 12 = .ok (.lconst 0, 1) := by decide +kernel
theorem dX12_drawn_13 : decode cX12_drawn 13 = .ok (.ldc2_w 186, 3) := by decide +kernel
theorem dX12_drawn_16 : decode cX12_drawn 16 = .ok (.invokestatic 42, 3) := by decide +kernel
theorem dX12_drawn_19 : decode cX12_drawn 19 = .ok (.ifCond .eq 25, 3) := by decide +kernel
theorem dX12_drawn_22 : decode cX12_drawn 22 = .ok (.iload_n 2, 1) := by decide +kernel
theorem dX12_drawn_23 : decode cX12_drawn 23 = .ok (.i2l, 1) := by decide +kernel
theorem dX12_drawn_24 : decode cX12_drawn 24 = .ok (.lconst 1, 1) := by decide +kernel
theorem dX12_drawn_25 : decode cX12_drawn 25 = .ok (.ldc2_w 238, 3) := by decide +kernel
theorem dX12_drawn_28 : decode cX12_drawn 28 = .ok (.invokestatic 42, 3) := by decide +kernel
theorem dX12_drawn_31 : decode cX12_drawn 31 = .ok (.ifCond .eq 13, 3) := by decide +kernel
theorem dX12_drawn_34 : decode cX12_drawn 34 = .ok (.iload_n 3, 1) := by decide +kernel
theorem dX12_drawn_35 : decode cX12_drawn 35 = .ok (.i2l, 1) := by decide +kernel
theorem dX12_drawn_36 : decode cX12_drawn 36 = .ok (.lconst 0, 1) := by decide +kernel
theorem dX12_drawn_37 : decode cX12_drawn 37 = .ok (.lconst 1, 1) := by decide +kernel
theorem dX12_drawn_38 : decode cX12_drawn 38 = .ok (.invokestatic 42, 3) := by decide +kernel
theorem dX12_drawn_41 : decode cX12_drawn 41 = .ok (.ifCond .ne 6, 3) := by decide +kernel
theorem dX12_drawn_44 : decode cX12_drawn 44 = .ok (.ldc 52, 2) := by decide +kernel
theorem dX12_drawn_46 : decode cX12_drawn 46 = .ok (.ireturn, 1) := by decide +kernel
theorem dX12_drawn_47 : decode cX12_drawn 47 = .ok (.aload_n 0, 1) := by decide +kernel
theorem dX12_drawn_48 : decode cX12_drawn 48 = .ok (.iconst 0, 1) := by decide +kernel
theorem dX12_drawn_49 : decode cX12_drawn 49 = .ok (.sipush 1782, 3) := by decide +kernel
theorem dX12_drawn_52 : decode cX12_drawn 52 = .ok (.invokevirtual 128, 3) := by decide +kernel
theorem dX12_drawn_55 : decode cX12_drawn 55 = .ok (.iload_n 2, 1) := by decide +kernel
theorem dX12_drawn_56 : decode cX12_drawn 56 = .ok (.i2l, 1) := by decide +kernel
theorem dX12_drawn_57 : decode cX12_drawn 57 = .ok (.lstore 4, 2) := by decide +kernel
theorem dX12_drawn_59 : decode cX12_drawn 59 = .ok (.iconst 0, 1) := by decide +kernel
theorem dX12_drawn_60 : decode cX12_drawn 60 = .ok (.istore 6, 2) := by decide +kernel
theorem dX12_drawn_62 : decode cX12_drawn 62 = .ok (.iload 6, 2) := by decide +kernel
theorem dX12_drawn_64 : decode cX12_drawn 64 = .ok (.iload_n 1, 1) := by decide +kernel
theorem dX12_drawn_65 : decode cX12_drawn 65 = .ok (.if_icmp .ge 48, 3) := by decide +kernel
theorem dX12_drawn_68 : decode cX12_drawn 68 = .ok (.lload 4, 2) := by decide +kernel
theorem dX12_drawn_70 : decode cX12_drawn 70 = .ok (.ldc2_w 240, 3) := by decide +kernel
theorem dX12_drawn_73 : decode cX12_drawn 73 = .ok (.lmul, 1) := by decide +kernel
theorem dX12_drawn_74 : decode cX12_drawn 74 = .ok (.ldc2_w 242, 3) := by decide +kernel
theorem dX12_drawn_77 : decode cX12_drawn 77 = .ok (.lrem, 1) := by decide +kernel
theorem dX12_drawn_78 : decode cX12_drawn 78 = .ok (.lstore 4, 2) := by decide +kernel
theorem dX12_drawn_80 : decode cX12_drawn 80 = .ok (.aload_n 0, 1) := by decide +kernel
theorem dX12_drawn_81 : decode cX12_drawn 81 = .ok (.getfield 7, 3) := by decide +kernel
theorem dX12_drawn_84 : decode cX12_drawn 84 = .ok (.sipush 1787, 3) := by decide +kernel
theorem dX12_drawn_87 : decode cX12_drawn 87 = .ok (.dup2, 1) := by decide +kernel
theorem dX12_drawn_88 : decode cX12_drawn 88 = .ok (.iaload, 1) := by decide +kernel
theorem dX12_drawn_89 : decode cX12_drawn 89 = .ok (.iconst 1, 1) := by decide +kernel
theorem dX12_drawn_90 : decode cX12_drawn 90 = .ok (.lload 4, 2) := by decide +kernel
theorem dX12_drawn_92 : decode cX12_drawn 92 = .ok (.ldc2_w 179, 3) := by decide +kernel
theorem dX12_drawn_95 : decode cX12_drawn 95 = .ok (.lrem, 1) := by decide +kernel
theorem dX12_drawn_96 : decode cX12_drawn 96 = .ok (.l2i, 1) := by decide +kernel
theorem dX12_drawn_97 : decode cX12_drawn 97 = .ok (.ishl, 1) := by decide +kernel
theorem dX12_drawn_98 : decode cX12_drawn 98 = .ok (.ior, 1) := by decide +kernel
theorem dX12_drawn_99 : decode cX12_drawn 99 = .ok (.iastore, 1) := by decide +kernel
theorem dX12_drawn_100 : decode cX12_drawn 100 = .ok (.aload_n 0, 1) := by decide +kernel
theorem dX12_drawn_101 : decode cX12_drawn 101 = .ok (.sipush 1782, 3) := by decide +kernel
theorem dX12_drawn_104 : decode cX12_drawn 104 = .ok (.invokevirtual 167, 3) := by decide +kernel
theorem dX12_drawn_107 : decode cX12_drawn 107 = .ok (.iinc 6 1, 3) := by decide +kernel
theorem dX12_drawn_110 : decode cX12_drawn 110 = .ok (.goto (-48), 3) := by decide +kernel
theorem dX12_drawn_113 : decode cX12_drawn 113 = .ok (.iload_n 3, 1) := by decide +kernel
theorem dX12_drawn_114 : decode cX12_drawn 114 = .ok (.ifCond .ne 19, 3) := by decide +kernel
theorem dX12_drawn_117 : decode cX12_drawn 117 = .ok (.aload_n 0, 1) := by decide +kernel
theorem dX12_drawn_118 : decode cX12_drawn 118 = .ok (.sipush 1782, 3) := by decide +kernel
theorem dX12_drawn_121 : decode cX12_drawn 121 = .ok (.invokevirtual 244, 3) := by decide +kernel
theorem dX12_drawn_124 : decode cX12_drawn 124 = .ok (.aload_n 0, 1) := by decide +kernel
theorem dX12_drawn_125 : decode cX12_drawn 125 = .ok (.iconst 0, 1) := by decide +kernel
theorem dX12_drawn_126 : decode cX12_drawn 126 = .ok (.invokevirtual 244, 3) := by decide +kernel
theorem dX12_drawn_129 : decode cX12_drawn 129 = .ok (.isub, 1) := by decide +kernel
theorem dX12_drawn_130 : decode cX12_drawn 130 = .ok (.goto 11, 3) := by decide +kernel
theorem dX12_drawn_133 : decode cX12_drawn 133 = .ok (.aload_n 0, 1) := by decide +kernel
theorem dX12_drawn_134 : decode cX12_drawn 134 = .ok (.getfield 7, 3) := by decide +kernel
theorem dX12_drawn_137 : decode cX12_drawn 137 = .ok (.sipush 1786, 3) := by decide +kernel
theorem dX12_drawn_140 : decode cX12_drawn 140 = .ok (.iaload, 1) := by decide +kernel
theorem dX12_drawn_141 : decode cX12_drawn 141 = .ok (.ireturn, 1) := by decide +kernel
theorem dX12_image_0 : decode cX12_image 0 = .ok (.iload_n 1, 1) := by decide +kernel
theorem dX12_image_1 : decode cX12_image 1 = .ok (.i2l, 1) := by decide +kernel
theorem dX12_image_2 : decode cX12_image 2 = .ok (.lconst 0, 1) := by decide +kernel
theorem dX12_image_3 : decode cX12_image 3 = .ok (.lconst 1, 1) := by decide +kernel
theorem dX12_image_4 : decode cX12_image 4 = .ok (.invokestatic 42, 3) := by decide +kernel
theorem dX12_image_7 : decode cX12_image 7 = .ok (.ifCond .ne 6, 3) := by decide +kernel
theorem dX12_image_10 : decode cX12_image 10 = .ok (.ldc 52, 2) := by decide +kernel
theorem dX12_image_12 : decode cX12_image 12 = .ok (.ireturn, 1) := by decide +kernel
theorem dX12_image_13 : decode cX12_image 13 = .ok (.aload_n 0, 1) := by decide +kernel
theorem dX12_image_14 : decode cX12_image 14 = .ok (.getfield 132, 3) := by decide +kernel
theorem dX12_image_17 : decode cX12_image 17 = .ok (.ifCond .ne 6, 3) := by decide +kernel
theorem dX12_image_20 : decode cX12_image 20 = .ok (.ldc 139, 2) := by decide +kernel
theorem dX12_image_22 : decode cX12_image 22 = .ok (.ireturn, 1) := by decide +kernel
theorem dX12_image_23 : decode cX12_image 23 = .ok (.aload_n 0, 1) := by decide +kernel
theorem dX12_image_24 : decode cX12_image 24 = .ok (.iconst 0, 1) := by decide +kernel
theorem dX12_image_25 : decode cX12_image 25 = .ok (.sipush 1650, 3) := by decide +kernel
theorem dX12_image_28 : decode cX12_image 28 = .ok (.bipush 66, 2) := by decide +kernel
theorem dX12_image_30 : decode cX12_image 30 = .ok (.iload_n 1, 1) := by decide +kernel
theorem dX12_image_31 : decode cX12_image 31 = .ok (.imul, 1) := by decide +kernel
theorem dX12_image_32 : decode cX12_image 32 = .ok (.iadd, 1) := by decide +kernel
theorem dX12_image_33 : decode cX12_image 33 = .ok (.invokevirtual 128, 3) := by decide +kernel
theorem dX12_image_36 : decode cX12_image 36 = .ok (.aload_n 0, 1) := by decide +kernel
theorem dX12_image_37 : decode cX12_image 37 = .ok (.getfield 13, 3) := by decide +kernel
theorem dX12_image_40 : decode cX12_image 40 = .ok (.iload_n 1, 1) := by decide +kernel
theorem dX12_image_41 : decode cX12_image 41 = .ok (.iconst 1, 1) := by decide +kernel
theorem dX12_image_42 : decode cX12_image 42 = .ok (.bastore, 1) := by decide +kernel
theorem dX12_image_43 : decode cX12_image 43 = .ok (.iconst 1, 1) := by decide +kernel
theorem dX12_image_44 : decode cX12_image 44 = .ok (.ireturn, 1) := by decide +kernel
theorem dX12_restore_0 : decode cX12_restore 0 = .ok (.iload_n 1, 1) := by decide +kernel
theorem dX12_restore_1 : decode cX12_restore 1 = .ok (.i2l, 1) := by decide +kernel
theorem dX12_restore_2 : decode cX12_restore 2 = .ok (.lconst 0, 1) := by decide +kernel
theorem dX12_restore_3 : decode cX12_restore 3 = .ok (.lconst 1, 1) := by decide +kernel
theorem dX12_restore_4 : decode cX12_restore 4 = .ok (.invokestatic 42, 3) := by decide +kernel
theorem dX12_restore_7 : decode cX12_restore 7 = .ok (.ifCond .ne 6, 3) := by decide +kernel
theorem dX12_restore_10 : decode cX12_restore 10 = .ok (.ldc 52, 2) := by decide +kernel
theorem dX12_restore_12 : decode cX12_restore 12 = .ok (.ireturn, 1) := by decide +kernel
theorem dX12_restore_13 : decode cX12_restore 13 = .ok (.aload_n 0, 1) := by decide +kernel
theorem dX12_restore_14 : decode cX12_restore 14 = .ok (.getfield 13, 3) := by decide +kernel
theorem dX12_restore_17 : decode cX12_restore 17 = .ok (.iload_n 1, 1) := by decide +kernel
theorem dX12_restore_18 : decode cX12_restore 18 = .ok (.baload, 1) := by decide +kernel
theorem dX12_restore_19 : decode cX12_restore 19 = .ok (.ifCond .ne 6, 3) := by decide +kernel
theorem dX12_restore_22 : decode cX12_restore 22 = .ok (.ldc 139, 2) := by decide +kernel
theorem dX12_restore_24 : decode cX12_restore 24 = .ok (.ireturn, 1) := by decide +kernel
theorem dX12_restore_25 : decode cX12_restore 25 = .ok (.aload_n 0, 1) := by decide +kernel
theorem dX12_restore_26 : decode cX12_restore 26 = .ok (.sipush 1650, 3) := by decide +kernel
theorem dX12_restore_29 : decode cX12_restore 29 = .ok (.bipush 66, 2) := by decide +kernel
theorem dX12_restore_31 : decode cX12_restore 31 = .ok (.iload_n 1, 1) := by decide +kernel
theorem dX12_restore_32 : decode cX12_restore 32 = .ok (.imul, 1) := by decide +kernel
theorem dX12_restore_33 : decode cX12_restore 33 = .ok (.iadd, 1) := by decide +kernel
theorem dX12_restore_34 : decode cX12_restore 34 = .ok (.iconst 0, 1) := by decide +kernel
theorem dX12_restore_35 : decode cX12_restore 35 = .ok (.invokevirtual 128, 3) := by decide +kernel
theorem dX12_restore_38 : decode cX12_restore 38 = .ok (.aload_n 0, 1) := by decide +kernel
theorem dX12_restore_39 : decode cX12_restore 39 = .ok (.iconst 0, 1) := by decide +kernel
theorem dX12_restore_40 : decode cX12_restore 40 = .ok (.putfield 136, 3) := by decide +kernel
theorem dX12_restore_43 : decode cX12_restore 43 = .ok (.iconst 1, 1) := by decide +kernel
theorem dX12_restore_44 : decode cX12_restore 44 = .ok (.ireturn, 1) := by decide +kernel
theorem dX12_kind_0 : decode cX12_kind 0 = .ok (.aload_n 0, 1) := by decide +kernel
theorem dX12_kind_1 : decode cX12_kind 1 = .ok (.iload_n 1, 1) := by decide +kernel
theorem dX12_kind_2 : decode cX12_kind 2 = .ok (.invokevirtual 183, 3) := by decide +kernel
theorem dX12_kind_5 : decode cX12_kind 5 = .ok (.ifCond .eq 15, 3) := by decide +kernel
theorem dX12_kind_8 : decode cX12_kind 8 = .ok (.aload_n 0, 1) := by decide +kernel
theorem dX12_kind_9 : decode cX12_kind 9 = .ok (.getfield 7, 3) := by decide +kernel
theorem dX12_kind_12 : decode cX12_kind 12 = .ok (.bipush 22, 2) := by decide +kernel
theorem dX12_kind_14 : decode cX12_kind 14 = .ok (.iload_n 1, 1) := by decide +kernel
theorem dX12_kind_15 : decode cX12_kind 15 = .ok (.iadd, 1) := by decide +kernel
theorem dX12_kind_16 : decode cX12_kind 16 = .ok (.iaload, 1) := by decide +kernel
theorem dX12_kind_17 : decode cX12_kind 17 = .ok (.goto 5, 3) := by decide +kernel
theorem dX12_kind_20 : decode cX12_kind 20 = .ok (.ldc 52, 2) := by decide +kernel
theorem dX12_kind_22 : decode cX12_kind 22 = .ok (.ireturn, 1) := by decide +kernel
theorem dX12_isOf_0 : decode cX12_isOf 0 = .ok (.aload_n 0, 1) := by decide +kernel
theorem dX12_isOf_1 : decode cX12_isOf 1 = .ok (.getfield 7, 3) := by decide +kernel
theorem dX12_isOf_4 : decode cX12_isOf 4 = .ok (.bipush 22, 2) := by decide +kernel
theorem dX12_isOf_6 : decode cX12_isOf 6 = .ok (.iload_n 1, 1) := by decide +kernel
theorem dX12_isOf_7 : decode cX12_isOf 7 = .ok (.iadd, 1) := by decide +kernel
theorem dX12_isOf_8 : decode cX12_isOf 8 = .ok (.iaload, 1) := by decide +kernel
theorem dX12_isOf_9 : decode cX12_isOf 9 = .ok (.istore_n 3, 1) := by decide +kernel
theorem dX12_isOf_10 : decode cX12_isOf 10 = .ok (.iload_n 2, 1) := by decide +kernel
theorem dX12_isOf_11 : decode cX12_isOf 11 = .ok (.ifCond .eq 33, 3) := by decide +kernel
theorem dX12_isOf_14 : decode cX12_isOf 14 = .ok (.iload_n 2, 1) := by decide +kernel
theorem dX12_isOf_15 : decode cX12_isOf 15 = .ok (.iload_n 3, 1) := by decide +kernel
theorem dX12_isOf_16 : decode cX12_isOf 16 = .ok (.if_icmp .eq 28, 3) := by decide +kernel
theorem dX12_isOf_19 : decode cX12_isOf 19 = .ok (.iload_n 2, 1) := by decide +kernel
theorem dX12_isOf_20 : decode cX12_isOf 20 = .ok (.iconst 1, 1) := by decide +kernel
theorem dX12_isOf_21 : decode cX12_isOf 21 = .ok (.if_icmp .ne 13, 3) := by decide +kernel
theorem dX12_isOf_24 : decode cX12_isOf 24 = .ok (.iload_n 3, 1) := by decide +kernel
theorem dX12_isOf_25 : decode cX12_isOf 25 = .ok (.iconst 2, 1) := by decide +kernel
theorem dX12_isOf_26 : decode cX12_isOf 26 = .ok (.if_icmp .eq 18, 3) := by decide +kernel
theorem dX12_isOf_29 : decode cX12_isOf 29 = .ok (.iload_n 3, 1) := by decide +kernel
theorem dX12_isOf_30 : decode cX12_isOf 30 = .ok (.iconst 3, 1) := by decide +kernel
theorem dX12_isOf_31 : decode cX12_isOf 31 = .ok (.if_icmp .eq 13, 3) := by decide +kernel
theorem dX12_isOf_34 : decode cX12_isOf 34 = .ok (.iload_n 2, 1) := by decide +kernel
theorem dX12_isOf_35 : decode cX12_isOf 35 = .ok (.iconst 4, 1) := by decide +kernel
theorem dX12_isOf_36 : decode cX12_isOf 36 = .ok (.if_icmp .ne 12, 3) := by decide +kernel
theorem dX12_isOf_39 : decode cX12_isOf 39 = .ok (.iload_n 3, 1) := by decide +kernel
theorem dX12_isOf_40 : decode cX12_isOf 40 = .ok (.iconst 5, 1) := by decide +kernel
theorem dX12_isOf_41 : decode cX12_isOf 41 = .ok (.if_icmp .ne 7, 3) := by decide +kernel
theorem dX12_isOf_44 : decode cX12_isOf 44 = .ok (.iconst 1, 1) := by decide +kernel
theorem dX12_isOf_45 : decode cX12_isOf 45 = .ok (.goto 4, 3) := by decide +kernel
theorem dX12_isOf_48 : decode cX12_isOf 48 = .ok (.iconst 0, 1) := by decide +kernel
theorem dX12_isOf_49 : decode cX12_isOf 49 = .ok (.ireturn, 1) := by decide +kernel
theorem dX12_as_0 : decode cX12_as 0 = .ok (.aload_n 0, 1) := by decide +kernel
theorem dX12_as_1 : decode cX12_as 1 = .ok (.iload_n 1, 1) := by decide +kernel
theorem dX12_as_2 : decode cX12_as 2 = .ok (.invokevirtual 183, 3) := by decide +kernel
theorem dX12_as_5 : decode cX12_as 5 = .ok (.ifCond .eq 15, 3) := by decide +kernel
theorem dX12_as_8 : decode cX12_as 8 = .ok (.iload_n 2, 1) := by decide +kernel
theorem dX12_as_9 : decode cX12_as 9 = .ok (.i2l, 1) := by decide +kernel
theorem dX12_as_10 : decode cX12_as 10 = .ok (.lconst 0, 1) := by decide +kernel
theorem dX12_as_11 : decode cX12_as 11 = .ok (.ldc2_w 140, 3) := by decide +kernel
theorem dX12_as_14 : decode cX12_as 14 = .ok (.invokestatic 42, 3) := by decide +kernel
theorem dX12_as_17 : decode cX12_as 17 = .ok (.ifCond .ne 6, 3) := by decide +kernel
theorem dX12_as_20 : decode cX12_as 20 = .ok (.ldc 52, 2) := by decide +kernel
theorem dX12_as_22 : decode cX12_as 22 = .ok (.ireturn, 1) := by decide +kernel
theorem dX12_as_23 : decode cX12_as 23 = .ok (.aload_n 0, 1) := by decide +kernel
theorem dX12_as_24 : decode cX12_as 24 = .ok (.iload_n 1, 1) := by decide +kernel
theorem dX12_as_25 : decode cX12_as 25 = .ok (.iload_n 2, 1) := by decide +kernel
theorem dX12_as_26 : decode cX12_as 26 = .ok (.invokevirtual 247, 3) := by decide +kernel
theorem dX12_as_29 : decode cX12_as 29 = .ok (.ifCond .eq 11, 3) := by decide +kernel
theorem dX12_as_32 : decode cX12_as 32 = .ok (.aload_n 0, 1) := by decide +kernel
theorem dX12_as_33 : decode cX12_as 33 = .ok (.iload_n 1, 1) := by decide +kernel
theorem dX12_as_34 : decode cX12_as 34 = .ok (.invokevirtual 57, 3) := by decide +kernel
theorem dX12_as_37 : decode cX12_as 37 = .ok (.goto 8, 3) := by decide +kernel
theorem dX12_as_40 : decode cX12_as 40 = .ok (.aload_n 0, 1) := by decide +kernel
theorem dX12_as_41 : decode cX12_as 41 = .ok (.iconst 3, 1) := by decide +kernel
theorem dX12_as_42 : decode cX12_as 42 = .ok (.invokevirtual 53, 3) := by decide +kernel
theorem dX12_as_45 : decode cX12_as 45 = .ok (.ireturn, 1) := by decide +kernel
theorem dX12_begin_0 : decode cX12_begin 0 = .ok (.aload_n 0, 1) := by decide +kernel
theorem dX12_begin_1 : decode cX12_begin 1 = .ok (.getfield 250, 3) := by decide +kernel
theorem dX12_begin_4 : decode cX12_begin 4 = .ok (.bipush 16, 2) := by decide +kernel
theorem dX12_begin_6 : decode cX12_begin 6 = .ok (.if_icmp .ge 23, 3) := by decide +kernel
theorem dX12_begin_9 : decode cX12_begin 9 = .ok (.aload_n 0, 1) := by decide +kernel
theorem dX12_begin_10 : decode cX12_begin 10 = .ok (.getfield 29, 3) := by decide +kernel
theorem dX12_begin_13 : decode cX12_begin 13 = .ok (.aload_n 0, 1) := by decide +kernel
theorem dX12_begin_14 : decode cX12_begin 14 = .ok (.getfield 250, 3) := by decide +kernel
theorem dX12_begin_17 : decode cX12_begin 17 = .ok (.iload_n 1, 1) := by decide +kernel
theorem dX12_begin_18 : decode cX12_begin 18 = .ok (.iastore, 1) := by decide +kernel
theorem dX12_begin_19 : decode cX12_begin 19 = .ok (.aload_n 0, 1) := by decide +kernel
theorem dX12_begin_20 : decode cX12_begin 20 = .ok (.dup, 1) := by decide +kernel
theorem dX12_begin_21 : decode cX12_begin 21 = .ok (.getfield 250, 3) := by decide +kernel
theorem dX12_begin_24 : decode cX12_begin 24 = .ok (.iconst 1, 1) := by decide +kernel
theorem dX12_begin_25 : decode cX12_begin 25 = .ok (.iadd, 1) := by decide +kernel
theorem dX12_begin_26 : decode cX12_begin 26 = .ok (.putfield 250, 3) := by decide +kernel
theorem dX12_begin_29 : decode cX12_begin 29 = .ok (.return_, 1) := by decide +kernel
theorem dX12_lentSize_0 : decode cX12_lentSize 0 = .ok (.aload_n 0, 1) := by decide +kernel
theorem dX12_lentSize_1 : decode cX12_lentSize 1 = .ok (.bipush 10, 2) := by decide +kernel
theorem dX12_lentSize_3 : decode cX12_lentSize 3 = .ok (.invokevirtual 253, 3) := by decide +kernel
theorem dX12_lentSize_6 : decode cX12_lentSize 6 = .ok (.aload_n 0, 1) := by decide +kernel
theorem dX12_lentSize_7 : decode cX12_lentSize 7 = .ok (.getfield 7, 3) := by decide +kernel
theorem dX12_lentSize_10 : decode cX12_lentSize 10 = .ok (.bipush 26, 2) := by decide +kernel
theorem dX12_lentSize_12 : decode cX12_lentSize 12 = .ok (.iload_n 1, 1) := by decide +kernel
theorem dX12_lentSize_13 : decode cX12_lentSize 13 = .ok (.iadd, 1) := by decide +kernel
theorem dX12_lentSize_14 : decode cX12_lentSize 14 = .ok (.iaload, 1) := by decide +kernel
theorem dX12_lentSize_15 : decode cX12_lentSize 15 = .ok (.ireturn, 1) := by decide +kernel
theorem dX12_onesSize_0 : decode cX12_onesSize 0 = .ok (.aload_n 0, 1) := by decide +kernel
theorem dX12_onesSize_1 : decode cX12_onesSize 1 = .ok (.bipush 11, 2) := by decide +kernel
theorem dX12_onesSize_3 : decode cX12_onesSize 3 = .ok (.invokevirtual 253, 3) := by decide +kernel
theorem dX12_onesSize_6 : decode cX12_onesSize 6 = .ok (.aload_n 0, 1) := by decide +kernel
theorem dX12_onesSize_7 : decode cX12_onesSize 7 = .ok (.iload_n 1, 1) := by decide +kernel
theorem dX12_onesSize_8 : decode cX12_onesSize 8 = .ok (.invokevirtual 256, 3) := by decide +kernel
theorem dX12_onesSize_11 : decode cX12_onesSize 11 = .ok (.istore_n 2, 1) := by decide +kernel
theorem dX12_onesSize_12 : decode cX12_onesSize 12 = .ok (.iload_n 2, 1) := by decide +kernel
theorem dX12_onesSize_13 : decode cX12_onesSize 13 = .ok (.aload_n 0, 1) := by decide +kernel
theorem dX12_onesSize_14 : decode cX12_onesSize 14 = .ok (.iload_n 1, 1) := by decide +kernel
theorem dX12_onesSize_15 : decode cX12_onesSize 15 = .ok (.invokevirtual 259, 3) := by decide +kernel
theorem dX12_onesSize_18 : decode cX12_onesSize 18 = .ok (.iadd, 1) := by decide +kernel
theorem dX12_onesSize_19 : decode cX12_onesSize 19 = .ok (.ireturn, 1) := by decide +kernel
theorem dX12_lawsSize_0 : decode cX12_lawsSize 0 = .ok (.aload_n 0, 1) := by decide +kernel
theorem dX12_lawsSize_1 : decode cX12_lawsSize 1 = .ok (.bipush 13, 2) := by decide +kernel
theorem dX12_lawsSize_3 : decode cX12_lawsSize 3 = .ok (.invokevirtual 253, 3) := by decide +kernel
theorem dX12_lawsSize_6 : decode cX12_lawsSize 6 = .ok (.aload_n 0, 1) := by decide +kernel
theorem dX12_lawsSize_7 : decode cX12_lawsSize 7 = .ok (.iload_n 1, 1) := by decide +kernel
theorem dX12_lawsSize_8 : decode cX12_lawsSize 8 = .ok (.invokevirtual 256, 3) := by decide +kernel
theorem dX12_lawsSize_11 : decode cX12_lawsSize 11 = .ok (.bipush 100, 2) := by decide +kernel
theorem dX12_lawsSize_13 : decode cX12_lawsSize 13 = .ok (.isub, 1) := by decide +kernel
theorem dX12_lawsSize_14 : decode cX12_lawsSize 14 = .ok (.ireturn, 1) := by decide +kernel
theorem dX12_sizeOf_0 : decode cX12_sizeOf 0 = .ok (.aload_n 0, 1) := by decide +kernel
theorem dX12_sizeOf_1 : decode cX12_sizeOf 1 = .ok (.getfield 7, 3) := by decide +kernel
theorem dX12_sizeOf_4 : decode cX12_sizeOf 4 = .ok (.bipush 22, 2) := by decide +kernel
theorem dX12_sizeOf_6 : decode cX12_sizeOf 6 = .ok (.iload_n 1, 1) := by decide +kernel
theorem dX12_sizeOf_7 : decode cX12_sizeOf 7 = .ok (.iadd, 1) := by decide +kernel
theorem dX12_sizeOf_8 : decode cX12_sizeOf 8 = .ok (.iaload, 1) := by decide +kernel
theorem dX12_sizeOf_9 : decode cX12_sizeOf 9 = .ok (.tableswitch 64 2 5 #[31, 64, 44, 50], 31) := by decide +kernel
theorem dX12_sizeOf_40 : decode cX12_sizeOf 40 = .ok (.aload_n 0, 1) := by decide +kernel
theorem dX12_sizeOf_41 : decode cX12_sizeOf 41 = .ok (.bipush 12, 2) := by decide +kernel
theorem dX12_sizeOf_43 : decode cX12_sizeOf 43 = .ok (.invokevirtual 253, 3) := by decide +kernel
theorem dX12_sizeOf_46 : decode cX12_sizeOf 46 = .ok (.aload_n 0, 1) := by decide +kernel
theorem dX12_sizeOf_47 : decode cX12_sizeOf 47 = .ok (.iload_n 1, 1) := by decide +kernel
theorem dX12_sizeOf_48 : decode cX12_sizeOf 48 = .ok (.invokevirtual 262, 3) := by decide +kernel
theorem dX12_sizeOf_51 : decode cX12_sizeOf 51 = .ok (.ineg, 1) := by decide +kernel
theorem dX12_sizeOf_52 : decode cX12_sizeOf 52 = .ok (.ireturn, 1) := by decide +kernel
theorem dX12_sizeOf_53 : decode cX12_sizeOf 53 = .ok (.aload_n 0, 1) := by decide +kernel
theorem dX12_sizeOf_54 : decode cX12_sizeOf 54 = .ok (.iload_n 1, 1) := by decide +kernel
theorem dX12_sizeOf_55 : decode cX12_sizeOf 55 = .ok (.invokevirtual 265, 3) := by decide +kernel
theorem dX12_sizeOf_58 : decode cX12_sizeOf 58 = .ok (.ireturn, 1) := by decide +kernel
theorem dX12_sizeOf_59 : decode cX12_sizeOf 59 = .ok (.aload_n 0, 1) := by decide +kernel
theorem dX12_sizeOf_60 : decode cX12_sizeOf 60 = .ok (.bipush 14, 2) := by decide +kernel
theorem dX12_sizeOf_62 : decode cX12_sizeOf 62 = .ok (.invokevirtual 253, 3) := by decide +kernel
theorem dX12_sizeOf_65 : decode cX12_sizeOf 65 = .ok (.iconst 2, 1) := by decide +kernel
theorem dX12_sizeOf_66 : decode cX12_sizeOf 66 = .ok (.aload_n 0, 1) := by decide +kernel
theorem dX12_sizeOf_67 : decode cX12_sizeOf 67 = .ok (.iload_n 1, 1) := by decide +kernel
theorem dX12_sizeOf_68 : decode cX12_sizeOf 68 = .ok (.invokevirtual 265, 3) := by decide +kernel
theorem dX12_sizeOf_71 : decode cX12_sizeOf 71 = .ok (.imul, 1) := by decide +kernel
theorem dX12_sizeOf_72 : decode cX12_sizeOf 72 = .ok (.ireturn, 1) := by decide +kernel
theorem dX12_sizeOf_73 : decode cX12_sizeOf 73 = .ok (.aload_n 0, 1) := by decide +kernel
theorem dX12_sizeOf_74 : decode cX12_sizeOf 74 = .ok (.iload_n 1, 1) := by decide +kernel
theorem dX12_sizeOf_75 : decode cX12_sizeOf 75 = .ok (.invokevirtual 262, 3) := by decide +kernel
theorem dX12_sizeOf_78 : decode cX12_sizeOf 78 = .ok (.ireturn, 1) := by decide +kernel
theorem dX12_lentMark_0 : decode cX12_lentMark 0 = .ok (.aload_n 0, 1) := by decide +kernel
theorem dX12_lentMark_1 : decode cX12_lentMark 1 = .ok (.bipush 20, 2) := by decide +kernel
theorem dX12_lentMark_3 : decode cX12_lentMark 3 = .ok (.invokevirtual 253, 3) := by decide +kernel
theorem dX12_lentMark_6 : decode cX12_lentMark 6 = .ok (.iload_n 1, 1) := by decide +kernel
theorem dX12_lentMark_7 : decode cX12_lentMark 7 = .ok (.ireturn, 1) := by decide +kernel
theorem dX12_onesMark_0 : decode cX12_onesMark 0 = .ok (.aload_n 0, 1) := by decide +kernel
theorem dX12_onesMark_1 : decode cX12_onesMark 1 = .ok (.bipush 21, 2) := by decide +kernel
theorem dX12_onesMark_3 : decode cX12_onesMark 3 = .ok (.invokevirtual 253, 3) := by decide +kernel
theorem dX12_onesMark_6 : decode cX12_onesMark 6 = .ok (.aload_n 0, 1) := by decide +kernel
theorem dX12_onesMark_7 : decode cX12_onesMark 7 = .ok (.iload_n 1, 1) := by decide +kernel
theorem dX12_onesMark_8 : decode cX12_onesMark 8 = .ok (.invokevirtual 268, 3) := by decide +kernel
theorem dX12_onesMark_11 : decode cX12_onesMark 11 = .ok (.aload_n 0, 1) := by decide +kernel
theorem dX12_onesMark_12 : decode cX12_onesMark 12 = .ok (.getfield 7, 3) := by decide +kernel
theorem dX12_onesMark_15 : decode cX12_onesMark 15 = .ok (.iconst 4, 1) := by decide +kernel
theorem dX12_onesMark_16 : decode cX12_onesMark 16 = .ok (.iaload, 1) := by decide +kernel
theorem dX12_onesMark_17 : decode cX12_onesMark 17 = .ok (.iadd, 1) := by decide +kernel
theorem dX12_onesMark_18 : decode cX12_onesMark 18 = .ok (.ireturn, 1) := by decide +kernel
theorem dX12_mark_0 : decode cX12_mark 0 = .ok (.aload_n 0, 1) := by decide +kernel
theorem dX12_mark_1 : decode cX12_mark 1 = .ok (.getfield 7, 3) := by decide +kernel
theorem dX12_mark_4 : decode cX12_mark 4 = .ok (.bipush 22, 2) := by decide +kernel
theorem dX12_mark_6 : decode cX12_mark 6 = .ok (.iload_n 1, 1) := by decide +kernel
theorem dX12_mark_7 : decode cX12_mark 7 = .ok (.iadd, 1) := by decide +kernel
theorem dX12_mark_8 : decode cX12_mark 8 = .ok (.iaload, 1) := by decide +kernel
theorem dX12_mark_9 : decode cX12_mark 9 = .ok (.lookupswitch 57 #[(2, 43), (3, 27)], 27) := by decide +kernel
theorem dX12_mark_36 : decode cX12_mark 36 = .ok (.aload_n 0, 1) := by decide +kernel
theorem dX12_mark_37 : decode cX12_mark 37 = .ok (.bipush 22, 2) := by decide +kernel
theorem dX12_mark_39 : decode cX12_mark 39 = .ok (.invokevirtual 253, 3) := by decide +kernel
theorem dX12_mark_42 : decode cX12_mark 42 = .ok (.aload_n 0, 1) := by decide +kernel
theorem dX12_mark_43 : decode cX12_mark 43 = .ok (.iload_n 1, 1) := by decide +kernel
theorem dX12_mark_44 : decode cX12_mark 44 = .ok (.invokevirtual 271, 3) := by decide +kernel
theorem dX12_mark_47 : decode cX12_mark 47 = .ok (.sipush 1000, 3) := by decide +kernel
theorem dX12_mark_50 : decode cX12_mark 50 = .ok (.isub, 1) := by decide +kernel
theorem dX12_mark_51 : decode cX12_mark 51 = .ok (.ireturn, 1) := by decide +kernel
theorem dX12_mark_52 : decode cX12_mark 52 = .ok (.aload_n 0, 1) := by decide +kernel
theorem dX12_mark_53 : decode cX12_mark 53 = .ok (.bipush 24, 2) := by decide +kernel
theorem dX12_mark_55 : decode cX12_mark 55 = .ok (.invokevirtual 253, 3) := by decide +kernel
theorem dX12_mark_58 : decode cX12_mark 58 = .ok (.iconst 2, 1) := by decide +kernel
theorem dX12_mark_59 : decode cX12_mark 59 = .ok (.aload_n 0, 1) := by decide +kernel
theorem dX12_mark_60 : decode cX12_mark 60 = .ok (.iload_n 1, 1) := by decide +kernel
theorem dX12_mark_61 : decode cX12_mark 61 = .ok (.invokevirtual 271, 3) := by decide +kernel
theorem dX12_mark_64 : decode cX12_mark 64 = .ok (.imul, 1) := by decide +kernel
theorem dX12_mark_65 : decode cX12_mark 65 = .ok (.ireturn, 1) := by decide +kernel
theorem dX12_mark_66 : decode cX12_mark 66 = .ok (.aload_n 0, 1) := by decide +kernel
theorem dX12_mark_67 : decode cX12_mark 67 = .ok (.iload_n 1, 1) := by decide +kernel
theorem dX12_mark_68 : decode cX12_mark 68 = .ok (.invokevirtual 271, 3) := by decide +kernel
theorem dX12_mark_71 : decode cX12_mark 71 = .ok (.ireturn, 1) := by decide +kernel
theorem dX12_lawsMark_0 : decode cX12_lawsMark 0 = .ok (.aload_n 0, 1) := by decide +kernel
theorem dX12_lawsMark_1 : decode cX12_lawsMark 1 = .ok (.bipush 23, 2) := by decide +kernel
theorem dX12_lawsMark_3 : decode cX12_lawsMark 3 = .ok (.invokevirtual 253, 3) := by decide +kernel
theorem dX12_lawsMark_6 : decode cX12_lawsMark 6 = .ok (.aload_n 0, 1) := by decide +kernel
theorem dX12_lawsMark_7 : decode cX12_lawsMark 7 = .ok (.iload_n 1, 1) := by decide +kernel
theorem dX12_lawsMark_8 : decode cX12_lawsMark 8 = .ok (.invokevirtual 268, 3) := by decide +kernel
theorem dX12_lawsMark_11 : decode cX12_lawsMark 11 = .ok (.istore_n 2, 1) := by decide +kernel
theorem dX12_lawsMark_12 : decode cX12_lawsMark 12 = .ok (.iload_n 2, 1) := by decide +kernel
theorem dX12_lawsMark_13 : decode cX12_lawsMark 13 = .ok (.aload_n 0, 1) := by decide +kernel
theorem dX12_lawsMark_14 : decode cX12_lawsMark 14 = .ok (.iload_n 1, 1) := by decide +kernel
theorem dX12_lawsMark_15 : decode cX12_lawsMark 15 = .ok (.invokevirtual 274, 3) := by decide +kernel
theorem dX12_lawsMark_18 : decode cX12_lawsMark 18 = .ok (.isub, 1) := by decide +kernel
theorem dX12_lawsMark_19 : decode cX12_lawsMark 19 = .ok (.ireturn, 1) := by decide +kernel
theorem dX12_ask_0 : decode cX12_ask 0 = .ok (.aload_n 0, 1) := by decide +kernel
theorem dX12_ask_1 : decode cX12_ask 1 = .ok (.iload_n 1, 1) := by decide +kernel
theorem dX12_ask_2 : decode cX12_ask 2 = .ok (.invokevirtual 183, 3) := by decide +kernel
theorem dX12_ask_5 : decode cX12_ask 5 = .ok (.ifCond .eq 13, 3) := by decide +kernel
theorem dX12_ask_8 : decode cX12_ask 8 = .ok (.iload_n 2, 1) := by decide +kernel
theorem dX12_ask_9 : decode cX12_ask 9 = .ok (.i2l, 1) := by decide +kernel
theorem dX12_ask_10 : decode cX12_ask 10 = .ok (.lconst 0, 1) := by decide +kernel
theorem dX12_ask_11 : decode cX12_ask 11 = .ok (.lconst 1, 1) := by decide +kernel
theorem dX12_ask_12 : decode cX12_ask 12 = .ok (.invokestatic 42, 3) := by decide +kernel
theorem dX12_ask_15 : decode cX12_ask 15 = .ok (.ifCond .ne 6, 3) := by decide +kernel
theorem dX12_ask_18 : decode cX12_ask 18 = .ok (.ldc 52, 2) := by decide +kernel
theorem dX12_ask_20 : decode cX12_ask 20 = .ok (.ireturn, 1) := by decide +kernel
theorem dX12_ask_21 : decode cX12_ask 21 = .ok (.aload_n 0, 1) := by decide +kernel
theorem dX12_ask_22 : decode cX12_ask 22 = .ok (.iconst 0, 1) := by decide +kernel
theorem dX12_ask_23 : decode cX12_ask 23 = .ok (.putfield 250, 3) := by decide +kernel
theorem dX12_ask_26 : decode cX12_ask 26 = .ok (.iload_n 2, 1) := by decide +kernel
theorem dX12_ask_27 : decode cX12_ask 27 = .ok (.ifCond .ne 11, 3) := by decide +kernel
theorem dX12_ask_30 : decode cX12_ask 30 = .ok (.aload_n 0, 1) := by decide +kernel
theorem dX12_ask_31 : decode cX12_ask 31 = .ok (.iload_n 1, 1) := by decide +kernel
theorem dX12_ask_32 : decode cX12_ask 32 = .ok (.invokevirtual 274, 3) := by decide +kernel
theorem dX12_ask_35 : decode cX12_ask 35 = .ok (.goto 25, 3) := by decide +kernel
theorem dX12_ask_38 : decode cX12_ask 38 = .ok (.aload_n 0, 1) := by decide +kernel
theorem dX12_ask_39 : decode cX12_ask 39 = .ok (.iload_n 1, 1) := by decide +kernel
theorem dX12_ask_40 : decode cX12_ask 40 = .ok (.iconst 4, 1) := by decide +kernel
theorem dX12_ask_41 : decode cX12_ask 41 = .ok (.invokevirtual 247, 3) := by decide +kernel
theorem dX12_ask_44 : decode cX12_ask 44 = .ok (.ifCond .eq 11, 3) := by decide +kernel
theorem dX12_ask_47 : decode cX12_ask 47 = .ok (.aload_n 0, 1) := by decide +kernel
theorem dX12_ask_48 : decode cX12_ask 48 = .ok (.iload_n 1, 1) := by decide +kernel
theorem dX12_ask_49 : decode cX12_ask 49 = .ok (.invokevirtual 277, 3) := by decide +kernel
theorem dX12_ask_52 : decode cX12_ask 52 = .ok (.goto 8, 3) := by decide +kernel
theorem dX12_ask_55 : decode cX12_ask 55 = .ok (.aload_n 0, 1) := by decide +kernel
theorem dX12_ask_56 : decode cX12_ask 56 = .ok (.iload_n 1, 1) := by decide +kernel
theorem dX12_ask_57 : decode cX12_ask 57 = .ok (.invokevirtual 259, 3) := by decide +kernel
theorem dX12_ask_60 : decode cX12_ask 60 = .ok (.ireturn, 1) := by decide +kernel
theorem dX12_trace_0 : decode cX12_trace 0 = .ok (.iload_n 1, 1) := by decide +kernel
theorem dX12_trace_1 : decode cX12_trace 1 = .ok (.i2l, 1) := by decide +kernel
theorem dX12_trace_2 : decode cX12_trace 2 = .ok (.lconst 0, 1) := by decide +kernel
theorem dX12_trace_3 : decode cX12_trace 3 = .ok (.aload_n 0, 1) := by decide +kernel
theorem dX12_trace_4 : decode cX12_trace 4 = .ok (.getfield 250, 3) := by decide +kernel
theorem dX12_trace_7 : decode cX12_trace 7 = .ok (.iconst 1, 1) := by decide +kernel
theorem dX12_trace_8 : decode cX12_trace 8 = .ok (.isub, 1) := by decide +kernel
theorem dX12_trace_9 : decode cX12_trace 9 = .ok (.i2l, 1) := by decide +kernel
theorem dX12_trace_10 : decode cX12_trace 10 = .ok (.invokestatic 42, 3) := by decide +kernel
theorem dX12_trace_13 : decode cX12_trace 13 = .ok (.ifCond .eq 12, 3) := by decide +kernel
theorem dX12_trace_16 : decode cX12_trace 16 = .ok (.aload_n 0, 1) := by decide +kernel
theorem dX12_trace_17 : decode cX12_trace 17 = .ok (.getfield 29, 3) := by decide +kernel
theorem dX12_trace_20 : decode cX12_trace 20 = .ok (.iload_n 1, 1) := by decide +kernel
theorem dX12_trace_21 : decode cX12_trace 21 = .ok (.iaload, 1) := by decide +kernel
theorem dX12_trace_22 : decode cX12_trace 22 = .ok (.goto 5, 3) := by decide +kernel
theorem dX12_trace_25 : decode cX12_trace 25 = .ok (.ldc 99, 2) := by decide +kernel
theorem dX12_trace_27 : decode cX12_trace 27 = .ok (.ireturn, 1) := by decide +kernel
theorem dX12_count_0 : decode cX12_count 0 = .ok (.iconst 0, 1) := by decide +kernel
theorem dX12_count_1 : decode cX12_count 1 = .ok (.istore_n 2, 1) := by decide +kernel
theorem dX12_count_2 : decode cX12_count 2 = .ok (.iload_n 1, 1) := by decide +kernel
theorem dX12_count_3 : decode cX12_count 3 = .ok (.tableswitch 122 0 7 #[45, 78, 85, 92, 99, 106, 112, 117], 45) := by decide +kernel
theorem dX12_count_48 : decode cX12_count 48 = .ok (.iconst 0, 1) := by decide +kernel
theorem dX12_count_49 : decode cX12_count 49 = .ok (.istore_n 3, 1) := by decide +kernel
theorem dX12_count_50 : decode cX12_count 50 = .ok (.iload_n 3, 1) := by decide +kernel
theorem dX12_count_51 : decode cX12_count 51 = .ok (.bipush 8, 2) := by decide +kernel
theorem dX12_count_53 : decode cX12_count 53 = .ok (.if_icmp .ge 26, 3) := by decide +kernel
theorem dX12_count_56 : decode cX12_count 56 = .ok (.iload_n 2, 1) := by decide +kernel
theorem dX12_count_57 : decode cX12_count 57 = .ok (.aload_n 0, 1) := by decide +kernel
theorem dX12_count_58 : decode cX12_count 58 = .ok (.getfield 20, 3) := by decide +kernel
theorem dX12_count_61 : decode cX12_count 61 = .ok (.iload_n 3, 1) := by decide +kernel
theorem dX12_count_62 : decode cX12_count 62 = .ok (.iaload, 1) := by decide +kernel
theorem dX12_count_63 : decode cX12_count 63 = .ok (.ifCond .ge 7, 3) := by decide +kernel
theorem dX12_count_66 : decode cX12_count 66 = .ok (.iconst 0, 1) := by decide +kernel
theorem dX12_count_67 : decode cX12_count 67 = .ok (.goto 4, 3) := by decide +kernel
theorem dX12_count_70 : decode cX12_count 70 = .ok (.iconst 1, 1) := by decide +kernel
theorem dX12_count_71 : decode cX12_count 71 = .ok (.iadd, 1) := by decide +kernel
theorem dX12_count_72 : decode cX12_count 72 = .ok (.istore_n 2, 1) := by decide +kernel
theorem dX12_count_73 : decode cX12_count 73 = .ok (.iinc 3 1, 3) := by decide +kernel
theorem dX12_count_76 : decode cX12_count 76 = .ok (.goto (-26), 3) := by decide +kernel
theorem dX12_count_79 : decode cX12_count 79 = .ok (.iload_n 2, 1) := by decide +kernel
theorem dX12_count_80 : decode cX12_count 80 = .ok (.ireturn, 1) := by decide +kernel
theorem dX12_count_81 : decode cX12_count 81 = .ok (.aload_n 0, 1) := by decide +kernel
theorem dX12_count_82 : decode cX12_count 82 = .ok (.getfield 7, 3) := by decide +kernel
theorem dX12_count_85 : decode cX12_count 85 = .ok (.iconst 0, 1) := by decide +kernel
theorem dX12_count_86 : decode cX12_count 86 = .ok (.iaload, 1) := by decide +kernel
theorem dX12_count_87 : decode cX12_count 87 = .ok (.ireturn, 1) := by decide +kernel
theorem dX12_count_88 : decode cX12_count 88 = .ok (.aload_n 0, 1) := by decide +kernel
theorem dX12_count_89 : decode cX12_count 89 = .ok (.getfield 7, 3) := by decide +kernel
theorem dX12_count_92 : decode cX12_count 92 = .ok (.iconst 1, 1) := by decide +kernel
theorem dX12_count_93 : decode cX12_count 93 = .ok (.iaload, 1) := by decide +kernel
theorem dX12_count_94 : decode cX12_count 94 = .ok (.ireturn, 1) := by decide +kernel
theorem dX12_count_95 : decode cX12_count 95 = .ok (.aload_n 0, 1) := by decide +kernel
theorem dX12_count_96 : decode cX12_count 96 = .ok (.getfield 7, 3) := by decide +kernel
theorem dX12_count_99 : decode cX12_count 99 = .ok (.iconst 2, 1) := by decide +kernel
theorem dX12_count_100 : decode cX12_count 100 = .ok (.iaload, 1) := by decide +kernel
theorem dX12_count_101 : decode cX12_count 101 = .ok (.ireturn, 1) := by decide +kernel
theorem dX12_count_102 : decode cX12_count 102 = .ok (.aload_n 0, 1) := by decide +kernel
theorem dX12_count_103 : decode cX12_count 103 = .ok (.getfield 7, 3) := by decide +kernel
theorem dX12_count_106 : decode cX12_count 106 = .ok (.iconst 3, 1) := by decide +kernel
theorem dX12_count_107 : decode cX12_count 107 = .ok (.iaload, 1) := by decide +kernel
theorem dX12_count_108 : decode cX12_count 108 = .ok (.ireturn, 1) := by decide +kernel
theorem dX12_count_109 : decode cX12_count 109 = .ok (.aload_n 0, 1) := by decide +kernel
theorem dX12_count_110 : decode cX12_count 110 = .ok (.iconst 0, 1) := by decide +kernel
theorem dX12_count_111 : decode cX12_count 111 = .ok (.invokevirtual 244, 3) := by decide +kernel
theorem dX12_count_114 : decode cX12_count 114 = .ok (.ireturn, 1) := by decide +kernel
theorem dX12_count_115 : decode cX12_count 115 = .ok (.aload_n 0, 1) := by decide +kernel
theorem dX12_count_116 : decode cX12_count 116 = .ok (.getfield 136, 3) := by decide +kernel
theorem dX12_count_119 : decode cX12_count 119 = .ok (.ireturn, 1) := by decide +kernel
theorem dX12_count_120 : decode cX12_count 120 = .ok (.aload_n 0, 1) := by decide +kernel
theorem dX12_count_121 : decode cX12_count 121 = .ok (.getfield 70, 3) := by decide +kernel
theorem dX12_count_124 : decode cX12_count 124 = .ok (.ireturn, 1) := by decide +kernel
theorem dX12_count_125 : decode cX12_count 125 = .ok (.ldc 52, 2) := by decide +kernel
theorem dX12_count_127 : decode cX12_count 127 = .ok (.ireturn, 1) := by decide +kernel
theorem dX12_status_0 : decode cX12_status 0 = .ok (.aload_n 0, 1) := by decide +kernel
theorem dX12_status_1 : decode cX12_status 1 = .ok (.getfield 35, 3) := by decide +kernel
theorem dX12_status_4 : decode cX12_status 4 = .ok (.ireturn, 1) := by decide +kernel
