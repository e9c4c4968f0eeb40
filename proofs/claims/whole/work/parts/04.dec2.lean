theorem dX11_init_0 : decode cX11_init 0 = .ok (.aload_n 0, 1) := by decide +kernel
theorem dX11_init_1 : decode cX11_init 1 = .ok (.invokespecial 1, 3) := by decide +kernel
theorem dX11_init_4 : decode cX11_init 4 = .ok (.aload_n 0, 1) := by decide +kernel
theorem dX11_init_5 : decode cX11_init 5 = .ok (.new 7, 3) := by decide +kernel
theorem dX11_init_8 : decode cX11_init 8 = .ok (.dup, 1) := by decide +kernel
theorem dX11_init_9 : decode cX11_init 9 = .ok (.invokespecial 9, 3) := by decide +kernel
theorem dX11_init_12 : decode cX11_init 12 = .ok (.putfield 10, 3) := by decide +kernel
theorem dX11_init_15 : decode cX11_init 15 = .ok (.aload_n 0, 1) := by decide +kernel
theorem dX11_init_16 : decode cX11_init 16 = .ok (.new 16, 3) := by decide +kernel
theorem dX11_init_19 : decode cX11_init 19 = .ok (.dup, 1) := by decide +kernel
theorem dX11_init_20 : decode cX11_init 20 = .ok (.invokespecial 18, 3) := by decide +kernel
theorem dX11_init_23 : decode cX11_init 23 = .ok (.putfield 19, 3) := by decide +kernel
theorem dX11_init_26 : decode cX11_init 26 = .ok (.aload_n 0, 1) := by decide +kernel
theorem dX11_init_27 : decode cX11_init 27 = .ok (.new 23, 3) := by decide +kernel
theorem dX11_init_30 : decode cX11_init 30 = .ok (.dup, 1) := by decide +kernel
theorem dX11_init_31 : decode cX11_init 31 = .ok (.invokespecial 25, 3) := by decide +kernel
theorem dX11_init_34 : decode cX11_init 34 = .ok (.putfield 26, 3) := by decide +kernel
theorem dX11_init_37 : decode cX11_init 37 = .ok (.aload_n 0, 1) := by decide +kernel
theorem dX11_init_38 : decode cX11_init 38 = .ok (.new 30, 3) := by decide +kernel
theorem dX11_init_41 : decode cX11_init 41 = .ok (.dup, 1) := by decide +kernel
theorem dX11_init_42 : decode cX11_init 42 = .ok (.invokespecial 32, 3) := by decide +kernel
theorem dX11_init_45 : decode cX11_init 45 = .ok (.putfield 33, 3) := by decide +kernel
theorem dX11_init_48 : decode cX11_init 48 = .ok (.aload_n 0, 1) := by decide +kernel
theorem dX11_init_49 : decode cX11_init 49 = .ok (.new 37, 3) := by decide +kernel
theorem dX11_init_52 : decode cX11_init 52 = .ok (.dup, 1) := by decide +kernel
theorem dX11_init_53 : decode cX11_init 53 = .ok (.invokespecial 39, 3) := by decide +kernel
theorem dX11_init_56 : decode cX11_init 56 = .ok (.putfield 40, 3) := by decide +kernel
theorem dX11_init_59 : decode cX11_init 59 = .ok (.aload_n 0, 1) := by decide +kernel
theorem dX11_init_60 : decode cX11_init 60 = .ok (.bipush 24, 2) := by decide +kernel
theorem dX11_init_62 : decode cX11_init 62 = .ok (.anewarray 23, 3) := by decide +kernel
theorem dX11_init_65 : decode cX11_init 65 = .ok (.putfield 44, 3) := by decide +kernel
theorem dX11_init_68 : decode cX11_init 68 = .ok (.aload_n 0, 1) := by decide +kernel
theorem dX11_init_69 : decode cX11_init 69 = .ok (.iconst 2, 1) := by decide +kernel
theorem dX11_init_70 : decode cX11_init 70 = .ok (.anewarray 23, 3) := by decide +kernel
theorem dX11_init_73 : decode cX11_init 73 = .ok (.putfield 48, 3) := by decide +kernel
theorem dX11_init_76 : decode cX11_init 76 = .ok (.return_, 1) := by decide +kernel
theorem dX11_row_0 : decode cX11_row 0 = .ok (.iload_n 1, 1) := by decide +kernel
theorem dX11_row_1 : decode cX11_row 1 = .ok (.invokestatic 51, 3) := by decide +kernel
theorem dX11_row_4 : decode cX11_row 4 = .ok (.ifCond .eq 18, 3) := by decide +kernel
theorem dX11_row_7 : decode cX11_row 7 = .ok (.iload_n 2, 1) := by decide +kernel
theorem dX11_row_8 : decode cX11_row 8 = .ok (.iconst 0, 1) := by decide +kernel
theorem dX11_row_9 : decode cX11_row 9 = .ok (.iconst 2, 1) := by decide +kernel
theorem dX11_row_10 : decode cX11_row 10 = .ok (.invokestatic 55, 3) := by decide +kernel
theorem dX11_row_13 : decode cX11_row 13 = .ok (.ifCond .eq 9, 3) := by decide +kernel
theorem dX11_row_16 : decode cX11_row 16 = .ok (.iload_n 3, 1) := by decide +kernel
theorem dX11_row_17 : decode cX11_row 17 = .ok (.bipush 40, 2) := by decide +kernel
theorem dX11_row_19 : decode cX11_row 19 = .ok (.if_icmp .le 6, 3) := by decide +kernel
theorem dX11_row_22 : decode cX11_row 22 = .ok (.ldc 59, 2) := by decide +kernel
theorem dX11_row_24 : decode cX11_row 24 = .ok (.ireturn, 1) := by decide +kernel
theorem dX11_row_25 : decode cX11_row 25 = .ok (.iload_n 3, 1) := by decide +kernel
theorem dX11_row_26 : decode cX11_row 26 = .ok (.ifCond .ge 9, 3) := by decide +kernel
theorem dX11_row_29 : decode cX11_row 29 = .ok (.aload_n 0, 1) := by decide +kernel
theorem dX11_row_30 : decode cX11_row 30 = .ok (.iconst 4, 1) := by decide +kernel
theorem dX11_row_31 : decode cX11_row 31 = .ok (.invokevirtual 60, 3) := by decide +kernel
theorem dX11_row_34 : decode cX11_row 34 = .ok (.ireturn, 1) := by decide +kernel
theorem dX11_row_35 : decode cX11_row 35 = .ok (.aload_n 0, 1) := by decide +kernel
theorem dX11_row_36 : decode cX11_row 36 = .ok (.getfield 10, 3) := by decide +kernel
theorem dX11_row_39 : decode cX11_row 39 = .ok (.iload_n 1, 1) := by decide +kernel
theorem dX11_row_40 : decode cX11_row 40 = .ok (.iload_n 2, 1) := by decide +kernel
theorem dX11_row_41 : decode cX11_row 41 = .ok (.iload_n 3, 1) := by decide +kernel
theorem dX11_row_42 : decode cX11_row 42 = .ok (.invokevirtual 64, 3) := by decide +kernel
theorem dX11_row_45 : decode cX11_row 45 = .ok (.aload_n 0, 1) := by decide +kernel
theorem dX11_row_46 : decode cX11_row 46 = .ok (.iload_n 3, 1) := by decide +kernel
theorem dX11_row_47 : decode cX11_row 47 = .ok (.invokevirtual 68, 3) := by decide +kernel
theorem dX11_row_50 : decode cX11_row 50 = .ok (.ireturn, 1) := by decide +kernel
theorem dX11_set_0 : decode cX11_set 0 = .ok (.iload_n 1, 1) := by decide +kernel
theorem dX11_set_1 : decode cX11_set 1 = .ok (.invokestatic 51, 3) := by decide +kernel
theorem dX11_set_4 : decode cX11_set 4 = .ok (.ifCond .ne 6, 3) := by decide +kernel
theorem dX11_set_7 : decode cX11_set 7 = .ok (.ldc 59, 2) := by decide +kernel
theorem dX11_set_9 : decode cX11_set 9 = .ok (.ireturn, 1) := by decide +kernel
theorem dX11_set_10 : decode cX11_set 10 = .ok (.aload_n 0, 1) := by decide +kernel
theorem dX11_set_11 : decode cX11_set 11 = .ok (.getfield 10, 3) := by decide +kernel
theorem dX11_set_14 : decode cX11_set 14 = .ok (.iload_n 1, 1) := by decide +kernel
theorem dX11_set_15 : decode cX11_set 15 = .ok (.iload_n 2, 1) := by decide +kernel
theorem dX11_set_16 : decode cX11_set 16 = .ok (.iconst 1, 1) := by decide +kernel
theorem dX11_set_17 : decode cX11_set 17 = .ok (.invokevirtual 71, 3) := by decide +kernel
theorem dX11_set_20 : decode cX11_set 20 = .ok (.istore 4, 2) := by decide +kernel
theorem dX11_set_22 : decode cX11_set 22 = .ok (.iload 4, 2) := by decide +kernel
theorem dX11_set_24 : decode cX11_set 24 = .ok (.ifCond .eq 12, 3) := by decide +kernel
theorem dX11_set_27 : decode cX11_set 27 = .ok (.aload_n 0, 1) := by decide +kernel
theorem dX11_set_28 : decode cX11_set 28 = .ok (.iload 4, 2) := by decide +kernel
theorem dX11_set_30 : decode cX11_set 30 = .ok (.invokevirtual 60, 3) := by decide +kernel
theorem dX11_set_33 : decode cX11_set 33 = .ok (.goto 17, 3) := by decide +kernel
theorem dX11_set_36 : decode cX11_set 36 = .ok (.aload_n 0, 1) := by decide +kernel
theorem dX11_set_37 : decode cX11_set 37 = .ok (.aload_n 0, 1) := by decide +kernel
theorem dX11_set_38 : decode cX11_set 38 = .ok (.getfield 10, 3) := by decide +kernel
theorem dX11_set_41 : decode cX11_set 41 = .ok (.iload_n 1, 1) := by decide +kernel
theorem dX11_set_42 : decode cX11_set 42 = .ok (.iload_n 2, 1) := by decide +kernel
theorem dX11_set_43 : decode cX11_set 43 = .ok (.iload_n 3, 1) := by decide +kernel
theorem dX11_set_44 : decode cX11_set 44 = .ok (.invokevirtual 75, 3) := by decide +kernel
theorem dX11_set_47 : decode cX11_set 47 = .ok (.invokevirtual 68, 3) := by decide +kernel
theorem dX11_set_50 : decode cX11_set 50 = .ok (.ireturn, 1) := by decide +kernel
theorem dX11_copy_0 : decode cX11_copy 0 = .ok (.iload_n 1, 1) := by decide +kernel
theorem dX11_copy_1 : decode cX11_copy 1 = .ok (.invokestatic 51, 3) := by decide +kernel
theorem dX11_copy_4 : decode cX11_copy 4 = .ok (.ifCond .eq 10, 3) := by decide +kernel
theorem dX11_copy_7 : decode cX11_copy 7 = .ok (.iload_n 3, 1) := by decide +kernel
theorem dX11_copy_8 : decode cX11_copy 8 = .ok (.invokestatic 51, 3) := by decide +kernel
theorem dX11_copy_11 : decode cX11_copy 11 = .ok (.ifCond .ne 6, 3) := by decide +kernel
theorem dX11_copy_14 : decode cX11_copy 14 = .ok (.ldc 59, 2) := by decide +kernel
theorem dX11_copy_16 : decode cX11_copy 16 = .ok (.ireturn, 1) := by decide +kernel
theorem dX11_copy_17 : decode cX11_copy 17 = .ok (.aload_n 0, 1) := by decide +kernel
theorem dX11_copy_18 : decode cX11_copy 18 = .ok (.getfield 10, 3) := by decide +kernel
theorem dX11_copy_21 : decode cX11_copy 21 = .ok (.iload_n 1, 1) := by decide +kernel
theorem dX11_copy_22 : decode cX11_copy 22 = .ok (.invokevirtual 78, 3) := by decide +kernel
theorem dX11_copy_25 : decode cX11_copy 25 = .ok (.ifCond .ne 14, 3) := by decide +kernel
theorem dX11_copy_28 : decode cX11_copy 28 = .ok (.aload_n 0, 1) := by decide +kernel
theorem dX11_copy_29 : decode cX11_copy 29 = .ok (.getfield 10, 3) := by decide +kernel
theorem dX11_copy_32 : decode cX11_copy 32 = .ok (.iload_n 3, 1) := by decide +kernel
theorem dX11_copy_33 : decode cX11_copy 33 = .ok (.invokevirtual 78, 3) := by decide +kernel
theorem dX11_copy_36 : decode cX11_copy 36 = .ok (.ifCond .eq 9, 3) := by decide +kernel
theorem dX11_copy_39 : decode cX11_copy 39 = .ok (.aload_n 0, 1) := by decide +kernel
theorem dX11_copy_40 : decode cX11_copy 40 = .ok (.iconst 1, 1) := by decide +kernel
theorem dX11_copy_41 : decode cX11_copy 41 = .ok (.invokevirtual 60, 3) := by decide +kernel
theorem dX11_copy_44 : decode cX11_copy 44 = .ok (.ireturn, 1) := by decide +kernel
theorem dX11_copy_45 : decode cX11_copy 45 = .ok (.aload_n 0, 1) := by decide +kernel
theorem dX11_copy_46 : decode cX11_copy 46 = .ok (.getfield 10, 3) := by decide +kernel
theorem dX11_copy_49 : decode cX11_copy 49 = .ok (.iload_n 1, 1) := by decide +kernel
theorem dX11_copy_50 : decode cX11_copy 50 = .ok (.invokevirtual 81, 3) := by decide +kernel
theorem dX11_copy_53 : decode cX11_copy 53 = .ok (.aload_n 0, 1) := by decide +kernel
theorem dX11_copy_54 : decode cX11_copy 54 = .ok (.getfield 10, 3) := by decide +kernel
theorem dX11_copy_57 : decode cX11_copy 57 = .ok (.iload_n 3, 1) := by decide +kernel
theorem dX11_copy_58 : decode cX11_copy 58 = .ok (.invokevirtual 81, 3) := by decide +kernel
theorem dX11_copy_61 : decode cX11_copy 61 = .ok (.if_icmp .eq 9, 3) := by decide +kernel
theorem dX11_copy_64 : decode cX11_copy 64 = .ok (.aload_n 0, 1) := by decide +kernel
theorem dX11_copy_65 : decode cX11_copy 65 = .ok (.iconst 5, 1) := by decide +kernel
theorem dX11_copy_66 : decode cX11_copy 66 = .ok (.invokevirtual 60, 3) := by decide +kernel
theorem dX11_copy_69 : decode cX11_copy 69 = .ok (.ireturn, 1) := by decide +kernel
theorem dX11_copy_70 : decode cX11_copy 70 = .ok (.aload_n 0, 1) := by decide +kernel
theorem dX11_copy_71 : decode cX11_copy 71 = .ok (.getfield 10, 3) := by decide +kernel
theorem dX11_copy_74 : decode cX11_copy 74 = .ok (.iload_n 1, 1) := by decide +kernel
theorem dX11_copy_75 : decode cX11_copy 75 = .ok (.iload_n 2, 1) := by decide +kernel
theorem dX11_copy_76 : decode cX11_copy 76 = .ok (.iload 5, 2) := by decide +kernel
theorem dX11_copy_78 : decode cX11_copy 78 = .ok (.invokevirtual 71, 3) := by decide +kernel
theorem dX11_copy_81 : decode cX11_copy 81 = .ok (.ifCond .ne 18, 3) := by decide +kernel
theorem dX11_copy_84 : decode cX11_copy 84 = .ok (.aload_n 0, 1) := by decide +kernel
theorem dX11_copy_85 : decode cX11_copy 85 = .ok (.getfield 10, 3) := by decide +kernel
theorem dX11_copy_88 : decode cX11_copy 88 = .ok (.iload_n 3, 1) := by decide +kernel
theorem dX11_copy_89 : decode cX11_copy 89 = .ok (.iload 4, 2) := by decide +kernel
theorem dX11_copy_91 : decode cX11_copy 91 = .ok (.iload 5, 2) := by decide +kernel
theorem dX11_copy_93 : decode cX11_copy 93 = .ok (.invokevirtual 71, 3) := by decide +kernel
theorem dX11_copy_96 : decode cX11_copy 96 = .ok (.ifCond .eq 9, 3) := by decide +kernel
theorem dX11_copy_99 : decode cX11_copy 99 = .ok (.aload_n 0, 1) := by decide +kernel
theorem dX11_copy_100 : decode cX11_copy 100 = .ok (.iconst 2, 1) := by decide +kernel
theorem dX11_copy_101 : decode cX11_copy 101 = .ok (.invokevirtual 60, 3) := by decide +kernel
theorem dX11_copy_104 : decode cX11_copy 104 = .ok (.ireturn, 1) := by decide +kernel
theorem dX11_copy_105 : decode cX11_copy 105 = .ok (.aload_n 0, 1) := by decide +kernel
theorem dX11_copy_106 : decode cX11_copy 106 = .ok (.getfield 10, 3) := by decide +kernel
theorem dX11_copy_109 : decode cX11_copy 109 = .ok (.iload_n 1, 1) := by decide +kernel
theorem dX11_copy_110 : decode cX11_copy 110 = .ok (.iload_n 2, 1) := by decide +kernel
theorem dX11_copy_111 : decode cX11_copy 111 = .ok (.iload_n 3, 1) := by decide +kernel
theorem dX11_copy_112 : decode cX11_copy 112 = .ok (.iload 4, 2) := by decide +kernel
theorem dX11_copy_114 : decode cX11_copy 114 = .ok (.iload 5, 2) := by decide +kernel
theorem dX11_copy_116 : decode cX11_copy 116 = .ok (.invokevirtual 84, 3) := by decide +kernel
theorem dX11_copy_119 : decode cX11_copy 119 = .ok (.aload_n 0, 1) := by decide +kernel
theorem dX11_copy_120 : decode cX11_copy 120 = .ok (.iload 5, 2) := by decide +kernel
theorem dX11_copy_122 : decode cX11_copy 122 = .ok (.invokevirtual 68, 3) := by decide +kernel
theorem dX11_copy_125 : decode cX11_copy 125 = .ok (.ireturn, 1) := by decide +kernel
theorem dX11_drop_0 : decode cX11_drop 0 = .ok (.iload_n 1, 1) := by decide +kernel
theorem dX11_drop_1 : decode cX11_drop 1 = .ok (.invokestatic 51, 3) := by decide +kernel
theorem dX11_drop_4 : decode cX11_drop 4 = .ok (.ifCond .ne 6, 3) := by decide +kernel
theorem dX11_drop_7 : decode cX11_drop 7 = .ok (.ldc 59, 2) := by decide +kernel
theorem dX11_drop_9 : decode cX11_drop 9 = .ok (.ireturn, 1) := by decide +kernel
theorem dX11_drop_10 : decode cX11_drop 10 = .ok (.aload_n 0, 1) := by decide +kernel
theorem dX11_drop_11 : decode cX11_drop 11 = .ok (.getfield 10, 3) := by decide +kernel
theorem dX11_drop_14 : decode cX11_drop 14 = .ok (.iload_n 1, 1) := by decide +kernel
theorem dX11_drop_15 : decode cX11_drop 15 = .ok (.invokevirtual 78, 3) := by decide +kernel
theorem dX11_drop_18 : decode cX11_drop 18 = .ok (.ifCond .eq 11, 3) := by decide +kernel
theorem dX11_drop_21 : decode cX11_drop 21 = .ok (.aload_n 0, 1) := by decide +kernel
theorem dX11_drop_22 : decode cX11_drop 22 = .ok (.iconst 1, 1) := by decide +kernel
theorem dX11_drop_23 : decode cX11_drop 23 = .ok (.invokevirtual 60, 3) := by decide +kernel
theorem dX11_drop_26 : decode cX11_drop 26 = .ok (.goto 15, 3) := by decide +kernel
theorem dX11_drop_29 : decode cX11_drop 29 = .ok (.aload_n 0, 1) := by decide +kernel
theorem dX11_drop_30 : decode cX11_drop 30 = .ok (.aload_n 0, 1) := by decide +kernel
theorem dX11_drop_31 : decode cX11_drop 31 = .ok (.getfield 10, 3) := by decide +kernel
theorem dX11_drop_34 : decode cX11_drop 34 = .ok (.iload_n 1, 1) := by decide +kernel
theorem dX11_drop_35 : decode cX11_drop 35 = .ok (.invokevirtual 88, 3) := by decide +kernel
theorem dX11_drop_38 : decode cX11_drop 38 = .ok (.invokevirtual 68, 3) := by decide +kernel
theorem dX11_drop_41 : decode cX11_drop 41 = .ok (.ireturn, 1) := by decide +kernel
theorem dX11_feed_0 : decode cX11_feed 0 = .ok (.iload_n 1, 1) := by decide +kernel
theorem dX11_feed_1 : decode cX11_feed 1 = .ok (.iconst 0, 1) := by decide +kernel
theorem dX11_feed_2 : decode cX11_feed 2 = .ok (.sipush 255, 3) := by decide +kernel
theorem dX11_feed_5 : decode cX11_feed 5 = .ok (.invokestatic 55, 3) := by decide +kernel
theorem dX11_feed_8 : decode cX11_feed 8 = .ok (.ifCond .ne 6, 3) := by decide +kernel
theorem dX11_feed_11 : decode cX11_feed 11 = .ok (.ldc 59, 2) := by decide +kernel
theorem dX11_feed_13 : decode cX11_feed 13 = .ok (.ireturn, 1) := by decide +kernel
theorem dX11_feed_14 : decode cX11_feed 14 = .ok (.aload_n 0, 1) := by decide +kernel
theorem dX11_feed_15 : decode cX11_feed 15 = .ok (.getfield 19, 3) := by decide +kernel
theorem dX11_feed_18 : decode cX11_feed 18 = .ok (.iload_n 1, 1) := by decide +kernel
theorem dX11_feed_19 : decode cX11_feed 19 = .ok (.invokevirtual 91, 3) := by decide +kernel
theorem dX11_feed_22 : decode cX11_feed 22 = .ok (.ifCond .eq 13, 3) := by decide +kernel
theorem dX11_feed_25 : decode cX11_feed 25 = .ok (.aload_n 0, 1) := by decide +kernel
theorem dX11_feed_26 : decode cX11_feed 26 = .ok (.getfield 19, 3) := by decide +kernel
theorem dX11_feed_29 : decode cX11_feed 29 = .ok (.getfield 94, 3) := by decide +kernel
theorem dX11_feed_32 : decode cX11_feed 32 = .ok (.goto 5, 3) := by decide +kernel
theorem dX11_feed_35 : decode cX11_feed 35 = .ok (.ldc 98, 2) := by decide +kernel
theorem dX11_feed_37 : decode cX11_feed 37 = .ok (.ireturn, 1) := by decide +kernel
theorem dX11_kitchen_0 : decode cX11_kitchen 0 = .ok (.aload_n 0, 1) := by decide +kernel
theorem dX11_kitchen_1 : decode cX11_kitchen 1 = .ok (.getfield 19, 3) := by decide +kernel
theorem dX11_kitchen_4 : decode cX11_kitchen 4 = .ok (.invokevirtual 99, 3) := by decide +kernel
theorem dX11_kitchen_7 : decode cX11_kitchen 7 = .ok (.istore_n 1, 1) := by decide +kernel
theorem dX11_kitchen_8 : decode cX11_kitchen 8 = .ok (.aload_n 0, 1) := by decide +kernel
theorem dX11_kitchen_9 : decode cX11_kitchen 9 = .ok (.getfield 19, 3) := by decide +kernel
theorem dX11_kitchen_12 : decode cX11_kitchen 12 = .ok (.iconst 0, 1) := by decide +kernel
theorem dX11_kitchen_13 : decode cX11_kitchen 13 = .ok (.putfield 94, 3) := by decide +kernel
theorem dX11_kitchen_16 : decode cX11_kitchen 16 = .ok (.iload_n 1, 1) := by decide +kernel
theorem dX11_kitchen_17 : decode cX11_kitchen 17 = .ok (.ifCond .ne 25, 3) := by decide +kernel
theorem dX11_kitchen_20 : decode cX11_kitchen 20 = .ok (.aload_n 0, 1) := by decide +kernel
theorem dX11_kitchen_21 : decode cX11_kitchen 21 = .ok (.aload_n 0, 1) := by decide +kernel
theorem dX11_kitchen_22 : decode cX11_kitchen 22 = .ok (.getfield 19, 3) := by decide +kernel
theorem dX11_kitchen_25 : decode cX11_kitchen 25 = .ok (.getfield 103, 3) := by decide +kernel
theorem dX11_kitchen_28 : decode cX11_kitchen 28 = .ok (.putfield 106, 3) := by decide +kernel
theorem dX11_kitchen_31 : decode cX11_kitchen 31 = .ok (.ldc 109, 2) := by decide +kernel
theorem dX11_kitchen_33 : decode cX11_kitchen 33 = .ok (.aload_n 0, 1) := by decide +kernel
theorem dX11_kitchen_34 : decode cX11_kitchen 34 = .ok (.getfield 19, 3) := by decide +kernel
theorem dX11_kitchen_37 : decode cX11_kitchen 37 = .ok (.getfield 110, 3) := by decide +kernel
theorem dX11_kitchen_40 : decode cX11_kitchen 40 = .ok (.isub, 1) := by decide +kernel
theorem dX11_kitchen_41 : decode cX11_kitchen 41 = .ok (.ireturn, 1) := by decide +kernel
theorem dX11_kitchen_42 : decode cX11_kitchen 42 = .ok (.aload_n 0, 1) := by decide +kernel
theorem dX11_kitchen_43 : decode cX11_kitchen 43 = .ok (.getfield 26, 3) := by decide +kernel
theorem dX11_kitchen_46 : decode cX11_kitchen 46 = .ok (.aload_n 0, 1) := by decide +kernel
theorem dX11_kitchen_47 : decode cX11_kitchen 47 = .ok (.getfield 19, 3) := by decide +kernel
theorem dX11_kitchen_50 : decode cX11_kitchen 50 = .ok (.getfield 113, 3) := by decide +kernel
theorem dX11_kitchen_53 : decode cX11_kitchen 53 = .ok (.invokevirtual 116, 3) := by decide +kernel
theorem dX11_kitchen_56 : decode cX11_kitchen 56 = .ok (.aload_n 0, 1) := by decide +kernel
theorem dX11_kitchen_57 : decode cX11_kitchen 57 = .ok (.invokevirtual 120, 3) := by decide +kernel
theorem dX11_kitchen_60 : decode cX11_kitchen 60 = .ok (.aload_n 0, 1) := by decide +kernel
theorem dX11_kitchen_61 : decode cX11_kitchen 61 = .ok (.getfield 26, 3) := by decide +kernel
theorem dX11_kitchen_64 : decode cX11_kitchen 64 = .ok (.getfield 123, 3) := by decide +kernel
theorem dX11_kitchen_67 : decode cX11_kitchen 67 = .ok (.ireturn, 1) := by decide +kernel
theorem dX11_fault_0 : decode cX11_fault 0 = .ok (.aload_n 0, 1) := by decide +kernel
theorem dX11_fault_1 : decode cX11_fault 1 = .ok (.getfield 106, 3) := by decide +kernel
theorem dX11_fault_4 : decode cX11_fault 4 = .ok (.ireturn, 1) := by decide +kernel
theorem dX11_undo_0 : decode cX11_undo 0 = .ok (.aload_n 0, 1) := by decide +kernel
theorem dX11_undo_1 : decode cX11_undo 1 = .ok (.getfield 126, 3) := by decide +kernel
theorem dX11_undo_4 : decode cX11_undo 4 = .ok (.ifCond .ne 6, 3) := by decide +kernel
theorem dX11_undo_7 : decode cX11_undo 7 = .ok (.ldc 129, 2) := by decide +kernel
theorem dX11_undo_9 : decode cX11_undo 9 = .ok (.ireturn, 1) := by decide +kernel
theorem dX11_undo_10 : decode cX11_undo 10 = .ok (.aload_n 0, 1) := by decide +kernel
theorem dX11_undo_11 : decode cX11_undo 11 = .ok (.dup, 1) := by decide +kernel
theorem dX11_undo_12 : decode cX11_undo 12 = .ok (.getfield 126, 3) := by decide +kernel
theorem dX11_undo_15 : decode cX11_undo 15 = .ok (.iconst 1, 1) := by decide +kernel
theorem dX11_undo_16 : decode cX11_undo 16 = .ok (.isub, 1) := by decide +kernel
theorem dX11_undo_17 : decode cX11_undo 17 = .ok (.putfield 126, 3) := by decide +kernel
theorem dX11_undo_20 : decode cX11_undo 20 = .ok (.aload_n 0, 1) := by decide +kernel
theorem dX11_undo_21 : decode cX11_undo 21 = .ok (.getfield 44, 3) := by decide +kernel
theorem dX11_undo_24 : decode cX11_undo 24 = .ok (.aload_n 0, 1) := by decide +kernel
theorem dX11_undo_25 : decode cX11_undo 25 = .ok (.getfield 130, 3) := by decide +kernel
theorem dX11_undo_28 : decode cX11_undo 28 = .ok (.aload_n 0, 1) := by decide +kernel
theorem dX11_undo_29 : decode cX11_undo 29 = .ok (.getfield 126, 3) := by decide +kernel
theorem dX11_undo_32 : decode cX11_undo 32 = .ok (.iadd, 1) := by decide +kernel
theorem dX11_undo_33 : decode cX11_undo 33 = .ok (.bipush 24, 2) := by decide +kernel
theorem dX11_undo_35 : decode cX11_undo 35 = .ok (.invokestatic 133, 3) := by decide +kernel
theorem dX11_undo_38 : decode cX11_undo 38 = .ok (.aaload, 1) := by decide +kernel
theorem dX11_undo_39 : decode cX11_undo 39 = .ok (.astore_n 1, 1) := by decide +kernel
theorem dX11_undo_40 : decode cX11_undo 40 = .ok (.aload_n 1, 1) := by decide +kernel
theorem dX11_undo_41 : decode cX11_undo 41 = .ok (.ifnull 11, 3) := by decide +kernel
theorem dX11_undo_44 : decode cX11_undo 44 = .ok (.aload_n 0, 1) := by decide +kernel
theorem dX11_undo_45 : decode cX11_undo 45 = .ok (.getfield 26, 3) := by decide +kernel
theorem dX11_undo_48 : decode cX11_undo 48 = .ok (.aload_n 1, 1) := by decide +kernel
theorem dX11_undo_49 : decode cX11_undo 49 = .ok (.invokevirtual 116, 3) := by decide +kernel
theorem dX11_undo_52 : decode cX11_undo 52 = .ok (.aload_n 0, 1) := by decide +kernel
theorem dX11_undo_53 : decode cX11_undo 53 = .ok (.getfield 126, 3) := by decide +kernel
theorem dX11_undo_56 : decode cX11_undo 56 = .ok (.ireturn, 1) := by decide +kernel
theorem dX11_weeks_0 : decode cX11_weeks 0 = .ok (.aload_n 0, 1) := by decide +kernel
theorem dX11_weeks_1 : decode cX11_weeks 1 = .ok (.getfield 26, 3) := by decide +kernel
theorem dX11_weeks_4 : decode cX11_weeks 4 = .ok (.invokevirtual 137, 3) := by decide +kernel
theorem dX11_weeks_7 : decode cX11_weeks 7 = .ok (.ifCond .ne 6, 3) := by decide +kernel
theorem dX11_weeks_10 : decode cX11_weeks 10 = .ok (.ldc 129, 2) := by decide +kernel
theorem dX11_weeks_12 : decode cX11_weeks 12 = .ok (.ireturn, 1) := by decide +kernel
theorem dX11_weeks_13 : decode cX11_weeks 13 = .ok (.iload_n 1, 1) := by decide +kernel
theorem dX11_weeks_14 : decode cX11_weeks 14 = .ok (.iconst 1, 1) := by decide +kernel
theorem dX11_weeks_15 : decode cX11_weeks 15 = .ok (.bipush 24, 2) := by decide +kernel
theorem dX11_weeks_17 : decode cX11_weeks 17 = .ok (.invokestatic 55, 3) := by decide +kernel
theorem dX11_weeks_20 : decode cX11_weeks 20 = .ok (.ifCond .ne 6, 3) := by decide +kernel
theorem dX11_weeks_23 : decode cX11_weeks 23 = .ok (.ldc 59, 2) := by decide +kernel
theorem dX11_weeks_25 : decode cX11_weeks 25 = .ok (.ireturn, 1) := by decide +kernel
theorem dX11_weeks_26 : decode cX11_weeks 26 = .ok (.aload_n 0, 1) := by decide +kernel
theorem dX11_weeks_27 : decode cX11_weeks 27 = .ok (.getfield 26, 3) := by decide +kernel
theorem dX11_weeks_30 : decode cX11_weeks 30 = .ok (.getfield 140, 3) := by decide +kernel
theorem dX11_weeks_33 : decode cX11_weeks 33 = .ok (.iload_n 1, 1) := by decide +kernel
theorem dX11_weeks_34 : decode cX11_weeks 34 = .ok (.iadd, 1) := by decide +kernel
theorem dX11_weeks_35 : decode cX11_weeks 35 = .ok (.sipush 999, 3) := by decide +kernel
theorem dX11_weeks_38 : decode cX11_weeks 38 = .ok (.if_icmp .le 6, 3) := by decide +kernel
theorem dX11_weeks_41 : decode cX11_weeks 41 = .ok (.ldc 98, 2) := by decide +kernel
theorem dX11_weeks_43 : decode cX11_weeks 43 = .ok (.ireturn, 1) := by decide +kernel
theorem dX11_weeks_44 : decode cX11_weeks 44 = .ok (.iconst 0, 1) := by decide +kernel
theorem dX11_weeks_45 : decode cX11_weeks 45 = .ok (.istore_n 2, 1) := by decide +kernel
theorem dX11_weeks_46 : decode cX11_weeks 46 = .ok (.iload_n 2, 1) := by decide +kernel
theorem dX11_weeks_47 : decode cX11_weeks 47 = .ok (.iload_n 1, 1) := by decide +kernel
theorem dX11_weeks_48 : decode cX11_weeks 48 = .ok (.if_icmp .ge 20, 3) := by decide +kernel
theorem dX11_weeks_51 : decode cX11_weeks 51 = .ok (.aload_n 0, 1) := by decide +kernel
theorem dX11_weeks_52 : decode cX11_weeks 52 = .ok (.invokevirtual 143, 3) := by decide +kernel
theorem dX11_weeks_55 : decode cX11_weeks 55 = .ok (.aload_n 0, 1) := by decide +kernel
theorem dX11_weeks_56 : decode cX11_weeks 56 = .ok (.getfield 26, 3) := by decide +kernel
theorem dX11_weeks_59 : decode cX11_weeks 59 = .ok (.invokevirtual 146, 3) := by decide +kernel
theorem dX11_weeks_62 : decode cX11_weeks 62 = .ok (.iinc 2 1, 3) := by decide +kernel
theorem dX11_weeks_65 : decode cX11_weeks 65 = .ok (.goto (-19), 3) := by decide +kernel
theorem dX11_weeks_68 : decode cX11_weeks 68 = .ok (.aload_n 0, 1) := by decide +kernel
theorem dX11_weeks_69 : decode cX11_weeks 69 = .ok (.getfield 26, 3) := by decide +kernel
theorem dX11_weeks_72 : decode cX11_weeks 72 = .ok (.getfield 149, 3) := by decide +kernel
theorem dX11_weeks_75 : decode cX11_weeks 75 = .ok (.ireturn, 1) := by decide +kernel
theorem dX11_leave_0 : decode cX11_leave 0 = .ok (.aload_n 0, 1) := by decide +kernel
theorem dX11_leave_1 : decode cX11_leave 1 = .ok (.getfield 26, 3) := by decide +kernel
theorem dX11_leave_4 : decode cX11_leave 4 = .ok (.invokevirtual 137, 3) := by decide +kernel
theorem dX11_leave_7 : decode cX11_leave 7 = .ok (.ifCond .ne 6, 3) := by decide +kernel
theorem dX11_leave_10 : decode cX11_leave 10 = .ok (.ldc 129, 2) := by decide +kernel
theorem dX11_leave_12 : decode cX11_leave 12 = .ok (.ireturn, 1) := by decide +kernel
theorem dX11_leave_13 : decode cX11_leave 13 = .ok (.iload_n 1, 1) := by decide +kernel
theorem dX11_leave_14 : decode cX11_leave 14 = .ok (.invokestatic 152, 3) := by decide +kernel
theorem dX11_leave_17 : decode cX11_leave 17 = .ok (.ifCond .ne 6, 3) := by decide +kernel
theorem dX11_leave_20 : decode cX11_leave 20 = .ok (.ldc 59, 2) := by decide +kernel
theorem dX11_leave_22 : decode cX11_leave 22 = .ok (.ireturn, 1) := by decide +kernel
theorem dX11_leave_23 : decode cX11_leave 23 = .ok (.aload_n 0, 1) := by decide +kernel
theorem dX11_leave_24 : decode cX11_leave 24 = .ok (.getfield 26, 3) := by decide +kernel
theorem dX11_leave_27 : decode cX11_leave 27 = .ok (.getfield 155, 3) := by decide +kernel
theorem dX11_leave_30 : decode cX11_leave 30 = .ok (.iload_n 1, 1) := by decide +kernel
theorem dX11_leave_31 : decode cX11_leave 31 = .ok (.invokestatic 158, 3) := by decide +kernel
theorem dX11_leave_34 : decode cX11_leave 34 = .ok (.ifCond .eq 6, 3) := by decide +kernel
theorem dX11_leave_37 : decode cX11_leave 37 = .ok (.ldc 129, 2) := by decide +kernel
theorem dX11_leave_39 : decode cX11_leave 39 = .ok (.ireturn, 1) := by decide +kernel
theorem dX11_leave_40 : decode cX11_leave 40 = .ok (.aload_n 0, 1) := by decide +kernel
theorem dX11_leave_41 : decode cX11_leave 41 = .ok (.invokevirtual 143, 3) := by decide +kernel
theorem dX11_leave_44 : decode cX11_leave 44 = .ok (.aload_n 0, 1) := by decide +kernel
theorem dX11_leave_45 : decode cX11_leave 45 = .ok (.getfield 26, 3) := by decide +kernel
theorem dX11_leave_48 : decode cX11_leave 48 = .ok (.dup, 1) := by decide +kernel
theorem dX11_leave_49 : decode cX11_leave 49 = .ok (.getfield 155, 3) := by decide +kernel
theorem dX11_leave_52 : decode cX11_leave 52 = .ok (.iconst 1, 1) := by decide +kernel
theorem dX11_leave_53 : decode cX11_leave 53 = .ok (.iload_n 1, 1) := by decide +kernel
theorem dX11_leave_54 : decode cX11_leave 54 = .ok (.ishl, 1) := by decide +kernel
theorem dX11_leave_55 : decode cX11_leave 55 = .ok (.ior, 1) := by decide +kernel
theorem dX11_leave_56 : decode cX11_leave 56 = .ok (.putfield 155, 3) := by decide +kernel
theorem dX11_leave_59 : decode cX11_leave 59 = .ok (.aload_n 0, 1) := by decide +kernel
theorem dX11_leave_60 : decode cX11_leave 60 = .ok (.getfield 26, 3) := by decide +kernel
theorem dX11_leave_63 : decode cX11_leave 63 = .ok (.getfield 155, 3) := by decide +kernel
theorem dX11_leave_66 : decode cX11_leave 66 = .ok (.ireturn, 1) := by decide +kernel
theorem dX11_name_0 : decode cX11_name 0 = .ok (.aload_n 0, 1) := by decide +kernel
theorem dX11_name_1 : decode cX11_name 1 = .ok (.getfield 26, 3) := by decide +kernel
theorem dX11_name_4 : decode cX11_name 4 = .ok (.invokevirtual 137, 3) := by decide +kernel
theorem dX11_name_7 : decode cX11_name 7 = .ok (.ifCond .eq 26, 3) := by decide +kernel
theorem dX11_name_10 : decode cX11_name 10 = .ok (.aload_n 0, 1) := by decide +kernel
theorem dX11_name_11 : decode cX11_name 11 = .ok (.aload_n 0, 1) := by decide +kernel
theorem dX11_name_12 : decode cX11_name 12 = .ok (.getfield 26, 3) := by decide +kernel
theorem dX11_name_15 : decode cX11_name 15 = .ok (.getfield 162, 3) := by decide +kernel
theorem dX11_name_18 : decode cX11_name 18 = .ok (.aload_n 0, 1) := by decide +kernel
theorem dX11_name_19 : decode cX11_name 19 = .ok (.getfield 26, 3) := by decide +kernel
theorem dX11_name_22 : decode cX11_name 22 = .ok (.getfield 166, 3) := by decide +kernel
theorem dX11_name_25 : decode cX11_name 25 = .ok (.iload_n 1, 1) := by decide +kernel
theorem dX11_name_26 : decode cX11_name 26 = .ok (.iload_n 2, 1) := by decide +kernel
theorem dX11_name_27 : decode cX11_name 27 = .ok (.invokevirtual 169, 3) := by decide +kernel
theorem dX11_name_30 : decode cX11_name 30 = .ok (.goto 5, 3) := by decide +kernel
theorem dX11_name_33 : decode cX11_name 33 = .ok (.ldc 129, 2) := by decide +kernel
theorem dX11_name_35 : decode cX11_name 35 = .ok (.ireturn, 1) := by decide +kernel
theorem dX11_job_0 : decode cX11_job 0 = .ok (.aload_n 0, 1) := by decide +kernel
theorem dX11_job_1 : decode cX11_job 1 = .ok (.getfield 26, 3) := by decide +kernel
theorem dX11_job_4 : decode cX11_job 4 = .ok (.invokevirtual 137, 3) := by decide +kernel
theorem dX11_job_7 : decode cX11_job 7 = .ok (.ifCond .eq 26, 3) := by decide +kernel
theorem dX11_job_10 : decode cX11_job 10 = .ok (.aload_n 0, 1) := by decide +kernel
theorem dX11_job_11 : decode cX11_job 11 = .ok (.aload_n 0, 1) := by decide +kernel
theorem dX11_job_12 : decode cX11_job 12 = .ok (.getfield 26, 3) := by decide +kernel
theorem dX11_job_15 : decode cX11_job 15 = .ok (.getfield 173, 3) := by decide +kernel
theorem dX11_job_18 : decode cX11_job 18 = .ok (.aload_n 0, 1) := by decide +kernel
theorem dX11_job_19 : decode cX11_job 19 = .ok (.getfield 26, 3) := by decide +kernel
theorem dX11_job_22 : decode cX11_job 22 = .ok (.getfield 176, 3) := by decide +kernel
theorem dX11_job_25 : decode cX11_job 25 = .ok (.iload_n 1, 1) := by decide +kernel
theorem dX11_job_26 : decode cX11_job 26 = .ok (.iload_n 2, 1) := by decide +kernel
theorem dX11_job_27 : decode cX11_job 27 = .ok (.invokevirtual 169, 3) := by decide +kernel
theorem dX11_job_30 : decode cX11_job 30 = .ok (.goto 5, 3) := by decide +kernel
theorem dX11_job_33 : decode cX11_job 33 = .ok (.ldc 129, 2) := by decide +kernel
theorem dX11_job_35 : decode cX11_job 35 = .ok (.ireturn, 1) := by decide +kernel
theorem dX11_turn_0 : decode cX11_turn 0 = .ok (.aload_n 0, 1) := by decide +kernel
theorem dX11_turn_1 : decode cX11_turn 1 = .ok (.getfield 26, 3) := by decide +kernel
theorem dX11_turn_4 : decode cX11_turn 4 = .ok (.invokevirtual 137, 3) := by decide +kernel
theorem dX11_turn_7 : decode cX11_turn 7 = .ok (.ifCond .ne 6, 3) := by decide +kernel
theorem dX11_turn_10 : decode cX11_turn 10 = .ok (.ldc 129, 2) := by decide +kernel
theorem dX11_turn_12 : decode cX11_turn 12 = .ok (.ireturn, 1) := by decide +kernel
theorem dX11_turn_13 : decode cX11_turn 13 = .ok (.iload_n 1, 1) := by decide +kernel
theorem dX11_turn_14 : decode cX11_turn 14 = .ok (.iconst 1, 1) := by decide +kernel
theorem dX11_turn_15 : decode cX11_turn 15 = .ok (.bipush 8, 2) := by decide +kernel
theorem dX11_turn_17 : decode cX11_turn 17 = .ok (.invokestatic 55, 3) := by decide +kernel
theorem dX11_turn_20 : decode cX11_turn 20 = .ok (.ifCond .ne 6, 3) := by decide +kernel
theorem dX11_turn_23 : decode cX11_turn 23 = .ok (.ldc 59, 2) := by decide +kernel
theorem dX11_turn_25 : decode cX11_turn 25 = .ok (.ireturn, 1) := by decide +kernel
theorem dX11_turn_26 : decode cX11_turn 26 = .ok (.aload_n 0, 1) := by decide +kernel
theorem dX11_turn_27 : decode cX11_turn 27 = .ok (.invokevirtual 143, 3) := by decide +kernel
theorem dX11_turn_30 : decode cX11_turn 30 = .ok (.aload_n 0, 1) := by decide +kernel
theorem dX11_turn_31 : decode cX11_turn 31 = .ok (.getfield 26, 3) := by decide +kernel
theorem dX11_turn_34 : decode cX11_turn 34 = .ok (.aload_n 0, 1) := by decide +kernel
theorem dX11_turn_35 : decode cX11_turn 35 = .ok (.getfield 26, 3) := by decide +kernel
theorem dX11_turn_38 : decode cX11_turn 38 = .ok (.getfield 149, 3) := by decide +kernel
theorem dX11_turn_41 : decode cX11_turn 41 = .ok (.iload_n 1, 1) := by decide +kernel
theorem dX11_turn_42 : decode cX11_turn 42 = .ok (.iadd, 1) := by decide +kernel
theorem dX11_turn_43 : decode cX11_turn 43 = .ok (.aload_n 0, 1) := by decide +kernel
theorem dX11_turn_44 : decode cX11_turn 44 = .ok (.getfield 26, 3) := by decide +kernel
theorem dX11_turn_47 : decode cX11_turn 47 = .ok (.getfield 176, 3) := by decide +kernel
theorem dX11_turn_50 : decode cX11_turn 50 = .ok (.invokestatic 133, 3) := by decide +kernel
theorem dX11_turn_53 : decode cX11_turn 53 = .ok (.putfield 149, 3) := by decide +kernel
theorem dX11_turn_56 : decode cX11_turn 56 = .ok (.aload_n 0, 1) := by decide +kernel
theorem dX11_turn_57 : decode cX11_turn 57 = .ok (.getfield 26, 3) := by decide +kernel
theorem dX11_turn_60 : decode cX11_turn 60 = .ok (.getfield 149, 3) := by decide +kernel
theorem dX11_turn_63 : decode cX11_turn 63 = .ok (.ireturn, 1) := by decide +kernel
theorem dX11_done_0 : decode cX11_done 0 = .ok (.aload_n 0, 1) := by decide +kernel
theorem dX11_done_1 : decode cX11_done 1 = .ok (.getfield 26, 3) := by decide +kernel
theorem dX11_done_4 : decode cX11_done 4 = .ok (.invokevirtual 137, 3) := by decide +kernel
theorem dX11_done_7 : decode cX11_done 7 = .ok (.ifCond .ne 6, 3) := by decide +kernel
theorem dX11_done_10 : decode cX11_done 10 = .ok (.ldc 129, 2) := by decide +kernel
theorem dX11_done_12 : decode cX11_done 12 = .ok (.ireturn, 1) := by decide +kernel
theorem dX11_done_13 : decode cX11_done 13 = .ok (.iload_n 1, 1) := by decide +kernel
theorem dX11_done_14 : decode cX11_done 14 = .ok (.invokestatic 152, 3) := by decide +kernel
theorem dX11_done_17 : decode cX11_done 17 = .ok (.ifCond .eq 27, 3) := by decide +kernel
theorem dX11_done_20 : decode cX11_done 20 = .ok (.iload_n 2, 1) := by decide +kernel
theorem dX11_done_21 : decode cX11_done 21 = .ok (.invokestatic 179, 3) := by decide +kernel
theorem dX11_done_24 : decode cX11_done 24 = .ok (.ifCond .eq 20, 3) := by decide +kernel
theorem dX11_done_27 : decode cX11_done 27 = .ok (.aload_n 0, 1) := by decide +kernel
theorem dX11_done_28 : decode cX11_done 28 = .ok (.getfield 26, 3) := by decide +kernel
theorem dX11_done_31 : decode cX11_done 31 = .ok (.getfield 182, 3) := by decide +kernel
theorem dX11_done_34 : decode cX11_done 34 = .ok (.iload_n 1, 1) := by decide +kernel
theorem dX11_done_35 : decode cX11_done 35 = .ok (.bipush 6, 2) := by decide +kernel
theorem dX11_done_37 : decode cX11_done 37 = .ok (.imul, 1) := by decide +kernel
theorem dX11_done_38 : decode cX11_done 38 = .ok (.iload_n 2, 1) := by decide +kernel
theorem dX11_done_39 : decode cX11_done 39 = .ok (.iadd, 1) := by decide +kernel
theorem dX11_done_40 : decode cX11_done 40 = .ok (.iaload, 1) := by decide +kernel
theorem dX11_done_41 : decode cX11_done 41 = .ok (.goto 5, 3) := by decide +kernel
theorem dX11_done_44 : decode cX11_done 44 = .ok (.ldc 59, 2) := by decide +kernel
theorem dX11_done_46 : decode cX11_done 46 = .ok (.ireturn, 1) := by decide +kernel
theorem dX11_slot_0 : decode cX11_slot 0 = .ok (.aload_n 0, 1) := by decide +kernel
theorem dX11_slot_1 : decode cX11_slot 1 = .ok (.getfield 26, 3) := by decide +kernel
theorem dX11_slot_4 : decode cX11_slot 4 = .ok (.invokevirtual 137, 3) := by decide +kernel
theorem dX11_slot_7 : decode cX11_slot 7 = .ok (.ifCond .ne 6, 3) := by decide +kernel
theorem dX11_slot_10 : decode cX11_slot 10 = .ok (.ldc 129, 2) := by decide +kernel
theorem dX11_slot_12 : decode cX11_slot 12 = .ok (.ireturn, 1) := by decide +kernel
theorem dX11_slot_13 : decode cX11_slot 13 = .ok (.iload_n 1, 1) := by decide +kernel
theorem dX11_slot_14 : decode cX11_slot 14 = .ok (.iconst 0, 1) := by decide +kernel
theorem dX11_slot_15 : decode cX11_slot 15 = .ok (.bipush 7, 2) := by decide +kernel
theorem dX11_slot_17 : decode cX11_slot 17 = .ok (.invokestatic 55, 3) := by decide +kernel
theorem dX11_slot_20 : decode cX11_slot 20 = .ok (.ifCond .eq 12, 3) := by decide +kernel
theorem dX11_slot_23 : decode cX11_slot 23 = .ok (.iload_n 2, 1) := by decide +kernel
theorem dX11_slot_24 : decode cX11_slot 24 = .ok (.iconst 0, 1) := by decide +kernel
theorem dX11_slot_25 : decode cX11_slot 25 = .ok (.iconst 2, 1) := by decide +kernel
theorem dX11_slot_26 : decode cX11_slot 26 = .ok (.invokestatic 55, 3) := by decide +kernel
theorem dX11_slot_29 : decode cX11_slot 29 = .ok (.ifCond .ne 6, 3) := by decide +kernel
theorem dX11_slot_32 : decode cX11_slot 32 = .ok (.ldc 59, 2) := by decide +kernel
theorem dX11_slot_34 : decode cX11_slot 34 = .ok (.ireturn, 1) := by decide +kernel
theorem dX11_slot_35 : decode cX11_slot 35 = .ok (.iload_n 1, 1) := by decide +kernel
theorem dX11_slot_36 : decode cX11_slot 36 = .ok (.iload_n 2, 1) := by decide +kernel
theorem dX11_slot_37 : decode cX11_slot 37 = .ok (.iconst 1, 1) := by decide +kernel
theorem dX11_slot_38 : decode cX11_slot 38 = .ok (.if_icmp .ne 13, 3) := by decide +kernel
theorem dX11_slot_41 : decode cX11_slot 41 = .ok (.aload_n 0, 1) := by decide +kernel
theorem dX11_slot_42 : decode cX11_slot 42 = .ok (.getfield 26, 3) := by decide +kernel
theorem dX11_slot_45 : decode cX11_slot 45 = .ok (.getfield 176, 3) := by decide +kernel
theorem dX11_slot_48 : decode cX11_slot 48 = .ok (.goto 10, 3) := by decide +kernel
theorem dX11_slot_51 : decode cX11_slot 51 = .ok (.aload_n 0, 1) := by decide +kernel
theorem dX11_slot_52 : decode cX11_slot 52 = .ok (.getfield 26, 3) := by decide +kernel
theorem dX11_slot_55 : decode cX11_slot 55 = .ok (.getfield 166, 3) := by decide +kernel
theorem dX11_slot_58 : decode cX11_slot 58 = .ok (.if_icmp .lt 6, 3) := by decide +kernel
theorem dX11_slot_61 : decode cX11_slot 61 = .ok (.ldc 185, 2) := by decide +kernel
theorem dX11_slot_63 : decode cX11_slot 63 = .ok (.ireturn, 1) := by decide +kernel
theorem dX11_slot_64 : decode cX11_slot 64 = .ok (.iload_n 2, 1) := by decide +kernel
theorem dX11_slot_65 : decode cX11_slot 65 = .ok (.lookupswitch 47 #[(0, 27), (1, 37)], 27) := by decide +kernel
theorem dX11_slot_92 : decode cX11_slot 92 = .ok (.aload_n 0, 1) := by decide +kernel
theorem dX11_slot_93 : decode cX11_slot 93 = .ok (.getfield 26, 3) := by decide +kernel
theorem dX11_slot_96 : decode cX11_slot 96 = .ok (.getfield 162, 3) := by decide +kernel
theorem dX11_slot_99 : decode cX11_slot 99 = .ok (.iload_n 1, 1) := by decide +kernel
theorem dX11_slot_100 : decode cX11_slot 100 = .ok (.iaload, 1) := by decide +kernel
theorem dX11_slot_101 : decode cX11_slot 101 = .ok (.ireturn, 1) := by decide +kernel
theorem dX11_slot_102 : decode cX11_slot 102 = .ok (.aload_n 0, 1) := by decide +kernel
theorem dX11_slot_103 : decode cX11_slot 103 = .ok (.getfield 26, 3) := by decide +kernel
theorem dX11_slot_106 : decode cX11_slot 106 = .ok (.getfield 173, 3) := by decide +kernel
theorem dX11_slot_109 : decode cX11_slot 109 = .ok (.iload_n 1, 1) := by decide +kernel
theorem dX11_slot_110 : decode cX11_slot 110 = .ok (.iaload, 1) := by decide +kernel
theorem dX11_slot_111 : decode cX11_slot 111 = .ok (.ireturn, 1) := by decide +kernel
theorem dX11_slot_112 : decode cX11_slot 112 = .ok (.aload_n 0, 1) := by decide +kernel
theorem dX11_slot_113 : decode cX11_slot 113 = .ok (.getfield 26, 3) := by decide +kernel
theorem dX11_slot_116 : decode cX11_slot 116 = .ok (.iload_n 1, 1) := by decide +kernel
theorem dX11_slot_117 : decode cX11_slot 117 = .ok (.aload_n 0, 1) := by decide +kernel
theorem dX11_slot_118 : decode cX11_slot 118 = .ok (.getfield 26, 3) := by decide +kernel
theorem dX11_slot_121 : decode cX11_slot 121 = .ok (.getfield 149, 3) := by decide +kernel
theorem dX11_slot_124 : decode cX11_slot 124 = .ok (.invokevirtual 186, 3) := by decide +kernel
theorem dX11_slot_127 : decode cX11_slot 127 = .ok (.ireturn, 1) := by decide +kernel
theorem dX11_turner_0 : decode cX11_turner 0 = .ok (.aload_n 0, 1) := by decide +kernel
theorem dX11_turner_1 : decode cX11_turner 1 = .ok (.getfield 26, 3) := by decide +kernel
theorem dX11_turner_4 : decode cX11_turner 4 = .ok (.iload_n 1, 1) := by decide +kernel
theorem dX11_turner_5 : decode cX11_turner 5 = .ok (.invokevirtual 189, 3) := by decide +kernel
theorem dX11_turner_8 : decode cX11_turner 8 = .ok (.astore_n 3, 1) := by decide +kernel
theorem dX11_turner_9 : decode cX11_turner 9 = .ok (.aload_n 3, 1) := by decide +kernel
theorem dX11_turner_10 : decode cX11_turner 10 = .ok (.ifnull 12, 3) := by decide +kernel
theorem dX11_turner_13 : decode cX11_turner 13 = .ok (.iload_n 2, 1) := by decide +kernel
theorem dX11_turner_14 : decode cX11_turner 14 = .ok (.iconst 0, 1) := by decide +kernel
theorem dX11_turner_15 : decode cX11_turner 15 = .ok (.iconst 1, 1) := by decide +kernel
theorem dX11_turner_16 : decode cX11_turner 16 = .ok (.invokestatic 55, 3) := by decide +kernel
theorem dX11_turner_19 : decode cX11_turner 19 = .ok (.ifCond .ne 6, 3) := by decide +kernel
theorem dX11_turner_22 : decode cX11_turner 22 = .ok (.ldc 59, 2) := by decide +kernel
theorem dX11_turner_24 : decode cX11_turner 24 = .ok (.ireturn, 1) := by decide +kernel
theorem dX11_turner_25 : decode cX11_turner 25 = .ok (.iload_n 2, 1) := by decide +kernel
theorem dX11_turner_26 : decode cX11_turner 26 = .ok (.ifCond .ne 10, 3) := by decide +kernel
theorem dX11_turner_29 : decode cX11_turner 29 = .ok (.aload_n 3, 1) := by decide +kernel
theorem dX11_turner_30 : decode cX11_turner 30 = .ok (.getfield 193, 3) := by decide +kernel
theorem dX11_turner_33 : decode cX11_turner 33 = .ok (.goto 18, 3) := by decide +kernel
theorem dX11_turner_36 : decode cX11_turner 36 = .ok (.sipush 1000, 3) := by decide +kernel
theorem dX11_turner_39 : decode cX11_turner 39 = .ok (.aload_n 3, 1) := by decide +kernel
theorem dX11_turner_40 : decode cX11_turner 40 = .ok (.aload_n 0, 1) := by decide +kernel
theorem dX11_turner_41 : decode cX11_turner 41 = .ok (.getfield 26, 3) := by decide +kernel
theorem dX11_turner_44 : decode cX11_turner 44 = .ok (.getfield 140, 3) := by decide +kernel
theorem dX11_turner_47 : decode cX11_turner 47 = .ok (.invokevirtual 198, 3) := by decide +kernel
theorem dX11_turner_50 : decode cX11_turner 50 = .ok (.iadd, 1) := by decide +kernel
theorem dX11_turner_51 : decode cX11_turner 51 = .ok (.ireturn, 1) := by decide +kernel
theorem dX11_hasJobs_0 : decode cX11_hasJobs 0 = .ok (.aload_n 0, 1) := by decide +kernel
theorem dX11_hasJobs_1 : decode cX11_hasJobs 1 = .ok (.getfield 26, 3) := by decide +kernel
theorem dX11_hasJobs_4 : decode cX11_hasJobs 4 = .ok (.invokevirtual 137, 3) := by decide +kernel
theorem dX11_hasJobs_7 : decode cX11_hasJobs 7 = .ok (.ifCond .ne 6, 3) := by decide +kernel
theorem dX11_hasJobs_10 : decode cX11_hasJobs 10 = .ok (.ldc 129, 2) := by decide +kernel
theorem dX11_hasJobs_12 : decode cX11_hasJobs 12 = .ok (.ireturn, 1) := by decide +kernel
theorem dX11_hasJobs_13 : decode cX11_hasJobs 13 = .ok (.iload_n 1, 1) := by decide +kernel
theorem dX11_hasJobs_14 : decode cX11_hasJobs 14 = .ok (.invokestatic 152, 3) := by decide +kernel
theorem dX11_hasJobs_17 : decode cX11_hasJobs 17 = .ok (.ifCond .eq 13, 3) := by decide +kernel
theorem dX11_hasJobs_20 : decode cX11_hasJobs 20 = .ok (.iload_n 2, 1) := by decide +kernel
theorem dX11_hasJobs_21 : decode cX11_hasJobs 21 = .ok (.iconst 0, 1) := by decide +kernel
theorem dX11_hasJobs_22 : decode cX11_hasJobs 22 = .ok (.bipush 60, 2) := by decide +kernel
theorem dX11_hasJobs_24 : decode cX11_hasJobs 24 = .ok (.invokestatic 55, 3) := by decide +kernel
theorem dX11_hasJobs_27 : decode cX11_hasJobs 27 = .ok (.ifCond .ne 6, 3) := by decide +kernel
theorem dX11_hasJobs_30 : decode cX11_hasJobs 30 = .ok (.ldc 59, 2) := by decide +kernel
theorem dX11_hasJobs_32 : decode cX11_hasJobs 32 = .ok (.ireturn, 1) := by decide +kernel
theorem dX11_hasJobs_33 : decode cX11_hasJobs 33 = .ok (.aload_n 0, 1) := by decide +kernel
theorem dX11_hasJobs_34 : decode cX11_hasJobs 34 = .ok (.getfield 26, 3) := by decide +kernel
theorem dX11_hasJobs_37 : decode cX11_hasJobs 37 = .ok (.iload_n 1, 1) := by decide +kernel
theorem dX11_hasJobs_38 : decode cX11_hasJobs 38 = .ok (.aload_n 0, 1) := by decide +kernel
theorem dX11_hasJobs_39 : decode cX11_hasJobs 39 = .ok (.getfield 26, 3) := by decide +kernel
theorem dX11_hasJobs_42 : decode cX11_hasJobs 42 = .ok (.iload_n 2, 1) := by decide +kernel
theorem dX11_hasJobs_43 : decode cX11_hasJobs 43 = .ok (.invokevirtual 201, 3) := by decide +kernel
theorem dX11_hasJobs_46 : decode cX11_hasJobs 46 = .ok (.aload_n 0, 1) := by decide +kernel
theorem dX11_hasJobs_47 : decode cX11_hasJobs 47 = .ok (.getfield 26, 3) := by decide +kernel
theorem dX11_hasJobs_50 : decode cX11_hasJobs 50 = .ok (.iload_n 2, 1) := by decide +kernel
theorem dX11_hasJobs_51 : decode cX11_hasJobs 51 = .ok (.invokevirtual 204, 3) := by decide +kernel
theorem dX11_hasJobs_54 : decode cX11_hasJobs 54 = .ok (.invokevirtual 207, 3) := by decide +kernel
theorem dX11_hasJobs_57 : decode cX11_hasJobs 57 = .ok (.ireturn, 1) := by decide +kernel
theorem dX11_whoDoes_0 : decode cX11_whoDoes 0 = .ok (.aload_n 0, 1) := by decide +kernel
theorem dX11_whoDoes_1 : decode cX11_whoDoes 1 = .ok (.getfield 26, 3) := by decide +kernel
theorem dX11_whoDoes_4 : decode cX11_whoDoes 4 = .ok (.invokevirtual 137, 3) := by decide +kernel
theorem dX11_whoDoes_7 : decode cX11_whoDoes 7 = .ok (.ifCond .ne 6, 3) := by decide +kernel
theorem dX11_whoDoes_10 : decode cX11_whoDoes 10 = .ok (.ldc 129, 2) := by decide +kernel
theorem dX11_whoDoes_12 : decode cX11_whoDoes 12 = .ok (.ireturn, 1) := by decide +kernel
theorem dX11_whoDoes_13 : decode cX11_whoDoes 13 = .ok (.iload_n 1, 1) := by decide +kernel
theorem dX11_whoDoes_14 : decode cX11_whoDoes 14 = .ok (.invokestatic 179, 3) := by decide +kernel
theorem dX11_whoDoes_17 : decode cX11_whoDoes 17 = .ok (.ifCond .eq 13, 3) := by decide +kernel
theorem dX11_whoDoes_20 : decode cX11_whoDoes 20 = .ok (.iload_n 2, 1) := by decide +kernel
theorem dX11_whoDoes_21 : decode cX11_whoDoes 21 = .ok (.iconst 0, 1) := by decide +kernel
theorem dX11_whoDoes_22 : decode cX11_whoDoes 22 = .ok (.bipush 60, 2) := by decide +kernel
theorem dX11_whoDoes_24 : decode cX11_whoDoes 24 = .ok (.invokestatic 55, 3) := by decide +kernel
theorem dX11_whoDoes_27 : decode cX11_whoDoes 27 = .ok (.ifCond .ne 6, 3) := by decide +kernel
theorem dX11_whoDoes_30 : decode cX11_whoDoes 30 = .ok (.ldc 59, 2) := by decide +kernel
theorem dX11_whoDoes_32 : decode cX11_whoDoes 32 = .ok (.ireturn, 1) := by decide +kernel
theorem dX11_whoDoes_33 : decode cX11_whoDoes 33 = .ok (.aload_n 0, 1) := by decide +kernel
theorem dX11_whoDoes_34 : decode cX11_whoDoes 34 = .ok (.getfield 26, 3) := by decide +kernel
theorem dX11_whoDoes_37 : decode cX11_whoDoes 37 = .ok (.iload_n 1, 1) := by decide +kernel
theorem dX11_whoDoes_38 : decode cX11_whoDoes 38 = .ok (.aload_n 0, 1) := by decide +kernel
theorem dX11_whoDoes_39 : decode cX11_whoDoes 39 = .ok (.getfield 26, 3) := by decide +kernel
theorem dX11_whoDoes_42 : decode cX11_whoDoes 42 = .ok (.iload_n 2, 1) := by decide +kernel
theorem dX11_whoDoes_43 : decode cX11_whoDoes 43 = .ok (.invokevirtual 201, 3) := by decide +kernel
theorem dX11_whoDoes_46 : decode cX11_whoDoes 46 = .ok (.aload_n 0, 1) := by decide +kernel
theorem dX11_whoDoes_47 : decode cX11_whoDoes 47 = .ok (.getfield 26, 3) := by decide +kernel
theorem dX11_whoDoes_50 : decode cX11_whoDoes 50 = .ok (.iload_n 2, 1) := by decide +kernel
theorem dX11_whoDoes_51 : decode cX11_whoDoes 51 = .ok (.invokevirtual 204, 3) := by decide +kernel
theorem dX11_whoDoes_54 : decode cX11_whoDoes 54 = .ok (.invokevirtual 210, 3) := by decide +kernel
theorem dX11_whoDoes_57 : decode cX11_whoDoes 57 = .ok (.ireturn, 1) := by decide +kernel
theorem dX11_often_0 : decode cX11_often 0 = .ok (.aload_n 0, 1) := by decide +kernel
theorem dX11_often_1 : decode cX11_often 1 = .ok (.getfield 26, 3) := by decide +kernel
theorem dX11_often_4 : decode cX11_often 4 = .ok (.invokevirtual 137, 3) := by decide +kernel
theorem dX11_often_7 : decode cX11_often 7 = .ok (.ifCond .ne 6, 3) := by decide +kernel
theorem dX11_often_10 : decode cX11_often 10 = .ok (.ldc 129, 2) := by decide +kernel
theorem dX11_often_12 : decode cX11_often 12 = .ok (.ireturn, 1) := by decide +kernel
theorem dX11_often_13 : decode cX11_often 13 = .ok (.iload_n 1, 1) := by decide +kernel
theorem dX11_often_14 : decode cX11_often 14 = .ok (.invokestatic 152, 3) := by decide +kernel
theorem dX11_often_17 : decode cX11_often 17 = .ok (.ifCond .eq 20, 3) := by decide +kernel
theorem dX11_often_20 : decode cX11_often 20 = .ok (.iload_n 2, 1) := by decide +kernel
theorem dX11_often_21 : decode cX11_often 21 = .ok (.invokestatic 179, 3) := by decide +kernel
theorem dX11_often_24 : decode cX11_often 24 = .ok (.ifCond .eq 13, 3) := by decide +kernel
theorem dX11_often_27 : decode cX11_often 27 = .ok (.iload_n 3, 1) := by decide +kernel
theorem dX11_often_28 : decode cX11_often 28 = .ok (.iconst 0, 1) := by decide +kernel
theorem dX11_often_29 : decode cX11_often 29 = .ok (.bipush 60, 2) := by decide +kernel
theorem dX11_often_31 : decode cX11_often 31 = .ok (.invokestatic 55, 3) := by decide +kernel
theorem dX11_often_34 : decode cX11_often 34 = .ok (.ifCond .ne 6, 3) := by decide +kernel
theorem dX11_often_37 : decode cX11_often 37 = .ok (.ldc 59, 2) := by decide +kernel
theorem dX11_often_39 : decode cX11_often 39 = .ok (.ireturn, 1) := by decide +kernel
theorem dX11_often_40 : decode cX11_often 40 = .ok (.aload_n 0, 1) := by decide +kernel
theorem dX11_often_41 : decode cX11_often 41 = .ok (.getfield 33, 3) := by decide +kernel
theorem dX11_often_44 : decode cX11_often 44 = .ok (.aload_n 0, 1) := by decide +kernel
theorem dX11_often_45 : decode cX11_often 45 = .ok (.getfield 26, 3) := by decide +kernel
theorem dX11_often_48 : decode cX11_often 48 = .ok (.iload_n 1, 1) := by decide +kernel
theorem dX11_often_49 : decode cX11_often 49 = .ok (.iload_n 2, 1) := by decide +kernel
theorem dX11_often_50 : decode cX11_often 50 = .ok (.iload_n 3, 1) := by decide +kernel
theorem dX11_often_51 : decode cX11_often 51 = .ok (.invokevirtual 213, 3) := by decide +kernel
theorem dX11_often_54 : decode cX11_often 54 = .ok (.ireturn, 1) := by decide +kernel
theorem dX11_meets_0 : decode cX11_meets 0 = .ok (.aload_n 0, 1) := by decide +kernel
theorem dX11_meets_1 : decode cX11_meets 1 = .ok (.getfield 26, 3) := by decide +kernel
theorem dX11_meets_4 : decode cX11_meets 4 = .ok (.invokevirtual 137, 3) := by decide +kernel
theorem dX11_meets_7 : decode cX11_meets 7 = .ok (.ifCond .ne 6, 3) := by decide +kernel
theorem dX11_meets_10 : decode cX11_meets 10 = .ok (.ldc 129, 2) := by decide +kernel
theorem dX11_meets_12 : decode cX11_meets 12 = .ok (.ireturn, 1) := by decide +kernel
theorem dX11_meets_13 : decode cX11_meets 13 = .ok (.iload_n 1, 1) := by decide +kernel
theorem dX11_meets_14 : decode cX11_meets 14 = .ok (.invokestatic 152, 3) := by decide +kernel
theorem dX11_meets_17 : decode cX11_meets 17 = .ok (.ifCond .eq 26, 3) := by decide +kernel
theorem dX11_meets_20 : decode cX11_meets 20 = .ok (.iload_n 2, 1) := by decide +kernel
theorem dX11_meets_21 : decode cX11_meets 21 = .ok (.invokestatic 179, 3) := by decide +kernel
theorem dX11_meets_24 : decode cX11_meets 24 = .ok (.ifCond .eq 19, 3) := by decide +kernel
theorem dX11_meets_27 : decode cX11_meets 27 = .ok (.aload_n 0, 1) := by decide +kernel
theorem dX11_meets_28 : decode cX11_meets 28 = .ok (.getfield 33, 3) := by decide +kernel
theorem dX11_meets_31 : decode cX11_meets 31 = .ok (.aload_n 0, 1) := by decide +kernel
theorem dX11_meets_32 : decode cX11_meets 32 = .ok (.getfield 26, 3) := by decide +kernel
theorem dX11_meets_35 : decode cX11_meets 35 = .ok (.iload_n 1, 1) := by decide +kernel
theorem dX11_meets_36 : decode cX11_meets 36 = .ok (.iload_n 2, 1) := by decide +kernel
theorem dX11_meets_37 : decode cX11_meets 37 = .ok (.invokevirtual 217, 3) := by decide +kernel
theorem dX11_meets_40 : decode cX11_meets 40 = .ok (.goto 5, 3) := by decide +kernel
theorem dX11_meets_43 : decode cX11_meets 43 = .ok (.ldc 59, 2) := by decide +kernel
theorem dX11_meets_45 : decode cX11_meets 45 = .ok (.ireturn, 1) := by decide +kernel
theorem dX11_allMet_0 : decode cX11_allMet 0 = .ok (.aload_n 0, 1) := by decide +kernel
theorem dX11_allMet_1 : decode cX11_allMet 1 = .ok (.getfield 26, 3) := by decide +kernel
theorem dX11_allMet_4 : decode cX11_allMet 4 = .ok (.invokevirtual 137, 3) := by decide +kernel
theorem dX11_allMet_7 : decode cX11_allMet 7 = .ok (.ifCond .eq 17, 3) := by decide +kernel
theorem dX11_allMet_10 : decode cX11_allMet 10 = .ok (.aload_n 0, 1) := by decide +kernel
theorem dX11_allMet_11 : decode cX11_allMet 11 = .ok (.getfield 33, 3) := by decide +kernel
theorem dX11_allMet_14 : decode cX11_allMet 14 = .ok (.aload_n 0, 1) := by decide +kernel
theorem dX11_allMet_15 : decode cX11_allMet 15 = .ok (.getfield 26, 3) := by decide +kernel
theorem dX11_allMet_18 : decode cX11_allMet 18 = .ok (.invokevirtual 221, 3) := by decide +kernel
theorem dX11_allMet_21 : decode cX11_allMet 21 = .ok (.goto 5, 3) := by decide +kernel
theorem dX11_allMet_24 : decode cX11_allMet 24 = .ok (.ldc 129, 2) := by decide +kernel
theorem dX11_allMet_26 : decode cX11_allMet 26 = .ok (.ireturn, 1) := by decide +kernel
theorem dX11_round_0 : decode cX11_round 0 = .ok (.aload_n 0, 1) := by decide +kernel
theorem dX11_round_1 : decode cX11_round 1 = .ok (.getfield 26, 3) := by decide +kernel
theorem dX11_round_4 : decode cX11_round 4 = .ok (.invokevirtual 137, 3) := by decide +kernel
theorem dX11_round_7 : decode cX11_round 7 = .ok (.ifCond .eq 17, 3) := by decide +kernel
theorem dX11_round_10 : decode cX11_round 10 = .ok (.aload_n 0, 1) := by decide +kernel
theorem dX11_round_11 : decode cX11_round 11 = .ok (.getfield 33, 3) := by decide +kernel
theorem dX11_round_14 : decode cX11_round 14 = .ok (.aload_n 0, 1) := by decide +kernel
theorem dX11_round_15 : decode cX11_round 15 = .ok (.getfield 26, 3) := by decide +kernel
theorem dX11_round_18 : decode cX11_round 18 = .ok (.invokevirtual 225, 3) := by decide +kernel
theorem dX11_round_21 : decode cX11_round 21 = .ok (.goto 5, 3) := by decide +kernel
theorem dX11_round_24 : decode cX11_round 24 = .ok (.ldc 129, 2) := by decide +kernel
theorem dX11_round_26 : decode cX11_round 26 = .ok (.ireturn, 1) := by decide +kernel
theorem dX11_fairest_0 : decode cX11_fairest 0 = .ok (.aload_n 0, 1) := by decide +kernel
theorem dX11_fairest_1 : decode cX11_fairest 1 = .ok (.getfield 26, 3) := by decide +kernel
theorem dX11_fairest_4 : decode cX11_fairest 4 = .ok (.invokevirtual 137, 3) := by decide +kernel
theorem dX11_fairest_7 : decode cX11_fairest 7 = .ok (.ifCond .ne 6, 3) := by decide +kernel
theorem dX11_fairest_10 : decode cX11_fairest 10 = .ok (.ldc 129, 2) := by decide +kernel
theorem dX11_fairest_12 : decode cX11_fairest 12 = .ok (.ireturn, 1) := by decide +kernel
theorem dX11_fairest_13 : decode cX11_fairest 13 = .ok (.iload_n 1, 1) := by decide +kernel
theorem dX11_fairest_14 : decode cX11_fairest 14 = .ok (.iconst 1, 1) := by decide +kernel
theorem dX11_fairest_15 : decode cX11_fairest 15 = .ok (.bipush 60, 2) := by decide +kernel
theorem dX11_fairest_17 : decode cX11_fairest 17 = .ok (.invokestatic 55, 3) := by decide +kernel
theorem dX11_fairest_20 : decode cX11_fairest 20 = .ok (.ifCond .eq 12, 3) := by decide +kernel
theorem dX11_fairest_23 : decode cX11_fairest 23 = .ok (.iload_n 2, 1) := by decide +kernel
theorem dX11_fairest_24 : decode cX11_fairest 24 = .ok (.iconst 0, 1) := by decide +kernel
theorem dX11_fairest_25 : decode cX11_fairest 25 = .ok (.iconst 1, 1) := by decide +kernel
theorem dX11_fairest_26 : decode cX11_fairest 26 = .ok (.invokestatic 55, 3) := by decide +kernel
theorem dX11_fairest_29 : decode cX11_fairest 29 = .ok (.ifCond .ne 6, 3) := by decide +kernel
theorem dX11_fairest_32 : decode cX11_fairest 32 = .ok (.ldc 59, 2) := by decide +kernel
theorem dX11_fairest_34 : decode cX11_fairest 34 = .ok (.ireturn, 1) := by decide +kernel
theorem dX11_fairest_35 : decode cX11_fairest 35 = .ok (.aload_n 0, 1) := by decide +kernel
theorem dX11_fairest_36 : decode cX11_fairest 36 = .ok (.getfield 33, 3) := by decide +kernel
theorem dX11_fairest_39 : decode cX11_fairest 39 = .ok (.aload_n 0, 1) := by decide +kernel
theorem dX11_fairest_40 : decode cX11_fairest 40 = .ok (.getfield 26, 3) := by decide +kernel
theorem dX11_fairest_43 : decode cX11_fairest 43 = .ok (.iload_n 1, 1) := by decide +kernel
theorem dX11_fairest_44 : decode cX11_fairest 44 = .ok (.invokevirtual 228, 3) := by decide +kernel
theorem dX11_fairest_47 : decode cX11_fairest 47 = .ok (.istore_n 3, 1) := by decide +kernel
theorem dX11_fairest_48 : decode cX11_fairest 48 = .ok (.iload_n 2, 1) := by decide +kernel
theorem dX11_fairest_49 : decode cX11_fairest 49 = .ok (.ifCond .ne 19, 3) := by decide +kernel
theorem dX11_fairest_52 : decode cX11_fairest 52 = .ok (.aload_n 0, 1) := by decide +kernel
theorem dX11_fairest_53 : decode cX11_fairest 53 = .ok (.getfield 33, 3) := by decide +kernel
theorem dX11_fairest_56 : decode cX11_fairest 56 = .ok (.aload_n 0, 1) := by decide +kernel
theorem dX11_fairest_57 : decode cX11_fairest 57 = .ok (.getfield 26, 3) := by decide +kernel
theorem dX11_fairest_60 : decode cX11_fairest 60 = .ok (.iload_n 1, 1) := by decide +kernel
theorem dX11_fairest_61 : decode cX11_fairest 61 = .ok (.iload_n 3, 1) := by decide +kernel
theorem dX11_fairest_62 : decode cX11_fairest 62 = .ok (.invokevirtual 232, 3) := by decide +kernel
theorem dX11_fairest_65 : decode cX11_fairest 65 = .ok (.goto 4, 3) := by decide +kernel
theorem dX11_fairest_68 : decode cX11_fairest 68 = .ok (.iload_n 3, 1) := by decide +kernel
theorem dX11_fairest_69 : decode cX11_fairest 69 = .ok (.ireturn, 1) := by decide +kernel
theorem dX11_owed_0 : decode cX11_owed 0 = .ok (.aload_n 0, 1) := by decide +kernel
theorem dX11_owed_1 : decode cX11_owed 1 = .ok (.getfield 26, 3) := by decide +kernel
theorem dX11_owed_4 : decode cX11_owed 4 = .ok (.invokevirtual 137, 3) := by decide +kernel
theorem dX11_owed_7 : decode cX11_owed 7 = .ok (.ifCond .ne 6, 3) := by decide +kernel
theorem dX11_owed_10 : decode cX11_owed 10 = .ok (.ldc 129, 2) := by decide +kernel
theorem dX11_owed_12 : decode cX11_owed 12 = .ok (.ireturn, 1) := by decide +kernel
theorem dX11_owed_13 : decode cX11_owed 13 = .ok (.iload_n 1, 1) := by decide +kernel
theorem dX11_owed_14 : decode cX11_owed 14 = .ok (.invokestatic 152, 3) := by decide +kernel
theorem dX11_owed_17 : decode cX11_owed 17 = .ok (.ifCond .ne 6, 3) := by decide +kernel
theorem dX11_owed_20 : decode cX11_owed 20 = .ok (.ldc 59, 2) := by decide +kernel
theorem dX11_owed_22 : decode cX11_owed 22 = .ok (.ireturn, 1) := by decide +kernel
theorem dX11_owed_23 : decode cX11_owed 23 = .ok (.iconst 0, 1) := by decide +kernel
theorem dX11_owed_24 : decode cX11_owed 24 = .ok (.istore_n 2, 1) := by decide +kernel
theorem dX11_owed_25 : decode cX11_owed 25 = .ok (.iconst 0, 1) := by decide +kernel
theorem dX11_owed_26 : decode cX11_owed 26 = .ok (.istore_n 3, 1) := by decide +kernel
theorem dX11_owed_27 : decode cX11_owed 27 = .ok (.iload_n 3, 1) := by decide +kernel
theorem dX11_owed_28 : decode cX11_owed 28 = .ok (.bipush 6, 2) := by decide +kernel
theorem dX11_owed_30 : decode cX11_owed 30 = .ok (.if_icmp .ge 22, 3) := by decide +kernel
theorem dX11_owed_33 : decode cX11_owed 33 = .ok (.iload_n 2, 1) := by decide +kernel
theorem dX11_owed_34 : decode cX11_owed 34 = .ok (.aload_n 0, 1) := by decide +kernel
theorem dX11_owed_35 : decode cX11_owed 35 = .ok (.getfield 26, 3) := by decide +kernel
theorem dX11_owed_38 : decode cX11_owed 38 = .ok (.iload_n 3, 1) := by decide +kernel
theorem dX11_owed_39 : decode cX11_owed 39 = .ok (.invokevirtual 235, 3) := by decide +kernel
theorem dX11_owed_42 : decode cX11_owed 42 = .ok (.invokestatic 238, 3) := by decide +kernel
theorem dX11_owed_45 : decode cX11_owed 45 = .ok (.istore_n 2, 1) := by decide +kernel
theorem dX11_owed_46 : decode cX11_owed 46 = .ok (.iinc 3 1, 3) := by decide +kernel
theorem dX11_owed_49 : decode cX11_owed 49 = .ok (.goto (-22), 3) := by decide +kernel
theorem dX11_owed_52 : decode cX11_owed 52 = .ok (.iload_n 2, 1) := by decide +kernel
theorem dX11_owed_53 : decode cX11_owed 53 = .ok (.aload_n 0, 1) := by decide +kernel
theorem dX11_owed_54 : decode cX11_owed 54 = .ok (.getfield 26, 3) := by decide +kernel
theorem dX11_owed_57 : decode cX11_owed 57 = .ok (.iload_n 1, 1) := by decide +kernel
theorem dX11_owed_58 : decode cX11_owed 58 = .ok (.invokevirtual 235, 3) := by decide +kernel
theorem dX11_owed_61 : decode cX11_owed 61 = .ok (.isub, 1) := by decide +kernel
theorem dX11_owed_62 : decode cX11_owed 62 = .ok (.ireturn, 1) := by decide +kernel
theorem dX11_right_0 : decode cX11_right 0 = .ok (.aload_n 0, 1) := by decide +kernel
theorem dX11_right_1 : decode cX11_right 1 = .ok (.getfield 26, 3) := by decide +kernel
theorem dX11_right_4 : decode cX11_right 4 = .ok (.invokevirtual 137, 3) := by decide +kernel
theorem dX11_right_7 : decode cX11_right 7 = .ok (.ifCond .ne 6, 3) := by decide +kernel
theorem dX11_right_10 : decode cX11_right 10 = .ok (.ldc 129, 2) := by decide +kernel
theorem dX11_right_12 : decode cX11_right 12 = .ok (.ireturn, 1) := by decide +kernel
theorem dX11_right_13 : decode cX11_right 13 = .ok (.iload_n 1, 1) := by decide +kernel
theorem dX11_right_14 : decode cX11_right 14 = .ok (.invokestatic 152, 3) := by decide +kernel
theorem dX11_right_17 : decode cX11_right 17 = .ok (.ifCond .eq 30, 3) := by decide +kernel
theorem dX11_right_20 : decode cX11_right 20 = .ok (.iload_n 2, 1) := by decide +kernel
theorem dX11_right_21 : decode cX11_right 21 = .ok (.invokestatic 179, 3) := by decide +kernel
theorem dX11_right_24 : decode cX11_right 24 = .ok (.ifCond .eq 23, 3) := by decide +kernel
theorem dX11_right_27 : decode cX11_right 27 = .ok (.iload_n 3, 1) := by decide +kernel
theorem dX11_right_28 : decode cX11_right 28 = .ok (.iconst 0, 1) := by decide +kernel
theorem dX11_right_29 : decode cX11_right 29 = .ok (.bipush 60, 2) := by decide +kernel
theorem dX11_right_31 : decode cX11_right 31 = .ok (.invokestatic 55, 3) := by decide +kernel
theorem dX11_right_34 : decode cX11_right 34 = .ok (.ifCond .eq 13, 3) := by decide +kernel
theorem dX11_right_37 : decode cX11_right 37 = .ok (.iload 4, 2) := by decide +kernel
theorem dX11_right_39 : decode cX11_right 39 = .ok (.iconst 0, 1) := by decide +kernel
theorem dX11_right_40 : decode cX11_right 40 = .ok (.iconst 1, 1) := by decide +kernel
theorem dX11_right_41 : decode cX11_right 41 = .ok (.invokestatic 55, 3) := by decide +kernel
theorem dX11_right_44 : decode cX11_right 44 = .ok (.ifCond .ne 6, 3) := by decide +kernel
theorem dX11_right_47 : decode cX11_right 47 = .ok (.ldc 59, 2) := by decide +kernel
theorem dX11_right_49 : decode cX11_right 49 = .ok (.ireturn, 1) := by decide +kernel
theorem dX11_right_50 : decode cX11_right 50 = .ok (.aload_n 0, 1) := by decide +kernel
theorem dX11_right_51 : decode cX11_right 51 = .ok (.getfield 33, 3) := by decide +kernel
theorem dX11_right_54 : decode cX11_right 54 = .ok (.aload_n 0, 1) := by decide +kernel
theorem dX11_right_55 : decode cX11_right 55 = .ok (.getfield 26, 3) := by decide +kernel
theorem dX11_right_58 : decode cX11_right 58 = .ok (.iload_n 1, 1) := by decide +kernel
theorem dX11_right_59 : decode cX11_right 59 = .ok (.iload_n 2, 1) := by decide +kernel
theorem dX11_right_60 : decode cX11_right 60 = .ok (.iload_n 3, 1) := by decide +kernel
theorem dX11_right_61 : decode cX11_right 61 = .ok (.invokevirtual 243, 3) := by decide +kernel
theorem dX11_right_64 : decode cX11_right 64 = .ok (.istore 5, 2) := by decide +kernel
theorem dX11_right_66 : decode cX11_right 66 = .ok (.iload 5, 2) := by decide +kernel
theorem dX11_right_68 : decode cX11_right 68 = .ok (.ldc 185, 2) := by decide +kernel
theorem dX11_right_70 : decode cX11_right 70 = .ok (.if_icmp .ne 6, 3) := by decide +kernel
theorem dX11_right_73 : decode cX11_right 73 = .ok (.ldc 185, 2) := by decide +kernel
theorem dX11_right_75 : decode cX11_right 75 = .ok (.ireturn, 1) := by decide +kernel
theorem dX11_right_76 : decode cX11_right 76 = .ok (.iload 5, 2) := by decide +kernel
theorem dX11_right_78 : decode cX11_right 78 = .ok (.ifCond .eq 7, 3) := by decide +kernel
theorem dX11_right_81 : decode cX11_right 81 = .ok (.iconst 1, 1) := by decide +kernel
theorem dX11_right_82 : decode cX11_right 82 = .ok (.goto 4, 3) := by decide +kernel
theorem dX11_right_85 : decode cX11_right 85 = .ok (.iconst 0, 1) := by decide +kernel
theorem dX11_right_86 : decode cX11_right 86 = .ok (.istore 6, 2) := by decide +kernel
theorem dX11_right_88 : decode cX11_right 88 = .ok (.iload 4, 2) := by decide +kernel
theorem dX11_right_90 : decode cX11_right 90 = .ok (.ifCond .ne 14, 3) := by decide +kernel
theorem dX11_right_93 : decode cX11_right 93 = .ok (.iload 6, 2) := by decide +kernel
theorem dX11_right_95 : decode cX11_right 95 = .ok (.ifCond .eq 7, 3) := by decide +kernel
theorem dX11_right_98 : decode cX11_right 98 = .ok (.iconst 1, 1) := by decide +kernel
theorem dX11_right_99 : decode cX11_right 99 = .ok (.goto 4, 3) := by decide +kernel
theorem dX11_right_102 : decode cX11_right 102 = .ok (.iconst 0, 1) := by decide +kernel
theorem dX11_right_103 : decode cX11_right 103 = .ok (.ireturn, 1) := by decide +kernel
theorem dX11_right_104 : decode cX11_right 104 = .ok (.iload 6, 2) := by decide +kernel
theorem dX11_right_106 : decode cX11_right 106 = .ok (.ifCond .eq 8, 3) := by decide +kernel
theorem dX11_right_109 : decode cX11_right 109 = .ok (.iload 5, 2) := by decide +kernel
theorem dX11_right_111 : decode cX11_right 111 = .ok (.goto 5, 3) := by decide +kernel
theorem dX11_right_114 : decode cX11_right 114 = .ok (.ldc 185, 2) := by decide +kernel
theorem dX11_right_116 : decode cX11_right 116 = .ok (.ireturn, 1) := by decide +kernel
theorem dX11_twice_0 : decode cX11_twice 0 = .ok (.aload_n 0, 1) := by decide +kernel
theorem dX11_twice_1 : decode cX11_twice 1 = .ok (.getfield 26, 3) := by decide +kernel
theorem dX11_twice_4 : decode cX11_twice 4 = .ok (.invokevirtual 137, 3) := by decide +kernel
theorem dX11_twice_7 : decode cX11_twice 7 = .ok (.ifCond .eq 17, 3) := by decide +kernel
theorem dX11_twice_10 : decode cX11_twice 10 = .ok (.aload_n 0, 1) := by decide +kernel
theorem dX11_twice_11 : decode cX11_twice 11 = .ok (.getfield 33, 3) := by decide +kernel
theorem dX11_twice_14 : decode cX11_twice 14 = .ok (.aload_n 0, 1) := by decide +kernel
theorem dX11_twice_15 : decode cX11_twice 15 = .ok (.getfield 26, 3) := by decide +kernel
theorem dX11_twice_18 : decode cX11_twice 18 = .ok (.invokevirtual 246, 3) := by decide +kernel
theorem dX11_twice_21 : decode cX11_twice 21 = .ok (.goto 5, 3) := by decide +kernel
theorem dX11_twice_24 : decode cX11_twice 24 = .ok (.ldc 129, 2) := by decide +kernel
theorem dX11_twice_26 : decode cX11_twice 26 = .ok (.ireturn, 1) := by decide +kernel
theorem dX11_seen_0 : decode cX11_seen 0 = .ok (.aload_n 0, 1) := by decide +kernel
theorem dX11_seen_1 : decode cX11_seen 1 = .ok (.getfield 26, 3) := by decide +kernel
theorem dX11_seen_4 : decode cX11_seen 4 = .ok (.invokevirtual 137, 3) := by decide +kernel
theorem dX11_seen_7 : decode cX11_seen 7 = .ok (.ifCond .ne 6, 3) := by decide +kernel
theorem dX11_seen_10 : decode cX11_seen 10 = .ok (.ldc 129, 2) := by decide +kernel
theorem dX11_seen_12 : decode cX11_seen 12 = .ok (.ireturn, 1) := by decide +kernel
theorem dX11_seen_13 : decode cX11_seen 13 = .ok (.iload_n 1, 1) := by decide +kernel
theorem dX11_seen_14 : decode cX11_seen 14 = .ok (.invokestatic 179, 3) := by decide +kernel
theorem dX11_seen_17 : decode cX11_seen 17 = .ok (.ifCond .eq 21, 3) := by decide +kernel
theorem dX11_seen_20 : decode cX11_seen 20 = .ok (.iload_n 2, 1) := by decide +kernel
theorem dX11_seen_21 : decode cX11_seen 21 = .ok (.invokestatic 51, 3) := by decide +kernel
theorem dX11_seen_24 : decode cX11_seen 24 = .ok (.ifCond .eq 14, 3) := by decide +kernel
theorem dX11_seen_27 : decode cX11_seen 27 = .ok (.iload 4, 2) := by decide +kernel
theorem dX11_seen_29 : decode cX11_seen 29 = .ok (.iconst 1, 1) := by decide +kernel
theorem dX11_seen_30 : decode cX11_seen 30 = .ok (.bipush 12, 2) := by decide +kernel
theorem dX11_seen_32 : decode cX11_seen 32 = .ok (.invokestatic 55, 3) := by decide +kernel
theorem dX11_seen_35 : decode cX11_seen 35 = .ok (.ifCond .ne 6, 3) := by decide +kernel
theorem dX11_seen_38 : decode cX11_seen 38 = .ok (.ldc 59, 2) := by decide +kernel
theorem dX11_seen_40 : decode cX11_seen 40 = .ok (.ireturn, 1) := by decide +kernel
theorem dX11_seen_41 : decode cX11_seen 41 = .ok (.aload_n 0, 1) := by decide +kernel
theorem dX11_seen_42 : decode cX11_seen 42 = .ok (.getfield 10, 3) := by decide +kernel
theorem dX11_seen_45 : decode cX11_seen 45 = .ok (.iload_n 2, 1) := by decide +kernel
theorem dX11_seen_46 : decode cX11_seen 46 = .ok (.iload_n 3, 1) := by decide +kernel
theorem dX11_seen_47 : decode cX11_seen 47 = .ok (.iload 4, 2) := by decide +kernel
theorem dX11_seen_49 : decode cX11_seen 49 = .ok (.invokevirtual 71, 3) := by decide +kernel
theorem dX11_seen_52 : decode cX11_seen 52 = .ok (.istore 5, 2) := by decide +kernel
theorem dX11_seen_54 : decode cX11_seen 54 = .ok (.iload 5, 2) := by decide +kernel
theorem dX11_seen_56 : decode cX11_seen 56 = .ok (.ifCond .eq 12, 3) := by decide +kernel
theorem dX11_seen_59 : decode cX11_seen 59 = .ok (.aload_n 0, 1) := by decide +kernel
theorem dX11_seen_60 : decode cX11_seen 60 = .ok (.iload 5, 2) := by decide +kernel
theorem dX11_seen_62 : decode cX11_seen 62 = .ok (.invokevirtual 60, 3) := by decide +kernel
theorem dX11_seen_65 : decode cX11_seen 65 = .ok (.goto 27, 3) := by decide +kernel
theorem dX11_seen_68 : decode cX11_seen 68 = .ok (.aload_n 0, 1) := by decide +kernel
theorem dX11_seen_69 : decode cX11_seen 69 = .ok (.aload_n 0, 1) := by decide +kernel
theorem dX11_seen_70 : decode cX11_seen 70 = .ok (.getfield 33, 3) := by decide +kernel
theorem dX11_seen_73 : decode cX11_seen 73 = .ok (.aload_n 0, 1) := by decide +kernel
theorem dX11_seen_74 : decode cX11_seen 74 = .ok (.getfield 26, 3) := by decide +kernel
theorem dX11_seen_77 : decode cX11_seen 77 = .ok (.iload_n 1, 1) := by decide +kernel
theorem dX11_seen_78 : decode cX11_seen 78 = .ok (.aload_n 0, 1) := by decide +kernel
theorem dX11_seen_79 : decode cX11_seen 79 = .ok (.getfield 10, 3) := by decide +kernel
theorem dX11_seen_82 : decode cX11_seen 82 = .ok (.iload_n 2, 1) := by decide +kernel
theorem dX11_seen_83 : decode cX11_seen 83 = .ok (.iload_n 3, 1) := by decide +kernel
theorem dX11_seen_84 : decode cX11_seen 84 = .ok (.iload 4, 2) := by decide +kernel
theorem dX11_seen_86 : decode cX11_seen 86 = .ok (.invokevirtual 249, 3) := by decide +kernel
theorem dX11_seen_89 : decode cX11_seen 89 = .ok (.invokevirtual 68, 3) := by decide +kernel
theorem dX11_seen_92 : decode cX11_seen 92 = .ok (.ireturn, 1) := by decide +kernel
theorem dX11_who_0 : decode cX11_who 0 = .ok (.aload_n 0, 1) := by decide +kernel
theorem dX11_who_1 : decode cX11_who 1 = .ok (.getfield 26, 3) := by decide +kernel
theorem dX11_who_4 : decode cX11_who 4 = .ok (.iload_n 1, 1) := by decide +kernel
theorem dX11_who_5 : decode cX11_who 5 = .ok (.invokevirtual 189, 3) := by decide +kernel
theorem dX11_who_8 : decode cX11_who 8 = .ok (.ifnull 21, 3) := by decide +kernel
theorem dX11_who_11 : decode cX11_who 11 = .ok (.iload_n 2, 1) := by decide +kernel
theorem dX11_who_12 : decode cX11_who 12 = .ok (.invokestatic 51, 3) := by decide +kernel
theorem dX11_who_15 : decode cX11_who 15 = .ok (.ifCond .eq 14, 3) := by decide +kernel
theorem dX11_who_18 : decode cX11_who 18 = .ok (.iload 4, 2) := by decide +kernel
theorem dX11_who_20 : decode cX11_who 20 = .ok (.iconst 1, 1) := by decide +kernel
theorem dX11_who_21 : decode cX11_who 21 = .ok (.bipush 12, 2) := by decide +kernel
theorem dX11_who_23 : decode cX11_who 23 = .ok (.invokestatic 55, 3) := by decide +kernel
theorem dX11_who_26 : decode cX11_who 26 = .ok (.ifCond .ne 6, 3) := by decide +kernel
theorem dX11_who_29 : decode cX11_who 29 = .ok (.ldc 59, 2) := by decide +kernel
theorem dX11_who_31 : decode cX11_who 31 = .ok (.ireturn, 1) := by decide +kernel
theorem dX11_who_32 : decode cX11_who 32 = .ok (.aload_n 0, 1) := by decide +kernel
theorem dX11_who_33 : decode cX11_who 33 = .ok (.getfield 10, 3) := by decide +kernel
theorem dX11_who_36 : decode cX11_who 36 = .ok (.iload_n 2, 1) := by decide +kernel
theorem dX11_who_37 : decode cX11_who 37 = .ok (.iload_n 3, 1) := by decide +kernel
theorem dX11_who_38 : decode cX11_who 38 = .ok (.iload 4, 2) := by decide +kernel
theorem dX11_who_40 : decode cX11_who 40 = .ok (.invokevirtual 71, 3) := by decide +kernel
theorem dX11_who_43 : decode cX11_who 43 = .ok (.istore 5, 2) := by decide +kernel
theorem dX11_who_45 : decode cX11_who 45 = .ok (.iload 5, 2) := by decide +kernel
theorem dX11_who_47 : decode cX11_who 47 = .ok (.ifCond .eq 12, 3) := by decide +kernel
theorem dX11_who_50 : decode cX11_who 50 = .ok (.aload_n 0, 1) := by decide +kernel
theorem dX11_who_51 : decode cX11_who 51 = .ok (.iload 5, 2) := by decide +kernel
theorem dX11_who_53 : decode cX11_who 53 = .ok (.invokevirtual 60, 3) := by decide +kernel
theorem dX11_who_56 : decode cX11_who 56 = .ok (.goto 27, 3) := by decide +kernel
theorem dX11_who_59 : decode cX11_who 59 = .ok (.aload_n 0, 1) := by decide +kernel
theorem dX11_who_60 : decode cX11_who 60 = .ok (.aload_n 0, 1) := by decide +kernel
theorem dX11_who_61 : decode cX11_who 61 = .ok (.getfield 33, 3) := by decide +kernel
theorem dX11_who_64 : decode cX11_who 64 = .ok (.aload_n 0, 1) := by decide +kernel
theorem dX11_who_65 : decode cX11_who 65 = .ok (.getfield 26, 3) := by decide +kernel
theorem dX11_who_68 : decode cX11_who 68 = .ok (.iload_n 1, 1) := by decide +kernel
theorem dX11_who_69 : decode cX11_who 69 = .ok (.aload_n 0, 1) := by decide +kernel
theorem dX11_who_70 : decode cX11_who 70 = .ok (.getfield 10, 3) := by decide +kernel
theorem dX11_who_73 : decode cX11_who 73 = .ok (.iload_n 2, 1) := by decide +kernel
theorem dX11_who_74 : decode cX11_who 74 = .ok (.iload_n 3, 1) := by decide +kernel
theorem dX11_who_75 : decode cX11_who 75 = .ok (.iload 4, 2) := by decide +kernel
theorem dX11_who_77 : decode cX11_who 77 = .ok (.invokevirtual 253, 3) := by decide +kernel
theorem dX11_who_80 : decode cX11_who 80 = .ok (.invokevirtual 68, 3) := by decide +kernel
theorem dX11_who_83 : decode cX11_who 83 = .ok (.ireturn, 1) := by decide +kernel
theorem dX11_pairs_0 : decode cX11_pairs 0 = .ok (.aload_n 0, 1) := by decide +kernel
theorem dX11_pairs_1 : decode cX11_pairs 1 = .ok (.getfield 26, 3) := by decide +kernel
theorem dX11_pairs_4 : decode cX11_pairs 4 = .ok (.invokevirtual 137, 3) := by decide +kernel
theorem dX11_pairs_7 : decode cX11_pairs 7 = .ok (.ifCond .ne 6, 3) := by decide +kernel
theorem dX11_pairs_10 : decode cX11_pairs 10 = .ok (.ldc 129, 2) := by decide +kernel
theorem dX11_pairs_12 : decode cX11_pairs 12 = .ok (.ireturn, 1) := by decide +kernel
theorem dX11_pairs_13 : decode cX11_pairs 13 = .ok (.iload_n 1, 1) := by decide +kernel
theorem dX11_pairs_14 : decode cX11_pairs 14 = .ok (.iconst 1, 1) := by decide +kernel
theorem dX11_pairs_15 : decode cX11_pairs 15 = .ok (.bipush 60, 2) := by decide +kernel
theorem dX11_pairs_17 : decode cX11_pairs 17 = .ok (.invokestatic 55, 3) := by decide +kernel
theorem dX11_pairs_20 : decode cX11_pairs 20 = .ok (.ifCond .eq 18, 3) := by decide +kernel
theorem dX11_pairs_23 : decode cX11_pairs 23 = .ok (.aload_n 0, 1) := by decide +kernel
theorem dX11_pairs_24 : decode cX11_pairs 24 = .ok (.getfield 33, 3) := by decide +kernel
theorem dX11_pairs_27 : decode cX11_pairs 27 = .ok (.aload_n 0, 1) := by decide +kernel
theorem dX11_pairs_28 : decode cX11_pairs 28 = .ok (.getfield 26, 3) := by decide +kernel
theorem dX11_pairs_31 : decode cX11_pairs 31 = .ok (.iload_n 1, 1) := by decide +kernel
theorem dX11_pairs_32 : decode cX11_pairs 32 = .ok (.invokevirtual 256, 3) := by decide +kernel
theorem dX11_pairs_35 : decode cX11_pairs 35 = .ok (.goto 5, 3) := by decide +kernel
theorem dX11_pairs_38 : decode cX11_pairs 38 = .ok (.ldc 59, 2) := by decide +kernel
theorem dX11_pairs_40 : decode cX11_pairs 40 = .ok (.ireturn, 1) := by decide +kernel
theorem dX11_forgets_0 : decode cX11_forgets 0 = .ok (.aload_n 0, 1) := by decide +kernel
theorem dX11_forgets_1 : decode cX11_forgets 1 = .ok (.getfield 26, 3) := by decide +kernel
theorem dX11_forgets_4 : decode cX11_forgets 4 = .ok (.invokevirtual 137, 3) := by decide +kernel
theorem dX11_forgets_7 : decode cX11_forgets 7 = .ok (.ifCond .ne 7, 3) := by decide +kernel
theorem dX11_forgets_10 : decode cX11_forgets 10 = .ok (.ldc2_w 259, 3) := by decide +kernel
theorem dX11_forgets_13 : decode cX11_forgets 13 = .ok (.lreturn, 1) := by decide +kernel
theorem dX11_forgets_14 : decode cX11_forgets 14 = .ok (.iload_n 1, 1) := by decide +kernel
theorem dX11_forgets_15 : decode cX11_forgets 15 = .ok (.invokestatic 152, 3) := by decide +kernel
theorem dX11_forgets_18 : decode cX11_forgets 18 = .ok (.ifCond .eq 20, 3) := by decide +kernel
theorem dX11_forgets_21 : decode cX11_forgets 21 = .ok (.iload_n 2, 1) := by decide +kernel
theorem dX11_forgets_22 : decode cX11_forgets 22 = .ok (.invokestatic 179, 3) := by decide +kernel
theorem dX11_forgets_25 : decode cX11_forgets 25 = .ok (.ifCond .eq 13, 3) := by decide +kernel
theorem dX11_forgets_28 : decode cX11_forgets 28 = .ok (.iload_n 3, 1) := by decide +kernel
theorem dX11_forgets_29 : decode cX11_forgets 29 = .ok (.iconst 0, 1) := by decide +kernel
theorem dX11_forgets_30 : decode cX11_forgets 30 = .ok (.bipush 8, 2) := by decide +kernel
theorem dX11_forgets_32 : decode cX11_forgets 32 = .ok (.invokestatic 55, 3) := by decide +kernel
theorem dX11_forgets_35 : decode cX11_forgets 35 = .ok (.ifCond .ne 7, 3) := by decide +kernel
theorem dX11_forgets_38 : decode cX11_forgets 38 = .ok (.ldc2_w 261, 3) := by decide +kernel
theorem dX11_forgets_41 : decode cX11_forgets 41 = .ok (.lreturn, 1) := by decide +kernel
theorem dX11_forgets_42 : decode cX11_forgets 42 = .ok (.iload 4, 2) := by decide +kernel
theorem dX11_forgets_44 : decode cX11_forgets 44 = .ok (.iconst 0, 1) := by decide +kernel
theorem dX11_forgets_45 : decode cX11_forgets 45 = .ok (.bipush 10, 2) := by decide +kernel
theorem dX11_forgets_47 : decode cX11_forgets 47 = .ok (.invokestatic 55, 3) := by decide +kernel
theorem dX11_forgets_50 : decode cX11_forgets 50 = .ok (.ifCond .eq 13, 3) := by decide +kernel
theorem dX11_forgets_53 : decode cX11_forgets 53 = .ok (.iload 5, 2) := by decide +kernel
theorem dX11_forgets_55 : decode cX11_forgets 55 = .ok (.iconst 0, 1) := by decide +kernel
theorem dX11_forgets_56 : decode cX11_forgets 56 = .ok (.iconst 1, 1) := by decide +kernel
theorem dX11_forgets_57 : decode cX11_forgets 57 = .ok (.invokestatic 55, 3) := by decide +kernel
theorem dX11_forgets_60 : decode cX11_forgets 60 = .ok (.ifCond .ne 7, 3) := by decide +kernel
theorem dX11_forgets_63 : decode cX11_forgets 63 = .ok (.ldc2_w 261, 3) := by decide +kernel
theorem dX11_forgets_66 : decode cX11_forgets 66 = .ok (.lreturn, 1) := by decide +kernel
theorem dX11_forgets_67 : decode cX11_forgets 67 = .ok (.aload_n 0, 1) := by decide +kernel
theorem dX11_forgets_68 : decode cX11_forgets 68 = .ok (.getfield 33, 3) := by decide +kernel
theorem dX11_forgets_71 : decode cX11_forgets 71 = .ok (.aload_n 0, 1) := by decide +kernel
theorem dX11_forgets_72 : decode cX11_forgets 72 = .ok (.getfield 26, 3) := by decide +kernel
theorem dX11_forgets_75 : decode cX11_forgets 75 = .ok (.iload_n 1, 1) := by decide +kernel
theorem dX11_forgets_76 : decode cX11_forgets 76 = .ok (.iload_n 2, 1) := by decide +kernel
theorem dX11_forgets_77 : decode cX11_forgets 77 = .ok (.iload_n 3, 1) := by decide +kernel
theorem dX11_forgets_78 : decode cX11_forgets 78 = .ok (.iload 4, 2) := by decide +kernel
theorem dX11_forgets_80 : decode cX11_forgets 80 = .ok (.invokevirtual 263, 3) := by decide +kernel
theorem dX11_forgets_83 : decode cX11_forgets 83 = .ok (.lstore 6, 2) := by decide +kernel
theorem dX11_forgets_85 : decode cX11_forgets 85 = .ok (.lconst 1, 1) := by decide +kernel
theorem dX11_forgets_86 : decode cX11_forgets 86 = .ok (.lstore 8, 2) := by decide +kernel
theorem dX11_forgets_88 : decode cX11_forgets 88 = .ok (.iconst 0, 1) := by decide +kernel
theorem dX11_forgets_89 : decode cX11_forgets 89 = .ok (.istore 10, 2) := by decide +kernel
theorem dX11_forgets_91 : decode cX11_forgets 91 = .ok (.iload 10, 2) := by decide +kernel
theorem dX11_forgets_93 : decode cX11_forgets 93 = .ok (.iload_n 3, 1) := by decide +kernel
theorem dX11_forgets_94 : decode cX11_forgets 94 = .ok (.if_icmp .ge 17, 3) := by decide +kernel
theorem dX11_forgets_97 : decode cX11_forgets 97 = .ok (.lload 8, 2) := by decide +kernel
theorem dX11_forgets_99 : decode cX11_forgets 99 = .ok (.ldc2_w 267, 3) := by decide +kernel
theorem dX11_forgets_102 : decode cX11_forgets 102 = .ok (.lmul, 1) := by decide +kernel
theorem dX11_forgets_103 : decode cX11_forgets 103 = .ok (.lstore 8, 2) := by decide +kernel
theorem dX11_forgets_105 : decode cX11_forgets 105 = .ok (.iinc 10 1, 3) := by decide +kernel
theorem dX11_forgets_108 : decode cX11_forgets 108 = .ok (.goto (-17), 3) := by decide +kernel
theorem dX11_forgets_111 : decode cX11_forgets 111 = .ok (.lload 6, 2) := by decide +kernel
theorem dX11_forgets_113 : decode cX11_forgets 113 = .ok (.lload 8, 2) := by decide +kernel
theorem dX11_forgets_115 : decode cX11_forgets 115 = .ok (.invokestatic 269, 3) := by decide +kernel
theorem dX11_forgets_118 : decode cX11_forgets 118 = .ok (.lstore 10, 2) := by decide +kernel
theorem dX11_forgets_120 : decode cX11_forgets 120 = .ok (.lload 10, 2) := by decide +kernel
theorem dX11_forgets_122 : decode cX11_forgets 122 = .ok (.lconst 0, 1) := by decide +kernel
theorem dX11_forgets_123 : decode cX11_forgets 123 = .ok (.lcmp, 1) := by decide +kernel
theorem dX11_forgets_124 : decode cX11_forgets 124 = .ok (.ifCond .ne 7, 3) := by decide +kernel
theorem dX11_forgets_127 : decode cX11_forgets 127 = .ok (.ldc2_w 261, 3) := by decide +kernel
theorem dX11_forgets_130 : decode cX11_forgets 130 = .ok (.lreturn, 1) := by decide +kernel
theorem dX11_forgets_131 : decode cX11_forgets 131 = .ok (.iload 5, 2) := by decide +kernel
theorem dX11_forgets_133 : decode cX11_forgets 133 = .ok (.ifCond .ne 11, 3) := by decide +kernel
theorem dX11_forgets_136 : decode cX11_forgets 136 = .ok (.lload 6, 2) := by decide +kernel
theorem dX11_forgets_138 : decode cX11_forgets 138 = .ok (.lload 10, 2) := by decide +kernel
theorem dX11_forgets_140 : decode cX11_forgets 140 = .ok (.ldiv, 1) := by decide +kernel
theorem dX11_forgets_141 : decode cX11_forgets 141 = .ok (.goto 8, 3) := by decide +kernel
theorem dX11_forgets_144 : decode cX11_forgets 144 = .ok (.lload 8, 2) := by decide +kernel
theorem dX11_forgets_146 : decode cX11_forgets 146 = .ok (.lload 10, 2) := by decide +kernel
theorem dX11_forgets_148 : decode cX11_forgets 148 = .ok (.ldiv, 1) := by decide +kernel
theorem dX11_forgets_149 : decode cX11_forgets 149 = .ok (.lreturn, 1) := by decide +kernel
theorem dX11_drawn_0 : decode cX11_drawn 0 = .ok (.aload_n 0, 1) := by decide +kernel
theorem dX11_drawn_1 : decode cX11_drawn 1 = .ok (.getfield 26, 3) := by decide +kernel
theorem dX11_drawn_4 : decode cX11_drawn 4 = .ok (.invokevirtual 137, 3) := by decide +kernel
theorem dX11_drawn_7 : decode cX11_drawn 7 = .ok (.ifCond .ne 6, 3) := by decide +kernel
theorem dX11_drawn_10 : decode cX11_drawn 10 = .ok (.ldc 129, 2) := by decide +kernel
theorem dX11_drawn_12 : decode cX11_drawn 12 = .ok (.ireturn, 1) := by decide +kernel
theorem dX11_drawn_13 : decode cX11_drawn 13 = .ok (.iload_n 1, 1) := by decide +kernel
theorem dX11_drawn_14 : decode cX11_drawn 14 = .ok (.iconst 0, 1) := by decide +kernel
theorem dX11_drawn_15 : decode cX11_drawn 15 = .ok (.bipush 60, 2) := by decide +kernel
theorem dX11_drawn_17 : decode cX11_drawn 17 = .ok (.invokestatic 55, 3) := by decide +kernel
theorem dX11_drawn_20 : decode cX11_drawn 20 = .ok (.ifCond .eq 23, 3) := by decide +kernel
theorem dX11_drawn_23 : decode cX11_drawn 23 = .ok (.iload_n 2, 1) := by decide +kernel
theorem dX11_drawn_24 : decode cX11_drawn 24 = .ok (.iconst 1, 1) := by decide +kernel
theorem dX11_drawn_25 : decode cX11_drawn 25 = .ok (.ldc_w 273, 3) := by decide +kernel
theorem dX11_drawn_28 : decode cX11_drawn 28 = .ok (.invokestatic 55, 3) := by decide +kernel
theorem dX11_drawn_31 : decode cX11_drawn 31 = .ok (.ifCond .eq 12, 3) := by decide +kernel
theorem dX11_drawn_34 : decode cX11_drawn 34 = .ok (.iload_n 3, 1) := by decide +kernel
theorem dX11_drawn_35 : decode cX11_drawn 35 = .ok (.iconst 0, 1) := by decide +kernel
theorem dX11_drawn_36 : decode cX11_drawn 36 = .ok (.iconst 1, 1) := by decide +kernel
theorem dX11_drawn_37 : decode cX11_drawn 37 = .ok (.invokestatic 55, 3) := by decide +kernel
theorem dX11_drawn_40 : decode cX11_drawn 40 = .ok (.ifCond .ne 6, 3) := by decide +kernel
theorem dX11_drawn_43 : decode cX11_drawn 43 = .ok (.ldc 59, 2) := by decide +kernel
theorem dX11_drawn_45 : decode cX11_drawn 45 = .ok (.ireturn, 1) := by decide +kernel
theorem dX11_drawn_46 : decode cX11_drawn 46 = .ok (.iload_n 3, 1) := by decide +kernel
theorem dX11_drawn_47 : decode cX11_drawn 47 = .ok (.ifCond .ne 19, 3) := by decide +kernel
theorem dX11_drawn_50 : decode cX11_drawn 50 = .ok (.aload_n 0, 1) := by decide +kernel
theorem dX11_drawn_51 : decode cX11_drawn 51 = .ok (.getfield 33, 3) := by decide +kernel
theorem dX11_drawn_54 : decode cX11_drawn 54 = .ok (.aload_n 0, 1) := by decide +kernel
theorem dX11_drawn_55 : decode cX11_drawn 55 = .ok (.getfield 26, 3) := by decide +kernel
theorem dX11_drawn_58 : decode cX11_drawn 58 = .ok (.iload_n 1, 1) := by decide +kernel
theorem dX11_drawn_59 : decode cX11_drawn 59 = .ok (.iload_n 2, 1) := by decide +kernel
theorem dX11_drawn_60 : decode cX11_drawn 60 = .ok (.invokevirtual 274, 3) := by decide +kernel
theorem dX11_drawn_63 : decode cX11_drawn 63 = .ok (.goto 11, 3) := by decide +kernel
theorem dX11_drawn_66 : decode cX11_drawn 66 = .ok (.aload_n 0, 1) := by decide +kernel
theorem dX11_drawn_67 : decode cX11_drawn 67 = .ok (.getfield 26, 3) := by decide +kernel
theorem dX11_drawn_70 : decode cX11_drawn 70 = .ok (.iload_n 1, 1) := by decide +kernel
theorem dX11_drawn_71 : decode cX11_drawn 71 = .ok (.invokevirtual 201, 3) := by decide +kernel
theorem dX11_drawn_74 : decode cX11_drawn 74 = .ok (.ireturn, 1) := by decide +kernel
theorem dX11_image_0 : decode cX11_image 0 = .ok (.iload_n 1, 1) := by decide +kernel
theorem dX11_image_1 : decode cX11_image 1 = .ok (.iconst 0, 1) := by decide +kernel
theorem dX11_image_2 : decode cX11_image 2 = .ok (.iconst 1, 1) := by decide +kernel
theorem dX11_image_3 : decode cX11_image 3 = .ok (.invokestatic 55, 3) := by decide +kernel
theorem dX11_image_6 : decode cX11_image 6 = .ok (.ifCond .ne 6, 3) := by decide +kernel
theorem dX11_image_9 : decode cX11_image 9 = .ok (.ldc 59, 2) := by decide +kernel
theorem dX11_image_11 : decode cX11_image 11 = .ok (.ireturn, 1) := by decide +kernel
theorem dX11_image_12 : decode cX11_image 12 = .ok (.aload_n 0, 1) := by decide +kernel
theorem dX11_image_13 : decode cX11_image 13 = .ok (.getfield 26, 3) := by decide +kernel
theorem dX11_image_16 : decode cX11_image 16 = .ok (.invokevirtual 137, 3) := by decide +kernel
theorem dX11_image_19 : decode cX11_image 19 = .ok (.ifCond .ne 6, 3) := by decide +kernel
theorem dX11_image_22 : decode cX11_image 22 = .ok (.ldc 129, 2) := by decide +kernel
theorem dX11_image_24 : decode cX11_image 24 = .ok (.ireturn, 1) := by decide +kernel
theorem dX11_image_25 : decode cX11_image 25 = .ok (.aload_n 0, 1) := by decide +kernel
theorem dX11_image_26 : decode cX11_image 26 = .ok (.aload_n 0, 1) := by decide +kernel
theorem dX11_image_27 : decode cX11_image 27 = .ok (.getfield 48, 3) := by decide +kernel
theorem dX11_image_30 : decode cX11_image 30 = .ok (.iload_n 1, 1) := by decide +kernel
theorem dX11_image_31 : decode cX11_image 31 = .ok (.invokevirtual 277, 3) := by decide +kernel
theorem dX11_image_34 : decode cX11_image 34 = .ok (.iconst 1, 1) := by decide +kernel
theorem dX11_image_35 : decode cX11_image 35 = .ok (.ireturn, 1) := by decide +kernel
theorem dX11_restore_0 : decode cX11_restore 0 = .ok (.iload_n 1, 1) := by decide +kernel
theorem dX11_restore_1 : decode cX11_restore 1 = .ok (.iconst 0, 1) := by decide +kernel
theorem dX11_restore_2 : decode cX11_restore 2 = .ok (.iconst 1, 1) := by decide +kernel
theorem dX11_restore_3 : decode cX11_restore 3 = .ok (.invokestatic 55, 3) := by decide +kernel
theorem dX11_restore_6 : decode cX11_restore 6 = .ok (.ifCond .ne 6, 3) := by decide +kernel
theorem dX11_restore_9 : decode cX11_restore 9 = .ok (.ldc 59, 2) := by decide +kernel
theorem dX11_restore_11 : decode cX11_restore 11 = .ok (.ireturn, 1) := by decide +kernel
theorem dX11_restore_12 : decode cX11_restore 12 = .ok (.aload_n 0, 1) := by decide +kernel
theorem dX11_restore_13 : decode cX11_restore 13 = .ok (.getfield 48, 3) := by decide +kernel
theorem dX11_restore_16 : decode cX11_restore 16 = .ok (.iload_n 1, 1) := by decide +kernel
theorem dX11_restore_17 : decode cX11_restore 17 = .ok (.aaload, 1) := by decide +kernel
theorem dX11_restore_18 : decode cX11_restore 18 = .ok (.astore_n 2, 1) := by decide +kernel
theorem dX11_restore_19 : decode cX11_restore 19 = .ok (.aload_n 2, 1) := by decide +kernel
theorem dX11_restore_20 : decode cX11_restore 20 = .ok (.ifnonnull 6, 3) := by decide +kernel
theorem dX11_restore_23 : decode cX11_restore 23 = .ok (.ldc 129, 2) := by decide +kernel
theorem dX11_restore_25 : decode cX11_restore 25 = .ok (.ireturn, 1) := by decide +kernel
theorem dX11_restore_26 : decode cX11_restore 26 = .ok (.aload_n 0, 1) := by decide +kernel
theorem dX11_restore_27 : decode cX11_restore 27 = .ok (.getfield 26, 3) := by decide +kernel
theorem dX11_restore_30 : decode cX11_restore 30 = .ok (.aload_n 2, 1) := by decide +kernel
theorem dX11_restore_31 : decode cX11_restore 31 = .ok (.invokevirtual 116, 3) := by decide +kernel
theorem dX11_restore_34 : decode cX11_restore 34 = .ok (.aload_n 0, 1) := by decide +kernel
theorem dX11_restore_35 : decode cX11_restore 35 = .ok (.invokevirtual 120, 3) := by decide +kernel
theorem dX11_restore_38 : decode cX11_restore 38 = .ok (.iconst 1, 1) := by decide +kernel
theorem dX11_restore_39 : decode cX11_restore 39 = .ok (.ireturn, 1) := by decide +kernel
theorem dX11_kind_0 : decode cX11_kind 0 = .ok (.aload_n 0, 1) := by decide +kernel
theorem dX11_kind_1 : decode cX11_kind 1 = .ok (.getfield 26, 3) := by decide +kernel
theorem dX11_kind_4 : decode cX11_kind 4 = .ok (.iload_n 1, 1) := by decide +kernel
theorem dX11_kind_5 : decode cX11_kind 5 = .ok (.invokevirtual 189, 3) := by decide +kernel
theorem dX11_kind_8 : decode cX11_kind 8 = .ok (.astore_n 2, 1) := by decide +kernel
theorem dX11_kind_9 : decode cX11_kind 9 = .ok (.aload_n 2, 1) := by decide +kernel
theorem dX11_kind_10 : decode cX11_kind 10 = .ok (.ifnonnull 8, 3) := by decide +kernel
theorem dX11_kind_13 : decode cX11_kind 13 = .ok (.ldc 59, 2) := by decide +kernel
theorem dX11_kind_15 : decode cX11_kind 15 = .ok (.goto 7, 3) := by decide +kernel
theorem dX11_kind_18 : decode cX11_kind 18 = .ok (.aload_n 2, 1) := by decide +kernel
theorem dX11_kind_19 : decode cX11_kind 19 = .ok (.invokevirtual 281, 3) := by decide +kernel
theorem dX11_kind_22 : decode cX11_kind 22 = .ok (.ireturn, 1) := by decide +kernel
theorem dX11_as_0 : decode cX11_as 0 = .ok (.aload_n 0, 1) := by decide +kernel
theorem dX11_as_1 : decode cX11_as 1 = .ok (.getfield 26, 3) := by decide +kernel
theorem dX11_as_4 : decode cX11_as 4 = .ok (.iload_n 1, 1) := by decide +kernel
theorem dX11_as_5 : decode cX11_as 5 = .ok (.invokevirtual 189, 3) := by decide +kernel
theorem dX11_as_8 : decode cX11_as 8 = .ok (.astore_n 3, 1) := by decide +kernel
theorem dX11_as_9 : decode cX11_as 9 = .ok (.aload_n 3, 1) := by decide +kernel
theorem dX11_as_10 : decode cX11_as 10 = .ok (.ifnull 12, 3) := by decide +kernel
theorem dX11_as_13 : decode cX11_as 13 = .ok (.iload_n 2, 1) := by decide +kernel
theorem dX11_as_14 : decode cX11_as 14 = .ok (.iconst 0, 1) := by decide +kernel
theorem dX11_as_15 : decode cX11_as 15 = .ok (.iconst 5, 1) := by decide +kernel
theorem dX11_as_16 : decode cX11_as 16 = .ok (.invokestatic 55, 3) := by decide +kernel
theorem dX11_as_19 : decode cX11_as 19 = .ok (.ifCond .ne 6, 3) := by decide +kernel
theorem dX11_as_22 : decode cX11_as 22 = .ok (.ldc 59, 2) := by decide +kernel
theorem dX11_as_24 : decode cX11_as 24 = .ok (.ireturn, 1) := by decide +kernel
theorem dX11_as_25 : decode cX11_as 25 = .ok (.aload_n 3, 1) := by decide +kernel
theorem dX11_as_26 : decode cX11_as 26 = .ok (.iload_n 2, 1) := by decide +kernel
theorem dX11_as_27 : decode cX11_as 27 = .ok (.invokestatic 285, 3) := by decide +kernel
theorem dX11_as_30 : decode cX11_as 30 = .ok (.ifCond .eq 14, 3) := by decide +kernel
theorem dX11_as_33 : decode cX11_as 33 = .ok (.aload_n 0, 1) := by decide +kernel
theorem dX11_as_34 : decode cX11_as 34 = .ok (.aload_n 3, 1) := by decide +kernel
theorem dX11_as_35 : decode cX11_as 35 = .ok (.getfield 289, 3) := by decide +kernel
theorem dX11_as_38 : decode cX11_as 38 = .ok (.invokevirtual 68, 3) := by decide +kernel
theorem dX11_as_41 : decode cX11_as 41 = .ok (.goto 8, 3) := by decide +kernel
theorem dX11_as_44 : decode cX11_as 44 = .ok (.aload_n 0, 1) := by decide +kernel
theorem dX11_as_45 : decode cX11_as 45 = .ok (.iconst 3, 1) := by decide +kernel
theorem dX11_as_46 : decode cX11_as 46 = .ok (.invokevirtual 60, 3) := by decide +kernel
theorem dX11_as_49 : decode cX11_as 49 = .ok (.ireturn, 1) := by decide +kernel
theorem dX11_ask_0 : decode cX11_ask 0 = .ok (.aload_n 0, 1) := by decide +kernel
theorem dX11_ask_1 : decode cX11_ask 1 = .ok (.getfield 26, 3) := by decide +kernel
theorem dX11_ask_4 : decode cX11_ask 4 = .ok (.iload_n 1, 1) := by decide +kernel
theorem dX11_ask_5 : decode cX11_ask 5 = .ok (.invokevirtual 189, 3) := by decide +kernel
theorem dX11_ask_8 : decode cX11_ask 8 = .ok (.astore_n 3, 1) := by decide +kernel
theorem dX11_ask_9 : decode cX11_ask 9 = .ok (.aload_n 3, 1) := by decide +kernel
theorem dX11_ask_10 : decode cX11_ask 10 = .ok (.ifnull 12, 3) := by decide +kernel
theorem dX11_ask_13 : decode cX11_ask 13 = .ok (.iload_n 2, 1) := by decide +kernel
theorem dX11_ask_14 : decode cX11_ask 14 = .ok (.iconst 0, 1) := by decide +kernel
theorem dX11_ask_15 : decode cX11_ask 15 = .ok (.iconst 1, 1) := by decide +kernel
theorem dX11_ask_16 : decode cX11_ask 16 = .ok (.invokestatic 55, 3) := by decide +kernel
theorem dX11_ask_19 : decode cX11_ask 19 = .ok (.ifCond .ne 6, 3) := by decide +kernel
theorem dX11_ask_22 : decode cX11_ask 22 = .ok (.ldc 59, 2) := by decide +kernel
theorem dX11_ask_24 : decode cX11_ask 24 = .ok (.ireturn, 1) := by decide +kernel
theorem dX11_ask_25 : decode cX11_ask 25 = .ok (.aload_n 0, 1) := by decide +kernel
theorem dX11_ask_26 : decode cX11_ask 26 = .ok (.getfield 40, 3) := by decide +kernel
theorem dX11_ask_29 : decode cX11_ask 29 = .ok (.iconst 0, 1) := by decide +kernel
theorem dX11_ask_30 : decode cX11_ask 30 = .ok (.putfield 292, 3) := by decide +kernel
theorem dX11_ask_33 : decode cX11_ask 33 = .ok (.iload_n 2, 1) := by decide +kernel
theorem dX11_ask_34 : decode cX11_ask 34 = .ok (.ifCond .ne 22, 3) := by decide +kernel
theorem dX11_ask_37 : decode cX11_ask 37 = .ok (.aload_n 3, 1) := by decide +kernel
theorem dX11_ask_38 : decode cX11_ask 38 = .ok (.aload_n 0, 1) := by decide +kernel
theorem dX11_ask_39 : decode cX11_ask 39 = .ok (.getfield 40, 3) := by decide +kernel
theorem dX11_ask_42 : decode cX11_ask 42 = .ok (.aload_n 0, 1) := by decide +kernel
theorem dX11_ask_43 : decode cX11_ask 43 = .ok (.getfield 26, 3) := by decide +kernel
theorem dX11_ask_46 : decode cX11_ask 46 = .ok (.getfield 149, 3) := by decide +kernel
theorem dX11_ask_49 : decode cX11_ask 49 = .ok (.iconst 0, 1) := by decide +kernel
theorem dX11_ask_50 : decode cX11_ask 50 = .ok (.invokevirtual 293, 3) := by decide +kernel
theorem dX11_ask_53 : decode cX11_ask 53 = .ok (.goto 19, 3) := by decide +kernel
theorem dX11_ask_56 : decode cX11_ask 56 = .ok (.aload_n 3, 1) := by decide +kernel
theorem dX11_ask_57 : decode cX11_ask 57 = .ok (.aload_n 0, 1) := by decide +kernel
theorem dX11_ask_58 : decode cX11_ask 58 = .ok (.getfield 40, 3) := by decide +kernel
theorem dX11_ask_61 : decode cX11_ask 61 = .ok (.aload_n 0, 1) := by decide +kernel
theorem dX11_ask_62 : decode cX11_ask 62 = .ok (.getfield 26, 3) := by decide +kernel
theorem dX11_ask_65 : decode cX11_ask 65 = .ok (.getfield 149, 3) := by decide +kernel
theorem dX11_ask_68 : decode cX11_ask 68 = .ok (.iconst 0, 1) := by decide +kernel
theorem dX11_ask_69 : decode cX11_ask 69 = .ok (.invokevirtual 297, 3) := by decide +kernel
theorem dX11_ask_72 : decode cX11_ask 72 = .ok (.ireturn, 1) := by decide +kernel
theorem dX11_trace_0 : decode cX11_trace 0 = .ok (.aload_n 0, 1) := by decide +kernel
theorem dX11_trace_1 : decode cX11_trace 1 = .ok (.getfield 40, 3) := by decide +kernel
theorem dX11_trace_4 : decode cX11_trace 4 = .ok (.iload_n 1, 1) := by decide +kernel
theorem dX11_trace_5 : decode cX11_trace 5 = .ok (.invokevirtual 300, 3) := by decide +kernel
theorem dX11_trace_8 : decode cX11_trace 8 = .ok (.ireturn, 1) := by decide +kernel
theorem dX11_count_0 : decode cX11_count 0 = .ok (.iload_n 1, 1) := by decide +kernel
theorem dX11_count_1 : decode cX11_count 1 = .ok (.tableswitch 108 0 7 #[47, 55, 63, 71, 79, 87, 95, 100], 47) := by decide +kernel
theorem dX11_count_48 : decode cX11_count 48 = .ok (.aload_n 0, 1) := by decide +kernel
theorem dX11_count_49 : decode cX11_count 49 = .ok (.getfield 10, 3) := by decide +kernel
theorem dX11_count_52 : decode cX11_count 52 = .ok (.invokevirtual 303, 3) := by decide +kernel
theorem dX11_count_55 : decode cX11_count 55 = .ok (.ireturn, 1) := by decide +kernel
theorem dX11_count_56 : decode cX11_count 56 = .ok (.aload_n 0, 1) := by decide +kernel
theorem dX11_count_57 : decode cX11_count 57 = .ok (.getfield 26, 3) := by decide +kernel
theorem dX11_count_60 : decode cX11_count 60 = .ok (.getfield 166, 3) := by decide +kernel
theorem dX11_count_63 : decode cX11_count 63 = .ok (.ireturn, 1) := by decide +kernel
theorem dX11_count_64 : decode cX11_count 64 = .ok (.aload_n 0, 1) := by decide +kernel
theorem dX11_count_65 : decode cX11_count 65 = .ok (.getfield 26, 3) := by decide +kernel
theorem dX11_count_68 : decode cX11_count 68 = .ok (.getfield 176, 3) := by decide +kernel
theorem dX11_count_71 : decode cX11_count 71 = .ok (.ireturn, 1) := by decide +kernel
theorem dX11_count_72 : decode cX11_count 72 = .ok (.aload_n 0, 1) := by decide +kernel
theorem dX11_count_73 : decode cX11_count 73 = .ok (.getfield 26, 3) := by decide +kernel
theorem dX11_count_76 : decode cX11_count 76 = .ok (.getfield 123, 3) := by decide +kernel
theorem dX11_count_79 : decode cX11_count 79 = .ok (.ireturn, 1) := by decide +kernel
theorem dX11_count_80 : decode cX11_count 80 = .ok (.aload_n 0, 1) := by decide +kernel
theorem dX11_count_81 : decode cX11_count 81 = .ok (.getfield 26, 3) := by decide +kernel
theorem dX11_count_84 : decode cX11_count 84 = .ok (.getfield 140, 3) := by decide +kernel
theorem dX11_count_87 : decode cX11_count 87 = .ok (.ireturn, 1) := by decide +kernel
theorem dX11_count_88 : decode cX11_count 88 = .ok (.aload_n 0, 1) := by decide +kernel
theorem dX11_count_89 : decode cX11_count 89 = .ok (.getfield 26, 3) := by decide +kernel
theorem dX11_count_92 : decode cX11_count 92 = .ok (.invokevirtual 306, 3) := by decide +kernel
theorem dX11_count_95 : decode cX11_count 95 = .ok (.ireturn, 1) := by decide +kernel
theorem dX11_count_96 : decode cX11_count 96 = .ok (.aload_n 0, 1) := by decide +kernel
theorem dX11_count_97 : decode cX11_count 97 = .ok (.getfield 126, 3) := by decide +kernel
theorem dX11_count_100 : decode cX11_count 100 = .ok (.ireturn, 1) := by decide +kernel
theorem dX11_count_101 : decode cX11_count 101 = .ok (.aload_n 0, 1) := by decide +kernel
theorem dX11_count_102 : decode cX11_count 102 = .ok (.getfield 19, 3) := by decide +kernel
theorem dX11_count_105 : decode cX11_count 105 = .ok (.getfield 94, 3) := by decide +kernel
theorem dX11_count_108 : decode cX11_count 108 = .ok (.ireturn, 1) := by decide +kernel
theorem dX11_count_109 : decode cX11_count 109 = .ok (.ldc 59, 2) := by decide +kernel
theorem dX11_count_111 : decode cX11_count 111 = .ok (.ireturn, 1) := by decide +kernel
theorem dX11_status_0 : decode cX11_status 0 = .ok (.aload_n 0, 1) := by decide +kernel
theorem dX11_status_1 : decode cX11_status 1 = .ok (.getfield 309, 3) := by decide +kernel
theorem dX11_status_4 : decode cX11_status 4 = .ok (.ireturn, 1) := by decide +kernel
theorem dX11_finding_0 : decode cX11_finding 0 = .ok (.aload_n 0, 1) := by decide +kernel
theorem dX11_finding_1 : decode cX11_finding 1 = .ok (.iload_n 1, 1) := by decide +kernel
theorem dX11_finding_2 : decode cX11_finding 2 = .ok (.putfield 309, 3) := by decide +kernel
theorem dX11_finding_5 : decode cX11_finding 5 = .ok (.ldc_w 312, 3) := by decide +kernel
theorem dX11_finding_8 : decode cX11_finding 8 = .ok (.iload_n 1, 1) := by decide +kernel
theorem dX11_finding_9 : decode cX11_finding 9 = .ok (.isub, 1) := by decide +kernel
theorem dX11_finding_10 : decode cX11_finding 10 = .ok (.ireturn, 1) := by decide +kernel
theorem dX11_unfound_0 : decode cX11_unfound 0 = .ok (.aload_n 0, 1) := by decide +kernel
theorem dX11_unfound_1 : decode cX11_unfound 1 = .ok (.iconst 0, 1) := by decide +kernel
theorem dX11_unfound_2 : decode cX11_unfound 2 = .ok (.putfield 309, 3) := by decide +kernel
theorem dX11_unfound_5 : decode cX11_unfound 5 = .ok (.iload_n 1, 1) := by decide +kernel
theorem dX11_unfound_6 : decode cX11_unfound 6 = .ok (.ireturn, 1) := by decide +kernel
theorem dX11_write_0 : decode cX11_write 0 = .ok (.iload_n 3, 1) := by decide +kernel
theorem dX11_write_1 : decode cX11_write 1 = .ok (.iconst 0, 1) := by decide +kernel
theorem dX11_write_2 : decode cX11_write 2 = .ok (.iload_n 2, 1) := by decide +kernel
theorem dX11_write_3 : decode cX11_write 3 = .ok (.iconst 1, 1) := by decide +kernel
theorem dX11_write_4 : decode cX11_write 4 = .ok (.isub, 1) := by decide +kernel
theorem dX11_write_5 : decode cX11_write 5 = .ok (.invokestatic 55, 3) := by decide +kernel
theorem dX11_write_8 : decode cX11_write 8 = .ok (.ifCond .eq 20, 3) := by decide +kernel
theorem dX11_write_11 : decode cX11_write 11 = .ok (.iload_n 3, 1) := by decide +kernel
theorem dX11_write_12 : decode cX11_write 12 = .ok (.aload_n 1, 1) := by decide +kernel
theorem dX11_write_13 : decode cX11_write 13 = .ok (.arraylength, 1) := by decide +kernel
theorem dX11_write_14 : decode cX11_write 14 = .ok (.if_icmp .ge 14, 3) := by decide +kernel
theorem dX11_write_17 : decode cX11_write 17 = .ok (.iload 4, 2) := by decide +kernel
theorem dX11_write_19 : decode cX11_write 19 = .ok (.iconst 0, 1) := by decide +kernel
theorem dX11_write_20 : decode cX11_write 20 = .ok (.bipush 6, 2) := by decide +kernel
theorem dX11_write_22 : decode cX11_write 22 = .ok (.invokestatic 55, 3) := by decide +kernel
theorem dX11_write_25 : decode cX11_write 25 = .ok (.ifCond .ne 6, 3) := by decide +kernel
theorem dX11_write_28 : decode cX11_write 28 = .ok (.ldc 59, 2) := by decide +kernel
theorem dX11_write_30 : decode cX11_write 30 = .ok (.ireturn, 1) := by decide +kernel
theorem dX11_write_31 : decode cX11_write 31 = .ok (.aload_n 0, 1) := by decide +kernel
theorem dX11_write_32 : decode cX11_write 32 = .ok (.invokevirtual 143, 3) := by decide +kernel
theorem dX11_write_35 : decode cX11_write 35 = .ok (.aload_n 1, 1) := by decide +kernel
theorem dX11_write_36 : decode cX11_write 36 = .ok (.iload_n 3, 1) := by decide +kernel
theorem dX11_write_37 : decode cX11_write 37 = .ok (.iaload, 1) := by decide +kernel
theorem dX11_write_38 : decode cX11_write 38 = .ok (.istore 5, 2) := by decide +kernel
theorem dX11_write_40 : decode cX11_write 40 = .ok (.aload_n 1, 1) := by decide +kernel
theorem dX11_write_41 : decode cX11_write 41 = .ok (.iload_n 3, 1) := by decide +kernel
theorem dX11_write_42 : decode cX11_write 42 = .ok (.iload 4, 2) := by decide +kernel
theorem dX11_write_44 : decode cX11_write 44 = .ok (.iastore, 1) := by decide +kernel
theorem dX11_write_45 : decode cX11_write 45 = .ok (.iload 5, 2) := by decide +kernel
theorem dX11_write_47 : decode cX11_write 47 = .ok (.ireturn, 1) := by decide +kernel
theorem dX11_keepAct_0 : decode cX11_keepAct 0 = .ok (.aload_n 0, 1) := by decide +kernel
theorem dX11_keepAct_1 : decode cX11_keepAct 1 = .ok (.getfield 126, 3) := by decide +kernel
theorem dX11_keepAct_4 : decode cX11_keepAct 4 = .ok (.bipush 24, 2) := by decide +kernel
theorem dX11_keepAct_6 : decode cX11_keepAct 6 = .ok (.if_icmp .ne 28, 3) := by decide +kernel
theorem dX11_keepAct_9 : decode cX11_keepAct 9 = .ok (.aload_n 0, 1) := by decide +kernel
theorem dX11_keepAct_10 : decode cX11_keepAct 10 = .ok (.aload_n 0, 1) := by decide +kernel
theorem dX11_keepAct_11 : decode cX11_keepAct 11 = .ok (.getfield 130, 3) := by decide +kernel
theorem dX11_keepAct_14 : decode cX11_keepAct 14 = .ok (.iconst 1, 1) := by decide +kernel
theorem dX11_keepAct_15 : decode cX11_keepAct 15 = .ok (.iadd, 1) := by decide +kernel
theorem dX11_keepAct_16 : decode cX11_keepAct 16 = .ok (.bipush 24, 2) := by decide +kernel
theorem dX11_keepAct_18 : decode cX11_keepAct 18 = .ok (.invokestatic 133, 3) := by decide +kernel
theorem dX11_keepAct_21 : decode cX11_keepAct 21 = .ok (.putfield 130, 3) := by decide +kernel
theorem dX11_keepAct_24 : decode cX11_keepAct 24 = .ok (.aload_n 0, 1) := by decide +kernel
theorem dX11_keepAct_25 : decode cX11_keepAct 25 = .ok (.dup, 1) := by decide +kernel
theorem dX11_keepAct_26 : decode cX11_keepAct 26 = .ok (.getfield 126, 3) := by decide +kernel
theorem dX11_keepAct_29 : decode cX11_keepAct 29 = .ok (.iconst 1, 1) := by decide +kernel
theorem dX11_keepAct_30 : decode cX11_keepAct 30 = .ok (.isub, 1) := by decide +kernel
theorem dX11_keepAct_31 : decode cX11_keepAct 31 = .ok (.putfield 126, 3) := by decide +kernel
theorem dX11_keepAct_34 : decode cX11_keepAct 34 = .ok (.aload_n 0, 1) := by decide +kernel
theorem dX11_keepAct_35 : decode cX11_keepAct 35 = .ok (.aload_n 0, 1) := by decide +kernel
theorem dX11_keepAct_36 : decode cX11_keepAct 36 = .ok (.getfield 44, 3) := by decide +kernel
theorem dX11_keepAct_39 : decode cX11_keepAct 39 = .ok (.aload_n 0, 1) := by decide +kernel
theorem dX11_keepAct_40 : decode cX11_keepAct 40 = .ok (.getfield 130, 3) := by decide +kernel
theorem dX11_keepAct_43 : decode cX11_keepAct 43 = .ok (.aload_n 0, 1) := by decide +kernel
theorem dX11_keepAct_44 : decode cX11_keepAct 44 = .ok (.getfield 126, 3) := by decide +kernel
theorem dX11_keepAct_47 : decode cX11_keepAct 47 = .ok (.iadd, 1) := by decide +kernel
theorem dX11_keepAct_48 : decode cX11_keepAct 48 = .ok (.bipush 24, 2) := by decide +kernel
theorem dX11_keepAct_50 : decode cX11_keepAct 50 = .ok (.invokestatic 133, 3) := by decide +kernel
theorem dX11_keepAct_53 : decode cX11_keepAct 53 = .ok (.invokevirtual 277, 3) := by decide +kernel
theorem dX11_keepAct_56 : decode cX11_keepAct 56 = .ok (.aload_n 0, 1) := by decide +kernel
theorem dX11_keepAct_57 : decode cX11_keepAct 57 = .ok (.dup, 1) := by decide +kernel
theorem dX11_keepAct_58 : decode cX11_keepAct 58 = .ok (.getfield 126, 3) := by decide +kernel
theorem dX11_keepAct_61 : decode cX11_keepAct 61 = .ok (.iconst 1, 1) := by decide +kernel
theorem dX11_keepAct_62 : decode cX11_keepAct 62 = .ok (.iadd, 1) := by decide +kernel
theorem dX11_keepAct_63 : decode cX11_keepAct 63 = .ok (.putfield 126, 3) := by decide +kernel
theorem dX11_keepAct_66 : decode cX11_keepAct 66 = .ok (.return_, 1) := by decide +kernel
theorem dX11_forgetActs_0 : decode cX11_forgetActs 0 = .ok (.aload_n 0, 1) := by decide +kernel
theorem dX11_forgetActs_1 : decode cX11_forgetActs 1 = .ok (.iconst 0, 1) := by decide +kernel
theorem dX11_forgetActs_2 : decode cX11_forgetActs 2 = .ok (.putfield 130, 3) := by decide +kernel
theorem dX11_forgetActs_5 : decode cX11_forgetActs 5 = .ok (.aload_n 0, 1) := by decide +kernel
theorem dX11_forgetActs_6 : decode cX11_forgetActs 6 = .ok (.iconst 0, 1) := by decide +kernel
theorem dX11_forgetActs_7 : decode cX11_forgetActs 7 = .ok (.putfield 126, 3) := by decide +kernel
theorem dX11_forgetActs_10 : decode cX11_forgetActs 10 = .ok (.return_, 1) := by decide +kernel
theorem dX11_keepIn_0 : decode cX11_keepIn 0 = .ok (.iload_n 2, 1) := by decide +kernel
theorem dX11_keepIn_1 : decode cX11_keepIn 1 = .ok (.ifCond .lt 9, 3) := by decide +kernel
theorem dX11_keepIn_4 : decode cX11_keepIn 4 = .ok (.iload_n 2, 1) := by decide +kernel
theorem dX11_keepIn_5 : decode cX11_keepIn 5 = .ok (.aload_n 1, 1) := by decide +kernel
theorem dX11_keepIn_6 : decode cX11_keepIn 6 = .ok (.arraylength, 1) := by decide +kernel
theorem dX11_keepIn_7 : decode cX11_keepIn 7 = .ok (.if_icmp .lt 4, 3) := by decide +kernel
theorem dX11_keepIn_10 : decode cX11_keepIn 10 = .ok (.return_, 1) := by decide +kernel
theorem dX11_keepIn_11 : decode cX11_keepIn 11 = .ok (.aload_n 1, 1) := by decide +kernel
theorem dX11_keepIn_12 : decode cX11_keepIn 12 = .ok (.iload_n 2, 1) := by decide +kernel
theorem dX11_keepIn_13 : decode cX11_keepIn 13 = .ok (.aaload, 1) := by decide +kernel
theorem dX11_keepIn_14 : decode cX11_keepIn 14 = .ok (.astore_n 3, 1) := by decide +kernel
theorem dX11_keepIn_15 : decode cX11_keepIn 15 = .ok (.aload_n 3, 1) := by decide +kernel
theorem dX11_keepIn_16 : decode cX11_keepIn 16 = .ok (.ifnonnull 15, 3) := by decide +kernel
theorem dX11_keepIn_19 : decode cX11_keepIn 19 = .ok (.new 23, 3) := by decide +kernel
theorem dX11_keepIn_22 : decode cX11_keepIn 22 = .ok (.dup, 1) := by decide +kernel
theorem dX11_keepIn_23 : decode cX11_keepIn 23 = .ok (.invokespecial 25, 3) := by decide +kernel
theorem dX11_keepIn_26 : decode cX11_keepIn 26 = .ok (.astore_n 3, 1) := by decide +kernel
theorem dX11_keepIn_27 : decode cX11_keepIn 27 = .ok (.aload_n 1, 1) := by decide +kernel
theorem dX11_keepIn_28 : decode cX11_keepIn 28 = .ok (.iload_n 2, 1) := by decide +kernel
theorem dX11_keepIn_29 : decode cX11_keepIn 29 = .ok (.aload_n 3, 1) := by decide +kernel
theorem dX11_keepIn_30 : decode cX11_keepIn 30 = .ok (.aastore, 1) := by decide +kernel
theorem dX11_keepIn_31 : decode cX11_keepIn 31 = .ok (.aload_n 3, 1) := by decide +kernel
theorem dX11_keepIn_32 : decode cX11_keepIn 32 = .ok (.aload_n 0, 1) := by decide +kernel
theorem dX11_keepIn_33 : decode cX11_keepIn 33 = .ok (.getfield 26, 3) := by decide +kernel
theorem dX11_keepIn_36 : decode cX11_keepIn 36 = .ok (.invokevirtual 116, 3) := by decide +kernel
theorem dX11_keepIn_39 : decode cX11_keepIn 39 = .ok (.return_, 1) := by decide +kernel
theorem dX11_within_0 : decode cX11_within 0 = .ok (.iload_n 0, 1) := by decide +kernel
theorem dX11_within_1 : decode cX11_within 1 = .ok (.iload_n 1, 1) := by decide +kernel
theorem dX11_within_2 : decode cX11_within 2 = .ok (.if_icmp .lt 12, 3) := by decide +kernel
theorem dX11_within_5 : decode cX11_within 5 = .ok (.iload_n 0, 1) := by decide +kernel
theorem dX11_within_6 : decode cX11_within 6 = .ok (.iload_n 2, 1) := by decide +kernel
theorem dX11_within_7 : decode cX11_within 7 = .ok (.if_icmp .gt 7, 3) := by decide +kernel
theorem dX11_within_10 : decode cX11_within 10 = .ok (.iconst 1, 1) := by decide +kernel
theorem dX11_within_11 : decode cX11_within 11 = .ok (.goto 4, 3) := by decide +kernel
theorem dX11_within_14 : decode cX11_within 14 = .ok (.iconst 0, 1) := by decide +kernel
theorem dX11_within_15 : decode cX11_within 15 = .ok (.ireturn, 1) := by decide +kernel
theorem dX11_isPerson_0 : decode cX11_isPerson 0 = .ok (.iload_n 0, 1) := by decide +kernel
theorem dX11_isPerson_1 : decode cX11_isPerson 1 = .ok (.iconst 0, 1) := by decide +kernel
theorem dX11_isPerson_2 : decode cX11_isPerson 2 = .ok (.iconst 5, 1) := by decide +kernel
theorem dX11_isPerson_3 : decode cX11_isPerson 3 = .ok (.invokestatic 55, 3) := by decide +kernel
theorem dX11_isPerson_6 : decode cX11_isPerson 6 = .ok (.ireturn, 1) := by decide +kernel
theorem dX11_isJob_0 : decode cX11_isJob 0 = .ok (.iload_n 0, 1) := by decide +kernel
theorem dX11_isJob_1 : decode cX11_isJob 1 = .ok (.iconst 0, 1) := by decide +kernel
theorem dX11_isJob_2 : decode cX11_isJob 2 = .ok (.iconst 5, 1) := by decide +kernel
theorem dX11_isJob_3 : decode cX11_isJob 3 = .ok (.invokestatic 55, 3) := by decide +kernel
theorem dX11_isJob_6 : decode cX11_isJob 6 = .ok (.ireturn, 1) := by decide +kernel
theorem dX11_holds_0 : decode cX11_holds 0 = .ok (.iload_n 0, 1) := by decide +kernel
theorem dX11_holds_1 : decode cX11_holds 1 = .ok (.iload_n 1, 1) := by decide +kernel
theorem dX11_holds_2 : decode cX11_holds 2 = .ok (.ishr, 1) := by decide +kernel
theorem dX11_holds_3 : decode cX11_holds 3 = .ok (.iconst 1, 1) := by decide +kernel
theorem dX11_holds_4 : decode cX11_holds 4 = .ok (.iand, 1) := by decide +kernel
theorem dX11_holds_5 : decode cX11_holds 5 = .ok (.ifCond .eq 7, 3) := by decide +kernel
theorem dX11_holds_8 : decode cX11_holds 8 = .ok (.iconst 1, 1) := by decide +kernel
theorem dX11_holds_9 : decode cX11_holds 9 = .ok (.goto 4, 3) := by decide +kernel
theorem dX11_holds_12 : decode cX11_holds 12 = .ok (.iconst 0, 1) := by decide +kernel
theorem dX11_holds_13 : decode cX11_holds 13 = .ok (.ireturn, 1) := by decide +kernel
theorem dX11_rest_0 : decode cX11_rest 0 = .ok (.iload_n 1, 1) := by decide +kernel
theorem dX11_rest_1 : decode cX11_rest 1 = .ok (.ifCond .gt 5, 3) := by decide +kernel
theorem dX11_rest_4 : decode cX11_rest 4 = .ok (.iconst 0, 1) := by decide +kernel
theorem dX11_rest_5 : decode cX11_rest 5 = .ok (.ireturn, 1) := by decide +kernel
theorem dX11_rest_6 : decode cX11_rest 6 = .ok (.iload_n 0, 1) := by decide +kernel
theorem dX11_rest_7 : decode cX11_rest 7 = .ok (.iload_n 1, 1) := by decide +kernel
theorem dX11_rest_8 : decode cX11_rest 8 = .ok (.irem, 1) := by decide +kernel
theorem dX11_rest_9 : decode cX11_rest 9 = .ok (.istore_n 2, 1) := by decide +kernel
theorem dX11_rest_10 : decode cX11_rest 10 = .ok (.iload_n 2, 1) := by decide +kernel
theorem dX11_rest_11 : decode cX11_rest 11 = .ok (.ifCond .ge 9, 3) := by decide +kernel
theorem dX11_rest_14 : decode cX11_rest 14 = .ok (.iload_n 2, 1) := by decide +kernel
theorem dX11_rest_15 : decode cX11_rest 15 = .ok (.iload_n 1, 1) := by decide +kernel
theorem dX11_rest_16 : decode cX11_rest 16 = .ok (.iadd, 1) := by decide +kernel
theorem dX11_rest_17 : decode cX11_rest 17 = .ok (.goto 4, 3) := by decide +kernel
theorem dX11_rest_20 : decode cX11_rest 20 = .ok (.iload_n 2, 1) := by decide +kernel
theorem dX11_rest_21 : decode cX11_rest 21 = .ok (.ireturn, 1) := by decide +kernel
theorem dX11_commonPart_0 : decode cX11_commonPart 0 = .ok (.lload_n 2, 1) := by decide +kernel
theorem dX11_commonPart_1 : decode cX11_commonPart 1 = .ok (.lstore 4, 2) := by decide +kernel
theorem dX11_commonPart_3 : decode cX11_commonPart 3 = .ok (.lload_n 0, 1) := by decide +kernel
theorem dX11_commonPart_4 : decode cX11_commonPart 4 = .ok (.lstore 6, 2) := by decide +kernel
theorem dX11_commonPart_6 : decode cX11_commonPart 6 = .ok (.iconst 0, 1) := by decide +kernel
theorem dX11_commonPart_7 : decode cX11_commonPart 7 = .ok (.istore 8, 2) := by decide +kernel
theorem dX11_commonPart_9 : decode cX11_commonPart 9 = .ok (.iload 8, 2) := by decide +kernel
theorem dX11_commonPart_11 : decode cX11_commonPart 11 = .ok (.bipush 100, 2) := by decide +kernel
theorem dX11_commonPart_13 : decode cX11_commonPart 13 = .ok (.if_icmp .ge 31, 3) := by decide +kernel
theorem dX11_commonPart_16 : decode cX11_commonPart 16 = .ok (.lload 6, 2) := by decide +kernel
theorem dX11_commonPart_18 : decode cX11_commonPart 18 = .ok (.lconst 0, 1) := by decide +kernel
theorem dX11_commonPart_19 : decode cX11_commonPart 19 = .ok (.lcmp, 1) := by decide +kernel
theorem dX11_commonPart_20 : decode cX11_commonPart 20 = .ok (.ifCond .eq 24, 3) := by decide +kernel
theorem dX11_commonPart_23 : decode cX11_commonPart 23 = .ok (.lload 4, 2) := by decide +kernel
theorem dX11_commonPart_25 : decode cX11_commonPart 25 = .ok (.lload 6, 2) := by decide +kernel
theorem dX11_commonPart_27 : decode cX11_commonPart 27 = .ok (.lrem, 1) := by decide +kernel
theorem dX11_commonPart_28 : decode cX11_commonPart 28 = .ok (.lstore 9, 2) := by decide +kernel
theorem dX11_commonPart_30 : decode cX11_commonPart 30 = .ok (.lload 6, 2) := by decide +kernel
theorem dX11_commonPart_32 : decode cX11_commonPart 32 = .ok (.lstore 4, 2) := by decide +kernel
theorem dX11_commonPart_34 : decode cX11_commonPart 34 = .ok (.lload 9, 2) := by decide +kernel
theorem dX11_commonPart_36 : decode cX11_commonPart 36 = .ok (.lstore 6, 2) := by decide +kernel
theorem dX11_commonPart_38 : decode cX11_commonPart 38 = .ok (.iinc 8 1, 3) := by decide +kernel
theorem dX11_commonPart_41 : decode cX11_commonPart 41 = .ok (.goto (-32), 3) := by decide +kernel
theorem dX11_commonPart_44 : decode cX11_commonPart 44 = .ok (.lload 4, 2) := by decide +kernel
theorem dX11_commonPart_46 : decode cX11_commonPart 46 = .ok (.lreturn, 1) := by decide +kernel
