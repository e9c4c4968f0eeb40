theorem dX0_init_0 : decode cX0_init 0 = .ok (.aload_n 0, 1) := by decide +kernel
theorem dX0_init_1 : decode cX0_init 1 = .ok (.iload_n 1, 1) := by decide +kernel
theorem dX0_init_2 : decode cX0_init 2 = .ok (.iload_n 2, 1) := by decide +kernel
theorem dX0_init_3 : decode cX0_init 3 = .ok (.invokespecial 1, 3) := by decide +kernel
theorem dX0_init_6 : decode cX0_init 6 = .ok (.return_, 1) := by decide +kernel
theorem dX0_ownKind_0 : decode cX0_ownKind 0 = .ok (.iconst 3, 1) := by decide +kernel
theorem dX0_ownKind_1 : decode cX0_ownKind 1 = .ok (.ireturn, 1) := by decide +kernel
theorem dX0_howFar_0 : decode cX0_howFar 0 = .ok (.iload_n 1, 1) := by decide +kernel
theorem dX0_howFar_1 : decode cX0_howFar 1 = .ok (.iconst 2, 1) := by decide +kernel
theorem dX0_howFar_2 : decode cX0_howFar 2 = .ok (.invokestatic 7, 3) := by decide +kernel
theorem dX0_howFar_5 : decode cX0_howFar 5 = .ok (.ifCond .ne 12, 3) := by decide +kernel
theorem dX0_howFar_8 : decode cX0_howFar 8 = .ok (.aload_n 0, 1) := by decide +kernel
theorem dX0_howFar_9 : decode cX0_howFar 9 = .ok (.getfield 13, 3) := by decide +kernel
theorem dX0_howFar_12 : decode cX0_howFar 12 = .ok (.iconst 1, 1) := by decide +kernel
theorem dX0_howFar_13 : decode cX0_howFar 13 = .ok (.iadd, 1) := by decide +kernel
theorem dX0_howFar_14 : decode cX0_howFar 14 = .ok (.goto 7, 3) := by decide +kernel
theorem dX0_howFar_17 : decode cX0_howFar 17 = .ok (.aload_n 0, 1) := by decide +kernel
theorem dX0_howFar_18 : decode cX0_howFar 18 = .ok (.getfield 13, 3) := by decide +kernel
theorem dX0_howFar_21 : decode cX0_howFar 21 = .ok (.ireturn, 1) := by decide +kernel
theorem dX0_mark_0 : decode cX0_mark 0 = .ok (.aload_n 1, 1) := by decide +kernel
theorem dX0_mark_1 : decode cX0_mark 1 = .ok (.bipush 22, 2) := by decide +kernel
theorem dX0_mark_3 : decode cX0_mark 3 = .ok (.invokevirtual 19, 3) := by decide +kernel
theorem dX0_mark_6 : decode cX0_mark 6 = .ok (.aload_n 0, 1) := by decide +kernel
theorem dX0_mark_7 : decode cX0_mark 7 = .ok (.aload_n 1, 1) := by decide +kernel
theorem dX0_mark_8 : decode cX0_mark 8 = .ok (.iload_n 2, 1) := by decide +kernel
theorem dX0_mark_9 : decode cX0_mark 9 = .ok (.iload_n 3, 1) := by decide +kernel
theorem dX0_mark_10 : decode cX0_mark 10 = .ok (.invokespecial 25, 3) := by decide +kernel
theorem dX0_mark_13 : decode cX0_mark 13 = .ok (.sipush 1000, 3) := by decide +kernel
theorem dX0_mark_16 : decode cX0_mark 16 = .ok (.isub, 1) := by decide +kernel
theorem dX0_mark_17 : decode cX0_mark 17 = .ok (.ireturn, 1) := by decide +kernel
theorem dX1_init_0 : decode cX1_init 0 = .ok (.aload_n 0, 1) := by decide +kernel
theorem dX1_init_1 : decode cX1_init 1 = .ok (.invokespecial 3, 3) := by decide +kernel
theorem dX1_init_4 : decode cX1_init 4 = .ok (.aload_n 0, 1) := by decide +kernel
theorem dX1_init_5 : decode cX1_init 5 = .ok (.new 9, 3) := by decide +kernel
theorem dX1_init_8 : decode cX1_init 8 = .ok (.dup, 1) := by decide +kernel
theorem dX1_init_9 : decode cX1_init 9 = .ok (.invokespecial 11, 3) := by decide +kernel
theorem dX1_init_12 : decode cX1_init 12 = .ok (.putfield 12, 3) := by decide +kernel
theorem dX1_init_15 : decode cX1_init 15 = .ok (.aload_n 0, 1) := by decide +kernel
theorem dX1_init_16 : decode cX1_init 16 = .ok (.bipush 6, 2) := by decide +kernel
theorem dX1_init_18 : decode cX1_init 18 = .ok (.newarray .int, 2) := by decide +kernel
theorem dX1_init_20 : decode cX1_init 20 = .ok (.putfield 18, 3) := by decide +kernel
theorem dX1_init_23 : decode cX1_init 23 = .ok (.aload_n 0, 1) := by decide +kernel
theorem dX1_init_24 : decode cX1_init 24 = .ok (.bipush 8, 2) := by decide +kernel
theorem dX1_init_26 : decode cX1_init 26 = .ok (.newarray .long, 2) := by decide +kernel
theorem dX1_init_28 : decode cX1_init 28 = .ok (.putfield 22, 3) := by decide +kernel
theorem dX1_init_31 : decode cX1_init 31 = .ok (.aload_n 0, 1) := by decide +kernel
theorem dX1_init_32 : decode cX1_init 32 = .ok (.bipush 8, 2) := by decide +kernel
theorem dX1_init_34 : decode cX1_init 34 = .ok (.newarray .long, 2) := by decide +kernel
theorem dX1_init_36 : decode cX1_init 36 = .ok (.putfield 26, 3) := by decide +kernel
theorem dX1_init_39 : decode cX1_init 39 = .ok (.return_, 1) := by decide +kernel
theorem dX1_timesIn_0 : decode cX1_timesIn 0 = .ok (.iconst 0, 1) := by decide +kernel
theorem dX1_timesIn_1 : decode cX1_timesIn 1 = .ok (.istore 5, 2) := by decide +kernel
theorem dX1_timesIn_3 : decode cX1_timesIn 3 = .ok (.aload_n 1, 1) := by decide +kernel
theorem dX1_timesIn_4 : decode cX1_timesIn 4 = .ok (.getfield 29, 3) := by decide +kernel
theorem dX1_timesIn_7 : decode cX1_timesIn 7 = .ok (.istore 6, 2) := by decide +kernel
theorem dX1_timesIn_9 : decode cX1_timesIn 9 = .ok (.iconst 0, 1) := by decide +kernel
theorem dX1_timesIn_10 : decode cX1_timesIn 10 = .ok (.istore 7, 2) := by decide +kernel
theorem dX1_timesIn_12 : decode cX1_timesIn 12 = .ok (.iload 7, 2) := by decide +kernel
theorem dX1_timesIn_14 : decode cX1_timesIn 14 = .ok (.iload 4, 2) := by decide +kernel
theorem dX1_timesIn_16 : decode cX1_timesIn 16 = .ok (.if_icmp .ge 87, 3) := by decide +kernel
theorem dX1_timesIn_19 : decode cX1_timesIn 19 = .ok (.iconst 0, 1) := by decide +kernel
theorem dX1_timesIn_20 : decode cX1_timesIn 20 = .ok (.istore 8, 2) := by decide +kernel
theorem dX1_timesIn_22 : decode cX1_timesIn 22 = .ok (.iload 8, 2) := by decide +kernel
theorem dX1_timesIn_24 : decode cX1_timesIn 24 = .ok (.aload_n 1, 1) := by decide +kernel
theorem dX1_timesIn_25 : decode cX1_timesIn 25 = .ok (.getfield 33, 3) := by decide +kernel
theorem dX1_timesIn_28 : decode cX1_timesIn 28 = .ok (.if_icmp .ge 54, 3) := by decide +kernel
theorem dX1_timesIn_31 : decode cX1_timesIn 31 = .ok (.aload_n 1, 1) := by decide +kernel
theorem dX1_timesIn_32 : decode cX1_timesIn 32 = .ok (.iload 8, 2) := by decide +kernel
theorem dX1_timesIn_34 : decode cX1_timesIn 34 = .ok (.iload 6, 2) := by decide +kernel
theorem dX1_timesIn_36 : decode cX1_timesIn 36 = .ok (.invokevirtual 36, 3) := by decide +kernel
theorem dX1_timesIn_39 : decode cX1_timesIn 39 = .ok (.iload_n 3, 1) := by decide +kernel
theorem dX1_timesIn_40 : decode cX1_timesIn 40 = .ok (.if_icmp .ne 7, 3) := by decide +kernel
theorem dX1_timesIn_43 : decode cX1_timesIn 43 = .ok (.iconst 1, 1) := by decide +kernel
theorem dX1_timesIn_44 : decode cX1_timesIn 44 = .ok (.goto 4, 3) := by decide +kernel
theorem dX1_timesIn_47 : decode cX1_timesIn 47 = .ok (.iconst 0, 1) := by decide +kernel
theorem dX1_timesIn_48 : decode cX1_timesIn 48 = .ok (.istore 9, 2) := by decide +kernel
theorem dX1_timesIn_50 : decode cX1_timesIn 50 = .ok (.iload 9, 2) := by decide +kernel
theorem dX1_timesIn_52 : decode cX1_timesIn 52 = .ok (.ifCond .eq 24, 3) := by decide +kernel
theorem dX1_timesIn_55 : decode cX1_timesIn 55 = .ok (.aload_n 1, 1) := by decide +kernel
theorem dX1_timesIn_56 : decode cX1_timesIn 56 = .ok (.iload 8, 2) := by decide +kernel
theorem dX1_timesIn_58 : decode cX1_timesIn 58 = .ok (.iload 6, 2) := by decide +kernel
theorem dX1_timesIn_60 : decode cX1_timesIn 60 = .ok (.aload_n 1, 1) := by decide +kernel
theorem dX1_timesIn_61 : decode cX1_timesIn 61 = .ok (.iload 7, 2) := by decide +kernel
theorem dX1_timesIn_63 : decode cX1_timesIn 63 = .ok (.invokevirtual 40, 3) := by decide +kernel
theorem dX1_timesIn_66 : decode cX1_timesIn 66 = .ok (.invokevirtual 44, 3) := by decide +kernel
theorem dX1_timesIn_69 : decode cX1_timesIn 69 = .ok (.iload_n 2, 1) := by decide +kernel
theorem dX1_timesIn_70 : decode cX1_timesIn 70 = .ok (.if_icmp .ne 6, 3) := by decide +kernel
theorem dX1_timesIn_73 : decode cX1_timesIn 73 = .ok (.iinc 5 1, 3) := by decide +kernel
theorem dX1_timesIn_76 : decode cX1_timesIn 76 = .ok (.iinc 8 1, 3) := by decide +kernel
theorem dX1_timesIn_79 : decode cX1_timesIn 79 = .ok (.goto (-57), 3) := by decide +kernel
theorem dX1_timesIn_82 : decode cX1_timesIn 82 = .ok (.aload_n 1, 1) := by decide +kernel
theorem dX1_timesIn_83 : decode cX1_timesIn 83 = .ok (.iload 6, 2) := by decide +kernel
theorem dX1_timesIn_85 : decode cX1_timesIn 85 = .ok (.aload_n 1, 1) := by decide +kernel
theorem dX1_timesIn_86 : decode cX1_timesIn 86 = .ok (.getfield 48, 3) := by decide +kernel
theorem dX1_timesIn_89 : decode cX1_timesIn 89 = .ok (.iload 7, 2) := by decide +kernel
theorem dX1_timesIn_91 : decode cX1_timesIn 91 = .ok (.iadd, 1) := by decide +kernel
theorem dX1_timesIn_92 : decode cX1_timesIn 92 = .ok (.invokevirtual 51, 3) := by decide +kernel
theorem dX1_timesIn_95 : decode cX1_timesIn 95 = .ok (.istore 6, 2) := by decide +kernel
theorem dX1_timesIn_97 : decode cX1_timesIn 97 = .ok (.iinc 7 1, 3) := by decide +kernel
theorem dX1_timesIn_100 : decode cX1_timesIn 100 = .ok (.goto (-88), 3) := by decide +kernel
theorem dX1_timesIn_103 : decode cX1_timesIn 103 = .ok (.iload 5, 2) := by decide +kernel
theorem dX1_timesIn_105 : decode cX1_timesIn 105 = .ok (.ireturn, 1) := by decide +kernel
theorem dX1_firstMeeting_0 : decode cX1_firstMeeting 0 = .ok (.aload_n 1, 1) := by decide +kernel
theorem dX1_firstMeeting_1 : decode cX1_firstMeeting 1 = .ok (.getfield 29, 3) := by decide +kernel
theorem dX1_firstMeeting_4 : decode cX1_firstMeeting 4 = .ok (.istore 4, 2) := by decide +kernel
theorem dX1_firstMeeting_6 : decode cX1_firstMeeting 6 = .ok (.iconst 0, 1) := by decide +kernel
theorem dX1_firstMeeting_7 : decode cX1_firstMeeting 7 = .ok (.istore 5, 2) := by decide +kernel
theorem dX1_firstMeeting_9 : decode cX1_firstMeeting 9 = .ok (.iload 5, 2) := by decide +kernel
theorem dX1_firstMeeting_11 : decode cX1_firstMeeting 11 = .ok (.bipush 60, 2) := by decide +kernel
theorem dX1_firstMeeting_13 : decode cX1_firstMeeting 13 = .ok (.if_icmp .gt 47, 3) := by decide +kernel
theorem dX1_firstMeeting_16 : decode cX1_firstMeeting 16 = .ok (.aload_n 1, 1) := by decide +kernel
theorem dX1_firstMeeting_17 : decode cX1_firstMeeting 17 = .ok (.iload_n 3, 1) := by decide +kernel
theorem dX1_firstMeeting_18 : decode cX1_firstMeeting 18 = .ok (.iload 4, 2) := by decide +kernel
theorem dX1_firstMeeting_20 : decode cX1_firstMeeting 20 = .ok (.aload_n 1, 1) := by decide +kernel
theorem dX1_firstMeeting_21 : decode cX1_firstMeeting 21 = .ok (.iload 5, 2) := by decide +kernel
theorem dX1_firstMeeting_23 : decode cX1_firstMeeting 23 = .ok (.invokevirtual 40, 3) := by decide +kernel
theorem dX1_firstMeeting_26 : decode cX1_firstMeeting 26 = .ok (.invokevirtual 54, 3) := by decide +kernel
theorem dX1_firstMeeting_29 : decode cX1_firstMeeting 29 = .ok (.iload_n 2, 1) := by decide +kernel
theorem dX1_firstMeeting_30 : decode cX1_firstMeeting 30 = .ok (.invokestatic 57, 3) := by decide +kernel
theorem dX1_firstMeeting_33 : decode cX1_firstMeeting 33 = .ok (.ifCond .eq 6, 3) := by decide +kernel
theorem dX1_firstMeeting_36 : decode cX1_firstMeeting 36 = .ok (.iload 5, 2) := by decide +kernel
theorem dX1_firstMeeting_38 : decode cX1_firstMeeting 38 = .ok (.ireturn, 1) := by decide +kernel
theorem dX1_firstMeeting_39 : decode cX1_firstMeeting 39 = .ok (.aload_n 1, 1) := by decide +kernel
theorem dX1_firstMeeting_40 : decode cX1_firstMeeting 40 = .ok (.iload 4, 2) := by decide +kernel
theorem dX1_firstMeeting_42 : decode cX1_firstMeeting 42 = .ok (.aload_n 1, 1) := by decide +kernel
theorem dX1_firstMeeting_43 : decode cX1_firstMeeting 43 = .ok (.getfield 48, 3) := by decide +kernel
theorem dX1_firstMeeting_46 : decode cX1_firstMeeting 46 = .ok (.iload 5, 2) := by decide +kernel
theorem dX1_firstMeeting_48 : decode cX1_firstMeeting 48 = .ok (.iadd, 1) := by decide +kernel
theorem dX1_firstMeeting_49 : decode cX1_firstMeeting 49 = .ok (.invokevirtual 51, 3) := by decide +kernel
theorem dX1_firstMeeting_52 : decode cX1_firstMeeting 52 = .ok (.istore 4, 2) := by decide +kernel
theorem dX1_firstMeeting_54 : decode cX1_firstMeeting 54 = .ok (.iinc 5 1, 3) := by decide +kernel
theorem dX1_firstMeeting_57 : decode cX1_firstMeeting 57 = .ok (.goto (-48), 3) := by decide +kernel
theorem dX1_firstMeeting_60 : decode cX1_firstMeeting 60 = .ok (.ldc 61, 2) := by decide +kernel
theorem dX1_firstMeeting_62 : decode cX1_firstMeeting 62 = .ok (.ireturn, 1) := by decide +kernel
theorem dX1_weeksUntilAllMet_0 : decode cX1_weeksUntilAllMet 0 = .ok (.aload_n 1, 1) := by decide +kernel
theorem dX1_weeksUntilAllMet_1 : decode cX1_weeksUntilAllMet 1 = .ok (.invokevirtual 62, 3) := by decide +kernel
theorem dX1_weeksUntilAllMet_4 : decode cX1_weeksUntilAllMet 4 = .ok (.istore_n 2, 1) := by decide +kernel
theorem dX1_weeksUntilAllMet_5 : decode cX1_weeksUntilAllMet 5 = .ok (.aload_n 1, 1) := by decide +kernel
theorem dX1_weeksUntilAllMet_6 : decode cX1_weeksUntilAllMet 6 = .ok (.invokevirtual 66, 3) := by decide +kernel
theorem dX1_weeksUntilAllMet_9 : decode cX1_weeksUntilAllMet 9 = .ok (.istore_n 3, 1) := by decide +kernel
theorem dX1_weeksUntilAllMet_10 : decode cX1_weeksUntilAllMet 10 = .ok (.iload_n 2, 1) := by decide +kernel
theorem dX1_weeksUntilAllMet_11 : decode cX1_weeksUntilAllMet 11 = .ok (.ifCond .eq 7, 3) := by decide +kernel
theorem dX1_weeksUntilAllMet_14 : decode cX1_weeksUntilAllMet 14 = .ok (.iload_n 3, 1) := by decide +kernel
theorem dX1_weeksUntilAllMet_15 : decode cX1_weeksUntilAllMet 15 = .ok (.ifCond .ne 6, 3) := by decide +kernel
theorem dX1_weeksUntilAllMet_18 : decode cX1_weeksUntilAllMet 18 = .ok (.ldc 61, 2) := by decide +kernel
theorem dX1_weeksUntilAllMet_20 : decode cX1_weeksUntilAllMet 20 = .ok (.ireturn, 1) := by decide +kernel
theorem dX1_weeksUntilAllMet_21 : decode cX1_weeksUntilAllMet 21 = .ok (.aload_n 0, 1) := by decide +kernel
theorem dX1_weeksUntilAllMet_22 : decode cX1_weeksUntilAllMet 22 = .ok (.getfield 18, 3) := by decide +kernel
theorem dX1_weeksUntilAllMet_25 : decode cX1_weeksUntilAllMet 25 = .ok (.iconst 0, 1) := by decide +kernel
theorem dX1_weeksUntilAllMet_26 : decode cX1_weeksUntilAllMet 26 = .ok (.invokestatic 69, 3) := by decide +kernel
theorem dX1_weeksUntilAllMet_29 : decode cX1_weeksUntilAllMet 29 = .ok (.aload_n 1, 1) := by decide +kernel
theorem dX1_weeksUntilAllMet_30 : decode cX1_weeksUntilAllMet 30 = .ok (.getfield 29, 3) := by decide +kernel
theorem dX1_weeksUntilAllMet_33 : decode cX1_weeksUntilAllMet 33 = .ok (.istore 4, 2) := by decide +kernel
theorem dX1_weeksUntilAllMet_35 : decode cX1_weeksUntilAllMet 35 = .ok (.iconst 0, 1) := by decide +kernel
theorem dX1_weeksUntilAllMet_36 : decode cX1_weeksUntilAllMet 36 = .ok (.istore 5, 2) := by decide +kernel
theorem dX1_weeksUntilAllMet_38 : decode cX1_weeksUntilAllMet 38 = .ok (.iload 5, 2) := by decide +kernel
theorem dX1_weeksUntilAllMet_40 : decode cX1_weeksUntilAllMet 40 = .ok (.bipush 60, 2) := by decide +kernel
theorem dX1_weeksUntilAllMet_42 : decode cX1_weeksUntilAllMet 42 = .ok (.if_icmp .ge 109, 3) := by decide +kernel
theorem dX1_weeksUntilAllMet_45 : decode cX1_weeksUntilAllMet 45 = .ok (.iconst 1, 1) := by decide +kernel
theorem dX1_weeksUntilAllMet_46 : decode cX1_weeksUntilAllMet 46 = .ok (.istore 6, 2) := by decide +kernel
theorem dX1_weeksUntilAllMet_48 : decode cX1_weeksUntilAllMet 48 = .ok (.iconst 0, 1) := by decide +kernel
theorem dX1_weeksUntilAllMet_49 : decode cX1_weeksUntilAllMet 49 = .ok (.istore 7, 2) := by decide +kernel
theorem dX1_weeksUntilAllMet_51 : decode cX1_weeksUntilAllMet 51 = .ok (.iload 7, 2) := by decide +kernel
theorem dX1_weeksUntilAllMet_53 : decode cX1_weeksUntilAllMet 53 = .ok (.bipush 6, 2) := by decide +kernel
theorem dX1_weeksUntilAllMet_55 : decode cX1_weeksUntilAllMet 55 = .ok (.if_icmp .ge 65, 3) := by decide +kernel
theorem dX1_weeksUntilAllMet_58 : decode cX1_weeksUntilAllMet 58 = .ok (.aload_n 0, 1) := by decide +kernel
theorem dX1_weeksUntilAllMet_59 : decode cX1_weeksUntilAllMet 59 = .ok (.getfield 18, 3) := by decide +kernel
theorem dX1_weeksUntilAllMet_62 : decode cX1_weeksUntilAllMet 62 = .ok (.iload 7, 2) := by decide +kernel
theorem dX1_weeksUntilAllMet_64 : decode cX1_weeksUntilAllMet 64 = .ok (.dup2, 1) := by decide +kernel
theorem dX1_weeksUntilAllMet_65 : decode cX1_weeksUntilAllMet 65 = .ok (.iaload, 1) := by decide +kernel
theorem dX1_weeksUntilAllMet_66 : decode cX1_weeksUntilAllMet 66 = .ok (.aload_n 1, 1) := by decide +kernel
theorem dX1_weeksUntilAllMet_67 : decode cX1_weeksUntilAllMet 67 = .ok (.iload 7, 2) := by decide +kernel
theorem dX1_weeksUntilAllMet_69 : decode cX1_weeksUntilAllMet 69 = .ok (.iload 4, 2) := by decide +kernel
theorem dX1_weeksUntilAllMet_71 : decode cX1_weeksUntilAllMet 71 = .ok (.aload_n 1, 1) := by decide +kernel
theorem dX1_weeksUntilAllMet_72 : decode cX1_weeksUntilAllMet 72 = .ok (.iload 5, 2) := by decide +kernel
theorem dX1_weeksUntilAllMet_74 : decode cX1_weeksUntilAllMet 74 = .ok (.invokevirtual 40, 3) := by decide +kernel
theorem dX1_weeksUntilAllMet_77 : decode cX1_weeksUntilAllMet 77 = .ok (.invokevirtual 75, 3) := by decide +kernel
theorem dX1_weeksUntilAllMet_80 : decode cX1_weeksUntilAllMet 80 = .ok (.ior, 1) := by decide +kernel
theorem dX1_weeksUntilAllMet_81 : decode cX1_weeksUntilAllMet 81 = .ok (.iastore, 1) := by decide +kernel
theorem dX1_weeksUntilAllMet_82 : decode cX1_weeksUntilAllMet 82 = .ok (.iload 6, 2) := by decide +kernel
theorem dX1_weeksUntilAllMet_84 : decode cX1_weeksUntilAllMet 84 = .ok (.ifCond .eq 27, 3) := by decide +kernel
theorem dX1_weeksUntilAllMet_87 : decode cX1_weeksUntilAllMet 87 = .ok (.iload_n 2, 1) := by decide +kernel
theorem dX1_weeksUntilAllMet_88 : decode cX1_weeksUntilAllMet 88 = .ok (.iload 7, 2) := by decide +kernel
theorem dX1_weeksUntilAllMet_90 : decode cX1_weeksUntilAllMet 90 = .ok (.invokestatic 57, 3) := by decide +kernel
theorem dX1_weeksUntilAllMet_93 : decode cX1_weeksUntilAllMet 93 = .ok (.ifCond .eq 14, 3) := by decide +kernel
theorem dX1_weeksUntilAllMet_96 : decode cX1_weeksUntilAllMet 96 = .ok (.aload_n 0, 1) := by decide +kernel
theorem dX1_weeksUntilAllMet_97 : decode cX1_weeksUntilAllMet 97 = .ok (.getfield 18, 3) := by decide +kernel
theorem dX1_weeksUntilAllMet_100 : decode cX1_weeksUntilAllMet 100 = .ok (.iload 7, 2) := by decide +kernel
theorem dX1_weeksUntilAllMet_102 : decode cX1_weeksUntilAllMet 102 = .ok (.iaload, 1) := by decide +kernel
theorem dX1_weeksUntilAllMet_103 : decode cX1_weeksUntilAllMet 103 = .ok (.iload_n 3, 1) := by decide +kernel
theorem dX1_weeksUntilAllMet_104 : decode cX1_weeksUntilAllMet 104 = .ok (.if_icmp .ne 7, 3) := by decide +kernel
theorem dX1_weeksUntilAllMet_107 : decode cX1_weeksUntilAllMet 107 = .ok (.iconst 1, 1) := by decide +kernel
theorem dX1_weeksUntilAllMet_108 : decode cX1_weeksUntilAllMet 108 = .ok (.goto 4, 3) := by decide +kernel
theorem dX1_weeksUntilAllMet_111 : decode cX1_weeksUntilAllMet 111 = .ok (.iconst 0, 1) := by decide +kernel
theorem dX1_weeksUntilAllMet_112 : decode cX1_weeksUntilAllMet 112 = .ok (.istore 6, 2) := by decide +kernel
theorem dX1_weeksUntilAllMet_114 : decode cX1_weeksUntilAllMet 114 = .ok (.iinc 7 1, 3) := by decide +kernel
theorem dX1_weeksUntilAllMet_117 : decode cX1_weeksUntilAllMet 117 = .ok (.goto (-66), 3) := by decide +kernel
theorem dX1_weeksUntilAllMet_120 : decode cX1_weeksUntilAllMet 120 = .ok (.iload 6, 2) := by decide +kernel
theorem dX1_weeksUntilAllMet_122 : decode cX1_weeksUntilAllMet 122 = .ok (.ifCond .eq 8, 3) := by decide +kernel
theorem dX1_weeksUntilAllMet_125 : decode cX1_weeksUntilAllMet 125 = .ok (.iload 5, 2) := by decide +kernel
theorem dX1_weeksUntilAllMet_127 : decode cX1_weeksUntilAllMet 127 = .ok (.iconst 1, 1) := by decide +kernel
theorem dX1_weeksUntilAllMet_128 : decode cX1_weeksUntilAllMet 128 = .ok (.iadd, 1) := by decide +kernel
theorem dX1_weeksUntilAllMet_129 : decode cX1_weeksUntilAllMet 129 = .ok (.ireturn, 1) := by decide +kernel
theorem dX1_weeksUntilAllMet_130 : decode cX1_weeksUntilAllMet 130 = .ok (.aload_n 1, 1) := by decide +kernel
theorem dX1_weeksUntilAllMet_131 : decode cX1_weeksUntilAllMet 131 = .ok (.iload 4, 2) := by decide +kernel
theorem dX1_weeksUntilAllMet_133 : decode cX1_weeksUntilAllMet 133 = .ok (.aload_n 1, 1) := by decide +kernel
theorem dX1_weeksUntilAllMet_134 : decode cX1_weeksUntilAllMet 134 = .ok (.getfield 48, 3) := by decide +kernel
theorem dX1_weeksUntilAllMet_137 : decode cX1_weeksUntilAllMet 137 = .ok (.iload 5, 2) := by decide +kernel
theorem dX1_weeksUntilAllMet_139 : decode cX1_weeksUntilAllMet 139 = .ok (.iadd, 1) := by decide +kernel
theorem dX1_weeksUntilAllMet_140 : decode cX1_weeksUntilAllMet 140 = .ok (.invokevirtual 51, 3) := by decide +kernel
theorem dX1_weeksUntilAllMet_143 : decode cX1_weeksUntilAllMet 143 = .ok (.istore 4, 2) := by decide +kernel
theorem dX1_weeksUntilAllMet_145 : decode cX1_weeksUntilAllMet 145 = .ok (.iinc 5 1, 3) := by decide +kernel
theorem dX1_weeksUntilAllMet_148 : decode cX1_weeksUntilAllMet 148 = .ok (.goto (-110), 3) := by decide +kernel
theorem dX1_weeksUntilAllMet_151 : decode cX1_weeksUntilAllMet 151 = .ok (.ldc 61, 2) := by decide +kernel
theorem dX1_weeksUntilAllMet_153 : decode cX1_weeksUntilAllMet 153 = .ok (.ireturn, 1) := by decide +kernel
theorem dX1_weeksUntilAnew_0 : decode cX1_weeksUntilAnew 0 = .ok (.aload_n 1, 1) := by decide +kernel
theorem dX1_weeksUntilAnew_1 : decode cX1_weeksUntilAnew 1 = .ok (.getfield 29, 3) := by decide +kernel
theorem dX1_weeksUntilAnew_4 : decode cX1_weeksUntilAnew 4 = .ok (.istore_n 2, 1) := by decide +kernel
theorem dX1_weeksUntilAnew_5 : decode cX1_weeksUntilAnew 5 = .ok (.iconst 1, 1) := by decide +kernel
theorem dX1_weeksUntilAnew_6 : decode cX1_weeksUntilAnew 6 = .ok (.istore_n 3, 1) := by decide +kernel
theorem dX1_weeksUntilAnew_7 : decode cX1_weeksUntilAnew 7 = .ok (.iload_n 3, 1) := by decide +kernel
theorem dX1_weeksUntilAnew_8 : decode cX1_weeksUntilAnew 8 = .ok (.bipush 100, 2) := by decide +kernel
theorem dX1_weeksUntilAnew_10 : decode cX1_weeksUntilAnew 10 = .ok (.if_icmp .gt 65, 3) := by decide +kernel
theorem dX1_weeksUntilAnew_13 : decode cX1_weeksUntilAnew 13 = .ok (.aload_n 1, 1) := by decide +kernel
theorem dX1_weeksUntilAnew_14 : decode cX1_weeksUntilAnew 14 = .ok (.iload_n 2, 1) := by decide +kernel
theorem dX1_weeksUntilAnew_15 : decode cX1_weeksUntilAnew 15 = .ok (.aload_n 1, 1) := by decide +kernel
theorem dX1_weeksUntilAnew_16 : decode cX1_weeksUntilAnew 16 = .ok (.getfield 48, 3) := by decide +kernel
theorem dX1_weeksUntilAnew_19 : decode cX1_weeksUntilAnew 19 = .ok (.iload_n 3, 1) := by decide +kernel
theorem dX1_weeksUntilAnew_20 : decode cX1_weeksUntilAnew 20 = .ok (.iadd, 1) := by decide +kernel
theorem dX1_weeksUntilAnew_21 : decode cX1_weeksUntilAnew 21 = .ok (.iconst 1, 1) := by decide +kernel
theorem dX1_weeksUntilAnew_22 : decode cX1_weeksUntilAnew 22 = .ok (.isub, 1) := by decide +kernel
theorem dX1_weeksUntilAnew_23 : decode cX1_weeksUntilAnew 23 = .ok (.invokevirtual 51, 3) := by decide +kernel
theorem dX1_weeksUntilAnew_26 : decode cX1_weeksUntilAnew 26 = .ok (.istore_n 2, 1) := by decide +kernel
theorem dX1_weeksUntilAnew_27 : decode cX1_weeksUntilAnew 27 = .ok (.iload_n 3, 1) := by decide +kernel
theorem dX1_weeksUntilAnew_28 : decode cX1_weeksUntilAnew 28 = .ok (.aload_n 1, 1) := by decide +kernel
theorem dX1_weeksUntilAnew_29 : decode cX1_weeksUntilAnew 29 = .ok (.getfield 78, 3) := by decide +kernel
theorem dX1_weeksUntilAnew_32 : decode cX1_weeksUntilAnew 32 = .ok (.invokestatic 81, 3) := by decide +kernel
theorem dX1_weeksUntilAnew_35 : decode cX1_weeksUntilAnew 35 = .ok (.ifCond .ne 16, 3) := by decide +kernel
theorem dX1_weeksUntilAnew_38 : decode cX1_weeksUntilAnew 38 = .ok (.iload_n 3, 1) := by decide +kernel
theorem dX1_weeksUntilAnew_39 : decode cX1_weeksUntilAnew 39 = .ok (.bipush 6, 2) := by decide +kernel
theorem dX1_weeksUntilAnew_41 : decode cX1_weeksUntilAnew 41 = .ok (.invokestatic 81, 3) := by decide +kernel
theorem dX1_weeksUntilAnew_44 : decode cX1_weeksUntilAnew 44 = .ok (.ifCond .ne 7, 3) := by decide +kernel
theorem dX1_weeksUntilAnew_47 : decode cX1_weeksUntilAnew 47 = .ok (.iconst 1, 1) := by decide +kernel
theorem dX1_weeksUntilAnew_48 : decode cX1_weeksUntilAnew 48 = .ok (.goto 4, 3) := by decide +kernel
theorem dX1_weeksUntilAnew_51 : decode cX1_weeksUntilAnew 51 = .ok (.iconst 0, 1) := by decide +kernel
theorem dX1_weeksUntilAnew_52 : decode cX1_weeksUntilAnew 52 = .ok (.istore 4, 2) := by decide +kernel
theorem dX1_weeksUntilAnew_54 : decode cX1_weeksUntilAnew 54 = .ok (.iload 4, 2) := by decide +kernel
theorem dX1_weeksUntilAnew_56 : decode cX1_weeksUntilAnew 56 = .ok (.ifCond .eq 13, 3) := by decide +kernel
theorem dX1_weeksUntilAnew_59 : decode cX1_weeksUntilAnew 59 = .ok (.iload_n 2, 1) := by decide +kernel
theorem dX1_weeksUntilAnew_60 : decode cX1_weeksUntilAnew 60 = .ok (.aload_n 1, 1) := by decide +kernel
theorem dX1_weeksUntilAnew_61 : decode cX1_weeksUntilAnew 61 = .ok (.getfield 29, 3) := by decide +kernel
theorem dX1_weeksUntilAnew_64 : decode cX1_weeksUntilAnew 64 = .ok (.if_icmp .ne 5, 3) := by decide +kernel
theorem dX1_weeksUntilAnew_67 : decode cX1_weeksUntilAnew 67 = .ok (.iload_n 3, 1) := by decide +kernel
theorem dX1_weeksUntilAnew_68 : decode cX1_weeksUntilAnew 68 = .ok (.ireturn, 1) := by decide +kernel
theorem dX1_weeksUntilAnew_69 : decode cX1_weeksUntilAnew 69 = .ok (.iinc 3 1, 3) := by decide +kernel
theorem dX1_weeksUntilAnew_72 : decode cX1_weeksUntilAnew 72 = .ok (.goto (-65), 3) := by decide +kernel
theorem dX1_weeksUntilAnew_75 : decode cX1_weeksUntilAnew 75 = .ok (.ldc 61, 2) := by decide +kernel
theorem dX1_weeksUntilAnew_77 : decode cX1_weeksUntilAnew 77 = .ok (.ireturn, 1) := by decide +kernel
theorem dX1_fairestTurn_0 : decode cX1_fairestTurn 0 = .ok (.iconst 1, 1) := by decide +kernel
theorem dX1_fairestTurn_1 : decode cX1_fairestTurn 1 = .ok (.istore_n 3, 1) := by decide +kernel
theorem dX1_fairestTurn_2 : decode cX1_fairestTurn 2 = .ok (.aload_n 0, 1) := by decide +kernel
theorem dX1_fairestTurn_3 : decode cX1_fairestTurn 3 = .ok (.aload_n 1, 1) := by decide +kernel
theorem dX1_fairestTurn_4 : decode cX1_fairestTurn 4 = .ok (.iload_n 2, 1) := by decide +kernel
theorem dX1_fairestTurn_5 : decode cX1_fairestTurn 5 = .ok (.iload_n 3, 1) := by decide +kernel
theorem dX1_fairestTurn_6 : decode cX1_fairestTurn 6 = .ok (.invokevirtual 84, 3) := by decide +kernel
theorem dX1_fairestTurn_9 : decode cX1_fairestTurn 9 = .ok (.istore 4, 2) := by decide +kernel
theorem dX1_fairestTurn_11 : decode cX1_fairestTurn 11 = .ok (.iconst 2, 1) := by decide +kernel
theorem dX1_fairestTurn_12 : decode cX1_fairestTurn 12 = .ok (.istore 5, 2) := by decide +kernel
theorem dX1_fairestTurn_14 : decode cX1_fairestTurn 14 = .ok (.iload 5, 2) := by decide +kernel
theorem dX1_fairestTurn_16 : decode cX1_fairestTurn 16 = .ok (.bipush 8, 2) := by decide +kernel
theorem dX1_fairestTurn_18 : decode cX1_fairestTurn 18 = .ok (.if_icmp .gt 33, 3) := by decide +kernel
theorem dX1_fairestTurn_21 : decode cX1_fairestTurn 21 = .ok (.aload_n 0, 1) := by decide +kernel
theorem dX1_fairestTurn_22 : decode cX1_fairestTurn 22 = .ok (.aload_n 1, 1) := by decide +kernel
theorem dX1_fairestTurn_23 : decode cX1_fairestTurn 23 = .ok (.iload_n 2, 1) := by decide +kernel
theorem dX1_fairestTurn_24 : decode cX1_fairestTurn 24 = .ok (.iload 5, 2) := by decide +kernel
theorem dX1_fairestTurn_26 : decode cX1_fairestTurn 26 = .ok (.invokevirtual 84, 3) := by decide +kernel
theorem dX1_fairestTurn_29 : decode cX1_fairestTurn 29 = .ok (.istore 6, 2) := by decide +kernel
theorem dX1_fairestTurn_31 : decode cX1_fairestTurn 31 = .ok (.iload 6, 2) := by decide +kernel
theorem dX1_fairestTurn_33 : decode cX1_fairestTurn 33 = .ok (.iload 4, 2) := by decide +kernel
theorem dX1_fairestTurn_35 : decode cX1_fairestTurn 35 = .ok (.if_icmp .ge 10, 3) := by decide +kernel
theorem dX1_fairestTurn_38 : decode cX1_fairestTurn 38 = .ok (.iload 6, 2) := by decide +kernel
theorem dX1_fairestTurn_40 : decode cX1_fairestTurn 40 = .ok (.istore 4, 2) := by decide +kernel
theorem dX1_fairestTurn_42 : decode cX1_fairestTurn 42 = .ok (.iload 5, 2) := by decide +kernel
theorem dX1_fairestTurn_44 : decode cX1_fairestTurn 44 = .ok (.istore_n 3, 1) := by decide +kernel
theorem dX1_fairestTurn_45 : decode cX1_fairestTurn 45 = .ok (.iinc 5 1, 3) := by decide +kernel
theorem dX1_fairestTurn_48 : decode cX1_fairestTurn 48 = .ok (.goto (-34), 3) := by decide +kernel
theorem dX1_fairestTurn_51 : decode cX1_fairestTurn 51 = .ok (.iload_n 3, 1) := by decide +kernel
theorem dX1_fairestTurn_52 : decode cX1_fairestTurn 52 = .ok (.ireturn, 1) := by decide +kernel
theorem dX1_spreadTurnedBy_0 : decode cX1_spreadTurnedBy 0 = .ok (.aload_n 0, 1) := by decide +kernel
theorem dX1_spreadTurnedBy_1 : decode cX1_spreadTurnedBy 1 = .ok (.getfield 18, 3) := by decide +kernel
theorem dX1_spreadTurnedBy_4 : decode cX1_spreadTurnedBy 4 = .ok (.iconst 0, 1) := by decide +kernel
theorem dX1_spreadTurnedBy_5 : decode cX1_spreadTurnedBy 5 = .ok (.invokestatic 69, 3) := by decide +kernel
theorem dX1_spreadTurnedBy_8 : decode cX1_spreadTurnedBy 8 = .ok (.iconst 0, 1) := by decide +kernel
theorem dX1_spreadTurnedBy_9 : decode cX1_spreadTurnedBy 9 = .ok (.istore 4, 2) := by decide +kernel
theorem dX1_spreadTurnedBy_11 : decode cX1_spreadTurnedBy 11 = .ok (.iload 4, 2) := by decide +kernel
theorem dX1_spreadTurnedBy_13 : decode cX1_spreadTurnedBy 13 = .ok (.iload_n 2, 1) := by decide +kernel
theorem dX1_spreadTurnedBy_14 : decode cX1_spreadTurnedBy 14 = .ok (.if_icmp .ge 24, 3) := by decide +kernel
theorem dX1_spreadTurnedBy_17 : decode cX1_spreadTurnedBy 17 = .ok (.aload_n 0, 1) := by decide +kernel
theorem dX1_spreadTurnedBy_18 : decode cX1_spreadTurnedBy 18 = .ok (.aload_n 1, 1) := by decide +kernel
theorem dX1_spreadTurnedBy_19 : decode cX1_spreadTurnedBy 19 = .ok (.aload_n 1, 1) := by decide +kernel
theorem dX1_spreadTurnedBy_20 : decode cX1_spreadTurnedBy 20 = .ok (.getfield 29, 3) := by decide +kernel
theorem dX1_spreadTurnedBy_23 : decode cX1_spreadTurnedBy 23 = .ok (.iload 4, 2) := by decide +kernel
theorem dX1_spreadTurnedBy_25 : decode cX1_spreadTurnedBy 25 = .ok (.iload_n 3, 1) := by decide +kernel
theorem dX1_spreadTurnedBy_26 : decode cX1_spreadTurnedBy 26 = .ok (.imul, 1) := by decide +kernel
theorem dX1_spreadTurnedBy_27 : decode cX1_spreadTurnedBy 27 = .ok (.iadd, 1) := by decide +kernel
theorem dX1_spreadTurnedBy_28 : decode cX1_spreadTurnedBy 28 = .ok (.iconst 0, 1) := by decide +kernel
theorem dX1_spreadTurnedBy_29 : decode cX1_spreadTurnedBy 29 = .ok (.invokevirtual 88, 3) := by decide +kernel
theorem dX1_spreadTurnedBy_32 : decode cX1_spreadTurnedBy 32 = .ok (.iinc 4 1, 3) := by decide +kernel
theorem dX1_spreadTurnedBy_35 : decode cX1_spreadTurnedBy 35 = .ok (.goto (-24), 3) := by decide +kernel
theorem dX1_spreadTurnedBy_38 : decode cX1_spreadTurnedBy 38 = .ok (.aload_n 0, 1) := by decide +kernel
theorem dX1_spreadTurnedBy_39 : decode cX1_spreadTurnedBy 39 = .ok (.aload_n 1, 1) := by decide +kernel
theorem dX1_spreadTurnedBy_40 : decode cX1_spreadTurnedBy 40 = .ok (.invokevirtual 62, 3) := by decide +kernel
theorem dX1_spreadTurnedBy_43 : decode cX1_spreadTurnedBy 43 = .ok (.invokevirtual 92, 3) := by decide +kernel
theorem dX1_spreadTurnedBy_46 : decode cX1_spreadTurnedBy 46 = .ok (.ireturn, 1) := by decide +kernel
theorem dX1_spreadAsTurned_0 : decode cX1_spreadAsTurned 0 = .ok (.aload_n 0, 1) := by decide +kernel
theorem dX1_spreadAsTurned_1 : decode cX1_spreadAsTurned 1 = .ok (.getfield 18, 3) := by decide +kernel
theorem dX1_spreadAsTurned_4 : decode cX1_spreadAsTurned 4 = .ok (.iconst 0, 1) := by decide +kernel
theorem dX1_spreadAsTurned_5 : decode cX1_spreadAsTurned 5 = .ok (.invokestatic 69, 3) := by decide +kernel
theorem dX1_spreadAsTurned_8 : decode cX1_spreadAsTurned 8 = .ok (.aload_n 1, 1) := by decide +kernel
theorem dX1_spreadAsTurned_9 : decode cX1_spreadAsTurned 9 = .ok (.getfield 29, 3) := by decide +kernel
theorem dX1_spreadAsTurned_12 : decode cX1_spreadAsTurned 12 = .ok (.istore_n 3, 1) := by decide +kernel
theorem dX1_spreadAsTurned_13 : decode cX1_spreadAsTurned 13 = .ok (.iconst 0, 1) := by decide +kernel
theorem dX1_spreadAsTurned_14 : decode cX1_spreadAsTurned 14 = .ok (.istore 4, 2) := by decide +kernel
theorem dX1_spreadAsTurned_16 : decode cX1_spreadAsTurned 16 = .ok (.iload 4, 2) := by decide +kernel
theorem dX1_spreadAsTurned_18 : decode cX1_spreadAsTurned 18 = .ok (.iload_n 2, 1) := by decide +kernel
theorem dX1_spreadAsTurned_19 : decode cX1_spreadAsTurned 19 = .ok (.if_icmp .ge 34, 3) := by decide +kernel
theorem dX1_spreadAsTurned_22 : decode cX1_spreadAsTurned 22 = .ok (.aload_n 0, 1) := by decide +kernel
theorem dX1_spreadAsTurned_23 : decode cX1_spreadAsTurned 23 = .ok (.aload_n 1, 1) := by decide +kernel
theorem dX1_spreadAsTurned_24 : decode cX1_spreadAsTurned 24 = .ok (.iload_n 3, 1) := by decide +kernel
theorem dX1_spreadAsTurned_25 : decode cX1_spreadAsTurned 25 = .ok (.aload_n 1, 1) := by decide +kernel
theorem dX1_spreadAsTurned_26 : decode cX1_spreadAsTurned 26 = .ok (.iload 4, 2) := by decide +kernel
theorem dX1_spreadAsTurned_28 : decode cX1_spreadAsTurned 28 = .ok (.invokevirtual 40, 3) := by decide +kernel
theorem dX1_spreadAsTurned_31 : decode cX1_spreadAsTurned 31 = .ok (.invokevirtual 88, 3) := by decide +kernel
theorem dX1_spreadAsTurned_34 : decode cX1_spreadAsTurned 34 = .ok (.aload_n 1, 1) := by decide +kernel
theorem dX1_spreadAsTurned_35 : decode cX1_spreadAsTurned 35 = .ok (.iload_n 3, 1) := by decide +kernel
theorem dX1_spreadAsTurned_36 : decode cX1_spreadAsTurned 36 = .ok (.aload_n 1, 1) := by decide +kernel
theorem dX1_spreadAsTurned_37 : decode cX1_spreadAsTurned 37 = .ok (.getfield 48, 3) := by decide +kernel
theorem dX1_spreadAsTurned_40 : decode cX1_spreadAsTurned 40 = .ok (.iload 4, 2) := by decide +kernel
theorem dX1_spreadAsTurned_42 : decode cX1_spreadAsTurned 42 = .ok (.iadd, 1) := by decide +kernel
theorem dX1_spreadAsTurned_43 : decode cX1_spreadAsTurned 43 = .ok (.invokevirtual 51, 3) := by decide +kernel
theorem dX1_spreadAsTurned_46 : decode cX1_spreadAsTurned 46 = .ok (.istore_n 3, 1) := by decide +kernel
theorem dX1_spreadAsTurned_47 : decode cX1_spreadAsTurned 47 = .ok (.iinc 4 1, 3) := by decide +kernel
theorem dX1_spreadAsTurned_50 : decode cX1_spreadAsTurned 50 = .ok (.goto (-34), 3) := by decide +kernel
theorem dX1_spreadAsTurned_53 : decode cX1_spreadAsTurned 53 = .ok (.aload_n 0, 1) := by decide +kernel
theorem dX1_spreadAsTurned_54 : decode cX1_spreadAsTurned 54 = .ok (.aload_n 1, 1) := by decide +kernel
theorem dX1_spreadAsTurned_55 : decode cX1_spreadAsTurned 55 = .ok (.invokevirtual 62, 3) := by decide +kernel
theorem dX1_spreadAsTurned_58 : decode cX1_spreadAsTurned 58 = .ok (.invokevirtual 92, 3) := by decide +kernel
theorem dX1_spreadAsTurned_61 : decode cX1_spreadAsTurned 61 = .ok (.ireturn, 1) := by decide +kernel
theorem dX1_countWeek_0 : decode cX1_countWeek 0 = .ok (.iconst 0, 1) := by decide +kernel
theorem dX1_countWeek_1 : decode cX1_countWeek 1 = .ok (.istore 4, 2) := by decide +kernel
theorem dX1_countWeek_3 : decode cX1_countWeek 3 = .ok (.iload 4, 2) := by decide +kernel
theorem dX1_countWeek_5 : decode cX1_countWeek 5 = .ok (.aload_n 1, 1) := by decide +kernel
theorem dX1_countWeek_6 : decode cX1_countWeek 6 = .ok (.getfield 33, 3) := by decide +kernel
theorem dX1_countWeek_9 : decode cX1_countWeek 9 = .ok (.if_icmp .ge 38, 3) := by decide +kernel
theorem dX1_countWeek_12 : decode cX1_countWeek 12 = .ok (.aload_n 1, 1) := by decide +kernel
theorem dX1_countWeek_13 : decode cX1_countWeek 13 = .ok (.iload 4, 2) := by decide +kernel
theorem dX1_countWeek_15 : decode cX1_countWeek 15 = .ok (.iload_n 2, 1) := by decide +kernel
theorem dX1_countWeek_16 : decode cX1_countWeek 16 = .ok (.iload_n 3, 1) := by decide +kernel
theorem dX1_countWeek_17 : decode cX1_countWeek 17 = .ok (.invokevirtual 44, 3) := by decide +kernel
theorem dX1_countWeek_20 : decode cX1_countWeek 20 = .ok (.istore 5, 2) := by decide +kernel
theorem dX1_countWeek_22 : decode cX1_countWeek 22 = .ok (.iload 5, 2) := by decide +kernel
theorem dX1_countWeek_24 : decode cX1_countWeek 24 = .ok (.invokestatic 95, 3) := by decide +kernel
theorem dX1_countWeek_27 : decode cX1_countWeek 27 = .ok (.ifCond .eq 14, 3) := by decide +kernel
theorem dX1_countWeek_30 : decode cX1_countWeek 30 = .ok (.aload_n 0, 1) := by decide +kernel
theorem dX1_countWeek_31 : decode cX1_countWeek 31 = .ok (.getfield 18, 3) := by decide +kernel
theorem dX1_countWeek_34 : decode cX1_countWeek 34 = .ok (.iload 5, 2) := by decide +kernel
theorem dX1_countWeek_36 : decode cX1_countWeek 36 = .ok (.dup2, 1) := by decide +kernel
theorem dX1_countWeek_37 : decode cX1_countWeek 37 = .ok (.iaload, 1) := by decide +kernel
theorem dX1_countWeek_38 : decode cX1_countWeek 38 = .ok (.iconst 1, 1) := by decide +kernel
theorem dX1_countWeek_39 : decode cX1_countWeek 39 = .ok (.iadd, 1) := by decide +kernel
theorem dX1_countWeek_40 : decode cX1_countWeek 40 = .ok (.iastore, 1) := by decide +kernel
theorem dX1_countWeek_41 : decode cX1_countWeek 41 = .ok (.iinc 4 1, 3) := by decide +kernel
theorem dX1_countWeek_44 : decode cX1_countWeek 44 = .ok (.goto (-41), 3) := by decide +kernel
theorem dX1_countWeek_47 : decode cX1_countWeek 47 = .ok (.return_, 1) := by decide +kernel
theorem dX1_spreadOver_0 : decode cX1_spreadOver 0 = .ok (.iconst 0, 1) := by decide +kernel
theorem dX1_spreadOver_1 : decode cX1_spreadOver 1 = .ok (.istore_n 2, 1) := by decide +kernel
theorem dX1_spreadOver_2 : decode cX1_spreadOver 2 = .ok (.ldc 99, 2) := by decide +kernel
theorem dX1_spreadOver_4 : decode cX1_spreadOver 4 = .ok (.istore_n 3, 1) := by decide +kernel
theorem dX1_spreadOver_5 : decode cX1_spreadOver 5 = .ok (.iconst 0, 1) := by decide +kernel
theorem dX1_spreadOver_6 : decode cX1_spreadOver 6 = .ok (.istore 4, 2) := by decide +kernel
theorem dX1_spreadOver_8 : decode cX1_spreadOver 8 = .ok (.iload 4, 2) := by decide +kernel
theorem dX1_spreadOver_10 : decode cX1_spreadOver 10 = .ok (.bipush 6, 2) := by decide +kernel
theorem dX1_spreadOver_12 : decode cX1_spreadOver 12 = .ok (.if_icmp .ge 42, 3) := by decide +kernel
theorem dX1_spreadOver_15 : decode cX1_spreadOver 15 = .ok (.iload_n 1, 1) := by decide +kernel
theorem dX1_spreadOver_16 : decode cX1_spreadOver 16 = .ok (.iload 4, 2) := by decide +kernel
theorem dX1_spreadOver_18 : decode cX1_spreadOver 18 = .ok (.invokestatic 57, 3) := by decide +kernel
theorem dX1_spreadOver_21 : decode cX1_spreadOver 21 = .ok (.ifCond .eq 27, 3) := by decide +kernel
theorem dX1_spreadOver_24 : decode cX1_spreadOver 24 = .ok (.iload_n 2, 1) := by decide +kernel
theorem dX1_spreadOver_25 : decode cX1_spreadOver 25 = .ok (.aload_n 0, 1) := by decide +kernel
theorem dX1_spreadOver_26 : decode cX1_spreadOver 26 = .ok (.getfield 18, 3) := by decide +kernel
theorem dX1_spreadOver_29 : decode cX1_spreadOver 29 = .ok (.iload 4, 2) := by decide +kernel
theorem dX1_spreadOver_31 : decode cX1_spreadOver 31 = .ok (.iaload, 1) := by decide +kernel
theorem dX1_spreadOver_32 : decode cX1_spreadOver 32 = .ok (.invokestatic 100, 3) := by decide +kernel
theorem dX1_spreadOver_35 : decode cX1_spreadOver 35 = .ok (.istore_n 2, 1) := by decide +kernel
theorem dX1_spreadOver_36 : decode cX1_spreadOver 36 = .ok (.iload_n 3, 1) := by decide +kernel
theorem dX1_spreadOver_37 : decode cX1_spreadOver 37 = .ok (.aload_n 0, 1) := by decide +kernel
theorem dX1_spreadOver_38 : decode cX1_spreadOver 38 = .ok (.getfield 18, 3) := by decide +kernel
theorem dX1_spreadOver_41 : decode cX1_spreadOver 41 = .ok (.iload 4, 2) := by decide +kernel
theorem dX1_spreadOver_43 : decode cX1_spreadOver 43 = .ok (.iaload, 1) := by decide +kernel
theorem dX1_spreadOver_44 : decode cX1_spreadOver 44 = .ok (.invokestatic 105, 3) := by decide +kernel
theorem dX1_spreadOver_47 : decode cX1_spreadOver 47 = .ok (.istore_n 3, 1) := by decide +kernel
theorem dX1_spreadOver_48 : decode cX1_spreadOver 48 = .ok (.iinc 4 1, 3) := by decide +kernel
theorem dX1_spreadOver_51 : decode cX1_spreadOver 51 = .ok (.goto (-43), 3) := by decide +kernel
theorem dX1_spreadOver_54 : decode cX1_spreadOver 54 = .ok (.iload_n 1, 1) := by decide +kernel
theorem dX1_spreadOver_55 : decode cX1_spreadOver 55 = .ok (.ifCond .ne 7, 3) := by decide +kernel
theorem dX1_spreadOver_58 : decode cX1_spreadOver 58 = .ok (.iconst 0, 1) := by decide +kernel
theorem dX1_spreadOver_59 : decode cX1_spreadOver 59 = .ok (.goto 6, 3) := by decide +kernel
theorem dX1_spreadOver_62 : decode cX1_spreadOver 62 = .ok (.iload_n 2, 1) := by decide +kernel
theorem dX1_spreadOver_63 : decode cX1_spreadOver 63 = .ok (.iload_n 3, 1) := by decide +kernel
theorem dX1_spreadOver_64 : decode cX1_spreadOver 64 = .ok (.isub, 1) := by decide +kernel
theorem dX1_spreadOver_65 : decode cX1_spreadOver 65 = .ok (.ireturn, 1) := by decide +kernel
theorem dX1_swapFor_0 : decode cX1_swapFor 0 = .ok (.aload_n 1, 1) := by decide +kernel
theorem dX1_swapFor_1 : decode cX1_swapFor 1 = .ok (.iload 4, 2) := by decide +kernel
theorem dX1_swapFor_3 : decode cX1_swapFor 3 = .ok (.invokevirtual 108, 3) := by decide +kernel
theorem dX1_swapFor_6 : decode cX1_swapFor 6 = .ok (.istore 5, 2) := by decide +kernel
theorem dX1_swapFor_8 : decode cX1_swapFor 8 = .ok (.aload_n 1, 1) := by decide +kernel
theorem dX1_swapFor_9 : decode cX1_swapFor 9 = .ok (.iload 4, 2) := by decide +kernel
theorem dX1_swapFor_11 : decode cX1_swapFor 11 = .ok (.invokevirtual 40, 3) := by decide +kernel
theorem dX1_swapFor_14 : decode cX1_swapFor 14 = .ok (.istore 6, 2) := by decide +kernel
theorem dX1_swapFor_16 : decode cX1_swapFor 16 = .ok (.aload_n 1, 1) := by decide +kernel
theorem dX1_swapFor_17 : decode cX1_swapFor 17 = .ok (.iload_n 3, 1) := by decide +kernel
theorem dX1_swapFor_18 : decode cX1_swapFor 18 = .ok (.iload 5, 2) := by decide +kernel
theorem dX1_swapFor_20 : decode cX1_swapFor 20 = .ok (.iload 6, 2) := by decide +kernel
theorem dX1_swapFor_22 : decode cX1_swapFor 22 = .ok (.invokevirtual 54, 3) := by decide +kernel
theorem dX1_swapFor_25 : decode cX1_swapFor 25 = .ok (.iload_n 2, 1) := by decide +kernel
theorem dX1_swapFor_26 : decode cX1_swapFor 26 = .ok (.invokestatic 57, 3) := by decide +kernel
theorem dX1_swapFor_29 : decode cX1_swapFor 29 = .ok (.ifCond .eq 5, 3) := by decide +kernel
theorem dX1_swapFor_32 : decode cX1_swapFor 32 = .ok (.iconst 0, 1) := by decide +kernel
theorem dX1_swapFor_33 : decode cX1_swapFor 33 = .ok (.ireturn, 1) := by decide +kernel
theorem dX1_swapFor_34 : decode cX1_swapFor 34 = .ok (.aload_n 0, 1) := by decide +kernel
theorem dX1_swapFor_35 : decode cX1_swapFor 35 = .ok (.getfield 12, 3) := by decide +kernel
theorem dX1_swapFor_38 : decode cX1_swapFor 38 = .ok (.aload_n 1, 1) := by decide +kernel
theorem dX1_swapFor_39 : decode cX1_swapFor 39 = .ok (.invokevirtual 111, 3) := by decide +kernel
theorem dX1_swapFor_42 : decode cX1_swapFor 42 = .ok (.iconst 0, 1) := by decide +kernel
theorem dX1_swapFor_43 : decode cX1_swapFor 43 = .ok (.istore 7, 2) := by decide +kernel
theorem dX1_swapFor_45 : decode cX1_swapFor 45 = .ok (.iload 7, 2) := by decide +kernel
theorem dX1_swapFor_47 : decode cX1_swapFor 47 = .ok (.aload_n 0, 1) := by decide +kernel
theorem dX1_swapFor_48 : decode cX1_swapFor 48 = .ok (.getfield 12, 3) := by decide +kernel
theorem dX1_swapFor_51 : decode cX1_swapFor 51 = .ok (.getfield 33, 3) := by decide +kernel
theorem dX1_swapFor_54 : decode cX1_swapFor 54 = .ok (.if_icmp .ge 81, 3) := by decide +kernel
theorem dX1_swapFor_57 : decode cX1_swapFor 57 = .ok (.iload 7, 2) := by decide +kernel
theorem dX1_swapFor_59 : decode cX1_swapFor 59 = .ok (.iconst 1, 1) := by decide +kernel
theorem dX1_swapFor_60 : decode cX1_swapFor 60 = .ok (.iadd, 1) := by decide +kernel
theorem dX1_swapFor_61 : decode cX1_swapFor 61 = .ok (.istore 8, 2) := by decide +kernel
theorem dX1_swapFor_63 : decode cX1_swapFor 63 = .ok (.iload 8, 2) := by decide +kernel
theorem dX1_swapFor_65 : decode cX1_swapFor 65 = .ok (.aload_n 0, 1) := by decide +kernel
theorem dX1_swapFor_66 : decode cX1_swapFor 66 = .ok (.getfield 12, 3) := by decide +kernel
theorem dX1_swapFor_69 : decode cX1_swapFor 69 = .ok (.getfield 33, 3) := by decide +kernel
theorem dX1_swapFor_72 : decode cX1_swapFor 72 = .ok (.if_icmp .ge 57, 3) := by decide +kernel
theorem dX1_swapFor_75 : decode cX1_swapFor 75 = .ok (.aload_n 0, 1) := by decide +kernel
theorem dX1_swapFor_76 : decode cX1_swapFor 76 = .ok (.iload 7, 2) := by decide +kernel
theorem dX1_swapFor_78 : decode cX1_swapFor 78 = .ok (.iload 8, 2) := by decide +kernel
theorem dX1_swapFor_80 : decode cX1_swapFor 80 = .ok (.invokevirtual 115, 3) := by decide +kernel
theorem dX1_swapFor_83 : decode cX1_swapFor 83 = .ok (.aload_n 0, 1) := by decide +kernel
theorem dX1_swapFor_84 : decode cX1_swapFor 84 = .ok (.getfield 12, 3) := by decide +kernel
theorem dX1_swapFor_87 : decode cX1_swapFor 87 = .ok (.iload_n 3, 1) := by decide +kernel
theorem dX1_swapFor_88 : decode cX1_swapFor 88 = .ok (.iload 5, 2) := by decide +kernel
theorem dX1_swapFor_90 : decode cX1_swapFor 90 = .ok (.iload 6, 2) := by decide +kernel
theorem dX1_swapFor_92 : decode cX1_swapFor 92 = .ok (.invokevirtual 54, 3) := by decide +kernel
theorem dX1_swapFor_95 : decode cX1_swapFor 95 = .ok (.iload_n 2, 1) := by decide +kernel
theorem dX1_swapFor_96 : decode cX1_swapFor 96 = .ok (.invokestatic 57, 3) := by decide +kernel
theorem dX1_swapFor_99 : decode cX1_swapFor 99 = .ok (.istore 9, 2) := by decide +kernel
theorem dX1_swapFor_101 : decode cX1_swapFor 101 = .ok (.aload_n 0, 1) := by decide +kernel
theorem dX1_swapFor_102 : decode cX1_swapFor 102 = .ok (.iload 7, 2) := by decide +kernel
theorem dX1_swapFor_104 : decode cX1_swapFor 104 = .ok (.iload 8, 2) := by decide +kernel
theorem dX1_swapFor_106 : decode cX1_swapFor 106 = .ok (.invokevirtual 115, 3) := by decide +kernel
theorem dX1_swapFor_109 : decode cX1_swapFor 109 = .ok (.iload 9, 2) := by decide +kernel
theorem dX1_swapFor_111 : decode cX1_swapFor 111 = .ok (.ifCond .eq 12, 3) := by decide +kernel
theorem dX1_swapFor_114 : decode cX1_swapFor 114 = .ok (.bipush 10, 2) := by decide +kernel
theorem dX1_swapFor_116 : decode cX1_swapFor 116 = .ok (.iload 7, 2) := by decide +kernel
theorem dX1_swapFor_118 : decode cX1_swapFor 118 = .ok (.imul, 1) := by decide +kernel
theorem dX1_swapFor_119 : decode cX1_swapFor 119 = .ok (.iload 8, 2) := by decide +kernel
theorem dX1_swapFor_121 : decode cX1_swapFor 121 = .ok (.iadd, 1) := by decide +kernel
theorem dX1_swapFor_122 : decode cX1_swapFor 122 = .ok (.ireturn, 1) := by decide +kernel
theorem dX1_swapFor_123 : decode cX1_swapFor 123 = .ok (.iinc 8 1, 3) := by decide +kernel
theorem dX1_swapFor_126 : decode cX1_swapFor 126 = .ok (.goto (-63), 3) := by decide +kernel
theorem dX1_swapFor_129 : decode cX1_swapFor 129 = .ok (.iinc 7 1, 3) := by decide +kernel
theorem dX1_swapFor_132 : decode cX1_swapFor 132 = .ok (.goto (-87), 3) := by decide +kernel
theorem dX1_swapFor_135 : decode cX1_swapFor 135 = .ok (.ldc 61, 2) := by decide +kernel
theorem dX1_swapFor_137 : decode cX1_swapFor 137 = .ok (.ireturn, 1) := by decide +kernel
theorem dX1_swapNames_0 : decode cX1_swapNames 0 = .ok (.iload_n 1, 1) := by decide +kernel
theorem dX1_swapNames_1 : decode cX1_swapNames 1 = .ok (.iconst 0, 1) := by decide +kernel
theorem dX1_swapNames_2 : decode cX1_swapNames 2 = .ok (.bipush 7, 2) := by decide +kernel
theorem dX1_swapNames_4 : decode cX1_swapNames 4 = .ok (.invokestatic 119, 3) := by decide +kernel
theorem dX1_swapNames_7 : decode cX1_swapNames 7 = .ok (.ifCond .eq 51, 3) := by decide +kernel
theorem dX1_swapNames_10 : decode cX1_swapNames 10 = .ok (.iload_n 2, 1) := by decide +kernel
theorem dX1_swapNames_11 : decode cX1_swapNames 11 = .ok (.iconst 0, 1) := by decide +kernel
theorem dX1_swapNames_12 : decode cX1_swapNames 12 = .ok (.bipush 7, 2) := by decide +kernel
theorem dX1_swapNames_14 : decode cX1_swapNames 14 = .ok (.invokestatic 119, 3) := by decide +kernel
theorem dX1_swapNames_17 : decode cX1_swapNames 17 = .ok (.ifCond .eq 41, 3) := by decide +kernel
theorem dX1_swapNames_20 : decode cX1_swapNames 20 = .ok (.aload_n 0, 1) := by decide +kernel
theorem dX1_swapNames_21 : decode cX1_swapNames 21 = .ok (.getfield 12, 3) := by decide +kernel
theorem dX1_swapNames_24 : decode cX1_swapNames 24 = .ok (.getfield 123, 3) := by decide +kernel
theorem dX1_swapNames_27 : decode cX1_swapNames 27 = .ok (.iload_n 1, 1) := by decide +kernel
theorem dX1_swapNames_28 : decode cX1_swapNames 28 = .ok (.iaload, 1) := by decide +kernel
theorem dX1_swapNames_29 : decode cX1_swapNames 29 = .ok (.istore_n 3, 1) := by decide +kernel
theorem dX1_swapNames_30 : decode cX1_swapNames 30 = .ok (.aload_n 0, 1) := by decide +kernel
theorem dX1_swapNames_31 : decode cX1_swapNames 31 = .ok (.getfield 12, 3) := by decide +kernel
theorem dX1_swapNames_34 : decode cX1_swapNames 34 = .ok (.getfield 123, 3) := by decide +kernel
theorem dX1_swapNames_37 : decode cX1_swapNames 37 = .ok (.iload_n 1, 1) := by decide +kernel
theorem dX1_swapNames_38 : decode cX1_swapNames 38 = .ok (.aload_n 0, 1) := by decide +kernel
theorem dX1_swapNames_39 : decode cX1_swapNames 39 = .ok (.getfield 12, 3) := by decide +kernel
theorem dX1_swapNames_42 : decode cX1_swapNames 42 = .ok (.getfield 123, 3) := by decide +kernel
theorem dX1_swapNames_45 : decode cX1_swapNames 45 = .ok (.iload_n 2, 1) := by decide +kernel
theorem dX1_swapNames_46 : decode cX1_swapNames 46 = .ok (.iaload, 1) := by decide +kernel
theorem dX1_swapNames_47 : decode cX1_swapNames 47 = .ok (.iastore, 1) := by decide +kernel
theorem dX1_swapNames_48 : decode cX1_swapNames 48 = .ok (.aload_n 0, 1) := by decide +kernel
theorem dX1_swapNames_49 : decode cX1_swapNames 49 = .ok (.getfield 12, 3) := by decide +kernel
theorem dX1_swapNames_52 : decode cX1_swapNames 52 = .ok (.getfield 123, 3) := by decide +kernel
theorem dX1_swapNames_55 : decode cX1_swapNames 55 = .ok (.iload_n 2, 1) := by decide +kernel
theorem dX1_swapNames_56 : decode cX1_swapNames 56 = .ok (.iload_n 3, 1) := by decide +kernel
theorem dX1_swapNames_57 : decode cX1_swapNames 57 = .ok (.iastore, 1) := by decide +kernel
theorem dX1_swapNames_58 : decode cX1_swapNames 58 = .ok (.return_, 1) := by decide +kernel
theorem dX1_nameToWrite_0 : decode cX1_nameToWrite 0 = .ok (.aload_n 1, 1) := by decide +kernel
theorem dX1_nameToWrite_1 : decode cX1_nameToWrite 1 = .ok (.invokevirtual 126, 3) := by decide +kernel
theorem dX1_nameToWrite_4 : decode cX1_nameToWrite 4 = .ok (.istore_n 2, 1) := by decide +kernel
theorem dX1_nameToWrite_5 : decode cX1_nameToWrite 5 = .ok (.iload_n 2, 1) := by decide +kernel
theorem dX1_nameToWrite_6 : decode cX1_nameToWrite 6 = .ok (.iconst 0, 1) := by decide +kernel
theorem dX1_nameToWrite_7 : decode cX1_nameToWrite 7 = .ok (.bipush 7, 2) := by decide +kernel
theorem dX1_nameToWrite_9 : decode cX1_nameToWrite 9 = .ok (.invokestatic 119, 3) := by decide +kernel
theorem dX1_nameToWrite_12 : decode cX1_nameToWrite 12 = .ok (.ifCond .ne 6, 3) := by decide +kernel
theorem dX1_nameToWrite_15 : decode cX1_nameToWrite 15 = .ok (.ldc 61, 2) := by decide +kernel
theorem dX1_nameToWrite_17 : decode cX1_nameToWrite 17 = .ok (.ireturn, 1) := by decide +kernel
theorem dX1_nameToWrite_18 : decode cX1_nameToWrite 18 = .ok (.aload_n 0, 1) := by decide +kernel
theorem dX1_nameToWrite_19 : decode cX1_nameToWrite 19 = .ok (.getfield 12, 3) := by decide +kernel
theorem dX1_nameToWrite_22 : decode cX1_nameToWrite 22 = .ok (.aload_n 1, 1) := by decide +kernel
theorem dX1_nameToWrite_23 : decode cX1_nameToWrite 23 = .ok (.invokevirtual 111, 3) := by decide +kernel
theorem dX1_nameToWrite_26 : decode cX1_nameToWrite 26 = .ok (.ldc 61, 2) := by decide +kernel
theorem dX1_nameToWrite_28 : decode cX1_nameToWrite 28 = .ok (.istore_n 3, 1) := by decide +kernel
theorem dX1_nameToWrite_29 : decode cX1_nameToWrite 29 = .ok (.ldc 99, 2) := by decide +kernel
theorem dX1_nameToWrite_31 : decode cX1_nameToWrite 31 = .ok (.istore 4, 2) := by decide +kernel
theorem dX1_nameToWrite_33 : decode cX1_nameToWrite 33 = .ok (.iconst 0, 1) := by decide +kernel
theorem dX1_nameToWrite_34 : decode cX1_nameToWrite 34 = .ok (.istore 5, 2) := by decide +kernel
theorem dX1_nameToWrite_36 : decode cX1_nameToWrite 36 = .ok (.iload 5, 2) := by decide +kernel
theorem dX1_nameToWrite_38 : decode cX1_nameToWrite 38 = .ok (.bipush 6, 2) := by decide +kernel
theorem dX1_nameToWrite_40 : decode cX1_nameToWrite 40 = .ok (.if_icmp .ge 46, 3) := by decide +kernel
theorem dX1_nameToWrite_43 : decode cX1_nameToWrite 43 = .ok (.aload_n 0, 1) := by decide +kernel
theorem dX1_nameToWrite_44 : decode cX1_nameToWrite 44 = .ok (.getfield 12, 3) := by decide +kernel
theorem dX1_nameToWrite_47 : decode cX1_nameToWrite 47 = .ok (.getfield 123, 3) := by decide +kernel
theorem dX1_nameToWrite_50 : decode cX1_nameToWrite 50 = .ok (.iload_n 2, 1) := by decide +kernel
theorem dX1_nameToWrite_51 : decode cX1_nameToWrite 51 = .ok (.iload 5, 2) := by decide +kernel
theorem dX1_nameToWrite_53 : decode cX1_nameToWrite 53 = .ok (.iastore, 1) := by decide +kernel
theorem dX1_nameToWrite_54 : decode cX1_nameToWrite 54 = .ok (.aload_n 0, 1) := by decide +kernel
theorem dX1_nameToWrite_55 : decode cX1_nameToWrite 55 = .ok (.aload_n 0, 1) := by decide +kernel
theorem dX1_nameToWrite_56 : decode cX1_nameToWrite 56 = .ok (.getfield 12, 3) := by decide +kernel
theorem dX1_nameToWrite_59 : decode cX1_nameToWrite 59 = .ok (.bipush 12, 2) := by decide +kernel
theorem dX1_nameToWrite_61 : decode cX1_nameToWrite 61 = .ok (.invokevirtual 129, 3) := by decide +kernel
theorem dX1_nameToWrite_64 : decode cX1_nameToWrite 64 = .ok (.istore 6, 2) := by decide +kernel
theorem dX1_nameToWrite_66 : decode cX1_nameToWrite 66 = .ok (.iload 6, 2) := by decide +kernel
theorem dX1_nameToWrite_68 : decode cX1_nameToWrite 68 = .ok (.iload 4, 2) := by decide +kernel
theorem dX1_nameToWrite_70 : decode cX1_nameToWrite 70 = .ok (.if_icmp .ge 10, 3) := by decide +kernel
theorem dX1_nameToWrite_73 : decode cX1_nameToWrite 73 = .ok (.iload 6, 2) := by decide +kernel
theorem dX1_nameToWrite_75 : decode cX1_nameToWrite 75 = .ok (.istore 4, 2) := by decide +kernel
theorem dX1_nameToWrite_77 : decode cX1_nameToWrite 77 = .ok (.iload 5, 2) := by decide +kernel
theorem dX1_nameToWrite_79 : decode cX1_nameToWrite 79 = .ok (.istore_n 3, 1) := by decide +kernel
theorem dX1_nameToWrite_80 : decode cX1_nameToWrite 80 = .ok (.iinc 5 1, 3) := by decide +kernel
theorem dX1_nameToWrite_83 : decode cX1_nameToWrite 83 = .ok (.goto (-47), 3) := by decide +kernel
theorem dX1_nameToWrite_86 : decode cX1_nameToWrite 86 = .ok (.iload_n 3, 1) := by decide +kernel
theorem dX1_nameToWrite_87 : decode cX1_nameToWrite 87 = .ok (.ireturn, 1) := by decide +kernel
theorem dX1_turnedSeen_0 : decode cX1_turnedSeen 0 = .ok (.iconst 0, 1) := by decide +kernel
theorem dX1_turnedSeen_1 : decode cX1_turnedSeen 1 = .ok (.istore 7, 2) := by decide +kernel
theorem dX1_turnedSeen_3 : decode cX1_turnedSeen 3 = .ok (.iconst 0, 1) := by decide +kernel
theorem dX1_turnedSeen_4 : decode cX1_turnedSeen 4 = .ok (.istore 8, 2) := by decide +kernel
theorem dX1_turnedSeen_6 : decode cX1_turnedSeen 6 = .ok (.iload 8, 2) := by decide +kernel
theorem dX1_turnedSeen_8 : decode cX1_turnedSeen 8 = .ok (.aload_n 1, 1) := by decide +kernel
theorem dX1_turnedSeen_9 : decode cX1_turnedSeen 9 = .ok (.getfield 133, 3) := by decide +kernel
theorem dX1_turnedSeen_12 : decode cX1_turnedSeen 12 = .ok (.if_icmp .ge 107, 3) := by decide +kernel
theorem dX1_turnedSeen_15 : decode cX1_turnedSeen 15 = .ok (.iload 8, 2) := by decide +kernel
theorem dX1_turnedSeen_17 : decode cX1_turnedSeen 17 = .ok (.istore 9, 2) := by decide +kernel
theorem dX1_turnedSeen_19 : decode cX1_turnedSeen 19 = .ok (.iconst 1, 1) := by decide +kernel
theorem dX1_turnedSeen_20 : decode cX1_turnedSeen 20 = .ok (.istore 10, 2) := by decide +kernel
theorem dX1_turnedSeen_22 : decode cX1_turnedSeen 22 = .ok (.iconst 0, 1) := by decide +kernel
theorem dX1_turnedSeen_23 : decode cX1_turnedSeen 23 = .ok (.istore 11, 2) := by decide +kernel
theorem dX1_turnedSeen_25 : decode cX1_turnedSeen 25 = .ok (.iload 11, 2) := by decide +kernel
theorem dX1_turnedSeen_27 : decode cX1_turnedSeen 27 = .ok (.iload 6, 2) := by decide +kernel
theorem dX1_turnedSeen_29 : decode cX1_turnedSeen 29 = .ok (.if_icmp .ge 70, 3) := by decide +kernel
theorem dX1_turnedSeen_32 : decode cX1_turnedSeen 32 = .ok (.iload 10, 2) := by decide +kernel
theorem dX1_turnedSeen_34 : decode cX1_turnedSeen 34 = .ok (.ifCond .eq 65, 3) := by decide +kernel
theorem dX1_turnedSeen_37 : decode cX1_turnedSeen 37 = .ok (.aload_n 1, 1) := by decide +kernel
theorem dX1_turnedSeen_38 : decode cX1_turnedSeen 38 = .ok (.iload_n 2, 1) := by decide +kernel
theorem dX1_turnedSeen_39 : decode cX1_turnedSeen 39 = .ok (.iload 9, 2) := by decide +kernel
theorem dX1_turnedSeen_41 : decode cX1_turnedSeen 41 = .ok (.aload_n 1, 1) := by decide +kernel
theorem dX1_turnedSeen_42 : decode cX1_turnedSeen 42 = .ok (.iload 11, 2) := by decide +kernel
theorem dX1_turnedSeen_44 : decode cX1_turnedSeen 44 = .ok (.invokevirtual 40, 3) := by decide +kernel
theorem dX1_turnedSeen_47 : decode cX1_turnedSeen 47 = .ok (.invokevirtual 54, 3) := by decide +kernel
theorem dX1_turnedSeen_50 : decode cX1_turnedSeen 50 = .ok (.istore 12, 2) := by decide +kernel
theorem dX1_turnedSeen_52 : decode cX1_turnedSeen 52 = .ok (.iload 12, 2) := by decide +kernel
theorem dX1_turnedSeen_54 : decode cX1_turnedSeen 54 = .ok (.invokestatic 136, 3) := by decide +kernel
theorem dX1_turnedSeen_57 : decode cX1_turnedSeen 57 = .ok (.aload_n 3, 1) := by decide +kernel
theorem dX1_turnedSeen_58 : decode cX1_turnedSeen 58 = .ok (.iload 4, 2) := by decide +kernel
theorem dX1_turnedSeen_60 : decode cX1_turnedSeen 60 = .ok (.iload 5, 2) := by decide +kernel
theorem dX1_turnedSeen_62 : decode cX1_turnedSeen 62 = .ok (.iload 11, 2) := by decide +kernel
theorem dX1_turnedSeen_64 : decode cX1_turnedSeen 64 = .ok (.iadd, 1) := by decide +kernel
theorem dX1_turnedSeen_65 : decode cX1_turnedSeen 65 = .ok (.invokevirtual 139, 3) := by decide +kernel
theorem dX1_turnedSeen_68 : decode cX1_turnedSeen 68 = .ok (.if_icmp .ne 7, 3) := by decide +kernel
theorem dX1_turnedSeen_71 : decode cX1_turnedSeen 71 = .ok (.iconst 1, 1) := by decide +kernel
theorem dX1_turnedSeen_72 : decode cX1_turnedSeen 72 = .ok (.goto 4, 3) := by decide +kernel
theorem dX1_turnedSeen_75 : decode cX1_turnedSeen 75 = .ok (.iconst 0, 1) := by decide +kernel
theorem dX1_turnedSeen_76 : decode cX1_turnedSeen 76 = .ok (.istore 10, 2) := by decide +kernel
theorem dX1_turnedSeen_78 : decode cX1_turnedSeen 78 = .ok (.aload_n 1, 1) := by decide +kernel
theorem dX1_turnedSeen_79 : decode cX1_turnedSeen 79 = .ok (.iload 9, 2) := by decide +kernel
theorem dX1_turnedSeen_81 : decode cX1_turnedSeen 81 = .ok (.aload_n 1, 1) := by decide +kernel
theorem dX1_turnedSeen_82 : decode cX1_turnedSeen 82 = .ok (.getfield 48, 3) := by decide +kernel
theorem dX1_turnedSeen_85 : decode cX1_turnedSeen 85 = .ok (.iload 11, 2) := by decide +kernel
theorem dX1_turnedSeen_87 : decode cX1_turnedSeen 87 = .ok (.iadd, 1) := by decide +kernel
theorem dX1_turnedSeen_88 : decode cX1_turnedSeen 88 = .ok (.invokevirtual 51, 3) := by decide +kernel
theorem dX1_turnedSeen_91 : decode cX1_turnedSeen 91 = .ok (.istore 9, 2) := by decide +kernel
theorem dX1_turnedSeen_93 : decode cX1_turnedSeen 93 = .ok (.iinc 11 1, 3) := by decide +kernel
theorem dX1_turnedSeen_96 : decode cX1_turnedSeen 96 = .ok (.goto (-71), 3) := by decide +kernel
theorem dX1_turnedSeen_99 : decode cX1_turnedSeen 99 = .ok (.iload 10, 2) := by decide +kernel
theorem dX1_turnedSeen_101 : decode cX1_turnedSeen 101 = .ok (.ifCond .eq 12, 3) := by decide +kernel
theorem dX1_turnedSeen_104 : decode cX1_turnedSeen 104 = .ok (.iload 7, 2) := by decide +kernel
theorem dX1_turnedSeen_106 : decode cX1_turnedSeen 106 = .ok (.iconst 1, 1) := by decide +kernel
theorem dX1_turnedSeen_107 : decode cX1_turnedSeen 107 = .ok (.iload 8, 2) := by decide +kernel
theorem dX1_turnedSeen_109 : decode cX1_turnedSeen 109 = .ok (.ishl, 1) := by decide +kernel
theorem dX1_turnedSeen_110 : decode cX1_turnedSeen 110 = .ok (.ior, 1) := by decide +kernel
theorem dX1_turnedSeen_111 : decode cX1_turnedSeen 111 = .ok (.istore 7, 2) := by decide +kernel
theorem dX1_turnedSeen_113 : decode cX1_turnedSeen 113 = .ok (.iinc 8 1, 3) := by decide +kernel
theorem dX1_turnedSeen_116 : decode cX1_turnedSeen 116 = .ok (.goto (-110), 3) := by decide +kernel
theorem dX1_turnedSeen_119 : decode cX1_turnedSeen 119 = .ok (.iload 7, 2) := by decide +kernel
theorem dX1_turnedSeen_121 : decode cX1_turnedSeen 121 = .ok (.ireturn, 1) := by decide +kernel
theorem dX1_leastOf_0 : decode cX1_leastOf 0 = .ok (.iconst 0, 1) := by decide +kernel
theorem dX1_leastOf_1 : decode cX1_leastOf 1 = .ok (.istore_n 1, 1) := by decide +kernel
theorem dX1_leastOf_2 : decode cX1_leastOf 2 = .ok (.iload_n 1, 1) := by decide +kernel
theorem dX1_leastOf_3 : decode cX1_leastOf 3 = .ok (.bipush 6, 2) := by decide +kernel
theorem dX1_leastOf_5 : decode cX1_leastOf 5 = .ok (.if_icmp .ge 19, 3) := by decide +kernel
theorem dX1_leastOf_8 : decode cX1_leastOf 8 = .ok (.iload_n 0, 1) := by decide +kernel
theorem dX1_leastOf_9 : decode cX1_leastOf 9 = .ok (.iload_n 1, 1) := by decide +kernel
theorem dX1_leastOf_10 : decode cX1_leastOf 10 = .ok (.invokestatic 57, 3) := by decide +kernel
theorem dX1_leastOf_13 : decode cX1_leastOf 13 = .ok (.ifCond .eq 5, 3) := by decide +kernel
theorem dX1_leastOf_16 : decode cX1_leastOf 16 = .ok (.iload_n 1, 1) := by decide +kernel
theorem dX1_leastOf_17 : decode cX1_leastOf 17 = .ok (.ireturn, 1) := by decide +kernel
theorem dX1_leastOf_18 : decode cX1_leastOf 18 = .ok (.iinc 1 1, 3) := by decide +kernel
theorem dX1_leastOf_21 : decode cX1_leastOf 21 = .ok (.goto (-19), 3) := by decide +kernel
theorem dX1_leastOf_24 : decode cX1_leastOf 24 = .ok (.iconst (-1), 1) := by decide +kernel
theorem dX1_leastOf_25 : decode cX1_leastOf 25 = .ok (.ireturn, 1) := by decide +kernel
theorem dX1_kindsSeen_0 : decode cX1_kindsSeen 0 = .ok (.aload_n 1, 1) := by decide +kernel
theorem dX1_kindsSeen_1 : decode cX1_kindsSeen 1 = .ok (.iload_n 2, 1) := by decide +kernel
theorem dX1_kindsSeen_2 : decode cX1_kindsSeen 2 = .ok (.invokevirtual 144, 3) := by decide +kernel
theorem dX1_kindsSeen_5 : decode cX1_kindsSeen 5 = .ok (.astore 7, 2) := by decide +kernel
theorem dX1_kindsSeen_7 : decode cX1_kindsSeen 7 = .ok (.aload 7, 2) := by decide +kernel
theorem dX1_kindsSeen_9 : decode cX1_kindsSeen 9 = .ok (.ifnull 12, 3) := by decide +kernel
theorem dX1_kindsSeen_12 : decode cX1_kindsSeen 12 = .ok (.iload_n 2, 1) := by decide +kernel
theorem dX1_kindsSeen_13 : decode cX1_kindsSeen 13 = .ok (.iconst 0, 1) := by decide +kernel
theorem dX1_kindsSeen_14 : decode cX1_kindsSeen 14 = .ok (.iconst 3, 1) := by decide +kernel
theorem dX1_kindsSeen_15 : decode cX1_kindsSeen 15 = .ok (.invokestatic 119, 3) := by decide +kernel
theorem dX1_kindsSeen_18 : decode cX1_kindsSeen 18 = .ok (.ifCond .ne 5, 3) := by decide +kernel
theorem dX1_kindsSeen_21 : decode cX1_kindsSeen 21 = .ok (.iconst 0, 1) := by decide +kernel
theorem dX1_kindsSeen_22 : decode cX1_kindsSeen 22 = .ok (.ireturn, 1) := by decide +kernel
theorem dX1_kindsSeen_23 : decode cX1_kindsSeen 23 = .ok (.aload_n 0, 1) := by decide +kernel
theorem dX1_kindsSeen_24 : decode cX1_kindsSeen 24 = .ok (.getfield 12, 3) := by decide +kernel
theorem dX1_kindsSeen_27 : decode cX1_kindsSeen 27 = .ok (.aload_n 1, 1) := by decide +kernel
theorem dX1_kindsSeen_28 : decode cX1_kindsSeen 28 = .ok (.invokevirtual 111, 3) := by decide +kernel
theorem dX1_kindsSeen_31 : decode cX1_kindsSeen 31 = .ok (.iconst 0, 1) := by decide +kernel
theorem dX1_kindsSeen_32 : decode cX1_kindsSeen 32 = .ok (.istore 8, 2) := by decide +kernel
theorem dX1_kindsSeen_34 : decode cX1_kindsSeen 34 = .ok (.iconst 1, 1) := by decide +kernel
theorem dX1_kindsSeen_35 : decode cX1_kindsSeen 35 = .ok (.istore 9, 2) := by decide +kernel
theorem dX1_kindsSeen_37 : decode cX1_kindsSeen 37 = .ok (.iload 9, 2) := by decide +kernel
theorem dX1_kindsSeen_39 : decode cX1_kindsSeen 39 = .ok (.iconst 5, 1) := by decide +kernel
theorem dX1_kindsSeen_40 : decode cX1_kindsSeen 40 = .ok (.if_icmp .gt 120, 3) := by decide +kernel
theorem dX1_kindsSeen_43 : decode cX1_kindsSeen 43 = .ok (.aload_n 0, 1) := by decide +kernel
theorem dX1_kindsSeen_44 : decode cX1_kindsSeen 44 = .ok (.getfield 12, 3) := by decide +kernel
theorem dX1_kindsSeen_47 : decode cX1_kindsSeen 47 = .ok (.getfield 148, 3) := by decide +kernel
theorem dX1_kindsSeen_50 : decode cX1_kindsSeen 50 = .ok (.iload_n 2, 1) := by decide +kernel
theorem dX1_kindsSeen_51 : decode cX1_kindsSeen 51 = .ok (.iload 9, 2) := by decide +kernel
theorem dX1_kindsSeen_53 : decode cX1_kindsSeen 53 = .ok (.iload_n 2, 1) := by decide +kernel
theorem dX1_kindsSeen_54 : decode cX1_kindsSeen 54 = .ok (.aload 7, 2) := by decide +kernel
theorem dX1_kindsSeen_56 : decode cX1_kindsSeen 56 = .ok (.getfield 152, 3) := by decide +kernel
theorem dX1_kindsSeen_59 : decode cX1_kindsSeen 59 = .ok (.invokestatic 157, 3) := by decide +kernel
theorem dX1_kindsSeen_62 : decode cX1_kindsSeen 62 = .ok (.aastore, 1) := by decide +kernel
theorem dX1_kindsSeen_63 : decode cX1_kindsSeen 63 = .ok (.aload_n 0, 1) := by decide +kernel
theorem dX1_kindsSeen_64 : decode cX1_kindsSeen 64 = .ok (.getfield 12, 3) := by decide +kernel
theorem dX1_kindsSeen_67 : decode cX1_kindsSeen 67 = .ok (.getfield 29, 3) := by decide +kernel
theorem dX1_kindsSeen_70 : decode cX1_kindsSeen 70 = .ok (.istore 10, 2) := by decide +kernel
theorem dX1_kindsSeen_72 : decode cX1_kindsSeen 72 = .ok (.iconst 1, 1) := by decide +kernel
theorem dX1_kindsSeen_73 : decode cX1_kindsSeen 73 = .ok (.istore 11, 2) := by decide +kernel
theorem dX1_kindsSeen_75 : decode cX1_kindsSeen 75 = .ok (.iconst 0, 1) := by decide +kernel
theorem dX1_kindsSeen_76 : decode cX1_kindsSeen 76 = .ok (.istore 12, 2) := by decide +kernel
theorem dX1_kindsSeen_78 : decode cX1_kindsSeen 78 = .ok (.iload 12, 2) := by decide +kernel
theorem dX1_kindsSeen_80 : decode cX1_kindsSeen 80 = .ok (.iload 6, 2) := by decide +kernel
theorem dX1_kindsSeen_82 : decode cX1_kindsSeen 82 = .ok (.if_icmp .ge 58, 3) := by decide +kernel
theorem dX1_kindsSeen_85 : decode cX1_kindsSeen 85 = .ok (.iload 11, 2) := by decide +kernel
theorem dX1_kindsSeen_87 : decode cX1_kindsSeen 87 = .ok (.ifCond .eq 53, 3) := by decide +kernel
theorem dX1_kindsSeen_90 : decode cX1_kindsSeen 90 = .ok (.aload_n 0, 1) := by decide +kernel
theorem dX1_kindsSeen_91 : decode cX1_kindsSeen 91 = .ok (.getfield 12, 3) := by decide +kernel
theorem dX1_kindsSeen_94 : decode cX1_kindsSeen 94 = .ok (.iload 10, 2) := by decide +kernel
theorem dX1_kindsSeen_96 : decode cX1_kindsSeen 96 = .ok (.aload_n 0, 1) := by decide +kernel
theorem dX1_kindsSeen_97 : decode cX1_kindsSeen 97 = .ok (.getfield 12, 3) := by decide +kernel
theorem dX1_kindsSeen_100 : decode cX1_kindsSeen 100 = .ok (.getfield 48, 3) := by decide +kernel
theorem dX1_kindsSeen_103 : decode cX1_kindsSeen 103 = .ok (.iload 12, 2) := by decide +kernel
theorem dX1_kindsSeen_105 : decode cX1_kindsSeen 105 = .ok (.iadd, 1) := by decide +kernel
theorem dX1_kindsSeen_106 : decode cX1_kindsSeen 106 = .ok (.invokevirtual 51, 3) := by decide +kernel
theorem dX1_kindsSeen_109 : decode cX1_kindsSeen 109 = .ok (.istore 10, 2) := by decide +kernel
theorem dX1_kindsSeen_111 : decode cX1_kindsSeen 111 = .ok (.iload 10, 2) := by decide +kernel
theorem dX1_kindsSeen_113 : decode cX1_kindsSeen 113 = .ok (.aload_n 3, 1) := by decide +kernel
theorem dX1_kindsSeen_114 : decode cX1_kindsSeen 114 = .ok (.iload 4, 2) := by decide +kernel
theorem dX1_kindsSeen_116 : decode cX1_kindsSeen 116 = .ok (.iload 5, 2) := by decide +kernel
theorem dX1_kindsSeen_118 : decode cX1_kindsSeen 118 = .ok (.iload 12, 2) := by decide +kernel
theorem dX1_kindsSeen_120 : decode cX1_kindsSeen 120 = .ok (.iadd, 1) := by decide +kernel
theorem dX1_kindsSeen_121 : decode cX1_kindsSeen 121 = .ok (.invokevirtual 139, 3) := by decide +kernel
theorem dX1_kindsSeen_124 : decode cX1_kindsSeen 124 = .ok (.if_icmp .ne 7, 3) := by decide +kernel
theorem dX1_kindsSeen_127 : decode cX1_kindsSeen 127 = .ok (.iconst 1, 1) := by decide +kernel
theorem dX1_kindsSeen_128 : decode cX1_kindsSeen 128 = .ok (.goto 4, 3) := by decide +kernel
theorem dX1_kindsSeen_131 : decode cX1_kindsSeen 131 = .ok (.iconst 0, 1) := by decide +kernel
theorem dX1_kindsSeen_132 : decode cX1_kindsSeen 132 = .ok (.istore 11, 2) := by decide +kernel
theorem dX1_kindsSeen_134 : decode cX1_kindsSeen 134 = .ok (.iinc 12 1, 3) := by decide +kernel
theorem dX1_kindsSeen_137 : decode cX1_kindsSeen 137 = .ok (.goto (-59), 3) := by decide +kernel
theorem dX1_kindsSeen_140 : decode cX1_kindsSeen 140 = .ok (.iload 11, 2) := by decide +kernel
theorem dX1_kindsSeen_142 : decode cX1_kindsSeen 142 = .ok (.ifCond .eq 12, 3) := by decide +kernel
theorem dX1_kindsSeen_145 : decode cX1_kindsSeen 145 = .ok (.iload 8, 2) := by decide +kernel
theorem dX1_kindsSeen_147 : decode cX1_kindsSeen 147 = .ok (.iconst 1, 1) := by decide +kernel
theorem dX1_kindsSeen_148 : decode cX1_kindsSeen 148 = .ok (.iload 9, 2) := by decide +kernel
theorem dX1_kindsSeen_150 : decode cX1_kindsSeen 150 = .ok (.ishl, 1) := by decide +kernel
theorem dX1_kindsSeen_151 : decode cX1_kindsSeen 151 = .ok (.ior, 1) := by decide +kernel
theorem dX1_kindsSeen_152 : decode cX1_kindsSeen 152 = .ok (.istore 8, 2) := by decide +kernel
theorem dX1_kindsSeen_154 : decode cX1_kindsSeen 154 = .ok (.iinc 9 1, 3) := by decide +kernel
theorem dX1_kindsSeen_157 : decode cX1_kindsSeen 157 = .ok (.goto (-120), 3) := by decide +kernel
theorem dX1_kindsSeen_160 : decode cX1_kindsSeen 160 = .ok (.iload 8, 2) := by decide +kernel
theorem dX1_kindsSeen_162 : decode cX1_kindsSeen 162 = .ok (.ireturn, 1) := by decide +kernel
theorem dX1_pairsIn_0 : decode cX1_pairsIn 0 = .ok (.aload_n 0, 1) := by decide +kernel
theorem dX1_pairsIn_1 : decode cX1_pairsIn 1 = .ok (.getfield 18, 3) := by decide +kernel
theorem dX1_pairsIn_4 : decode cX1_pairsIn 4 = .ok (.iconst 0, 1) := by decide +kernel
theorem dX1_pairsIn_5 : decode cX1_pairsIn 5 = .ok (.invokestatic 69, 3) := by decide +kernel
theorem dX1_pairsIn_8 : decode cX1_pairsIn 8 = .ok (.aload_n 1, 1) := by decide +kernel
theorem dX1_pairsIn_9 : decode cX1_pairsIn 9 = .ok (.getfield 29, 3) := by decide +kernel
theorem dX1_pairsIn_12 : decode cX1_pairsIn 12 = .ok (.istore_n 3, 1) := by decide +kernel
theorem dX1_pairsIn_13 : decode cX1_pairsIn 13 = .ok (.iconst 0, 1) := by decide +kernel
theorem dX1_pairsIn_14 : decode cX1_pairsIn 14 = .ok (.istore 4, 2) := by decide +kernel
theorem dX1_pairsIn_16 : decode cX1_pairsIn 16 = .ok (.iload 4, 2) := by decide +kernel
theorem dX1_pairsIn_18 : decode cX1_pairsIn 18 = .ok (.iload_n 2, 1) := by decide +kernel
theorem dX1_pairsIn_19 : decode cX1_pairsIn 19 = .ok (.if_icmp .ge 95, 3) := by decide +kernel
theorem dX1_pairsIn_22 : decode cX1_pairsIn 22 = .ok (.iconst 0, 1) := by decide +kernel
theorem dX1_pairsIn_23 : decode cX1_pairsIn 23 = .ok (.istore 5, 2) := by decide +kernel
theorem dX1_pairsIn_25 : decode cX1_pairsIn 25 = .ok (.iload 5, 2) := by decide +kernel
theorem dX1_pairsIn_27 : decode cX1_pairsIn 27 = .ok (.bipush 6, 2) := by decide +kernel
theorem dX1_pairsIn_29 : decode cX1_pairsIn 29 = .ok (.if_icmp .ge 66, 3) := by decide +kernel
theorem dX1_pairsIn_32 : decode cX1_pairsIn 32 = .ok (.aload_n 1, 1) := by decide +kernel
theorem dX1_pairsIn_33 : decode cX1_pairsIn 33 = .ok (.iload 5, 2) := by decide +kernel
theorem dX1_pairsIn_35 : decode cX1_pairsIn 35 = .ok (.iload_n 3, 1) := by decide +kernel
theorem dX1_pairsIn_36 : decode cX1_pairsIn 36 = .ok (.aload_n 1, 1) := by decide +kernel
theorem dX1_pairsIn_37 : decode cX1_pairsIn 37 = .ok (.iload 4, 2) := by decide +kernel
theorem dX1_pairsIn_39 : decode cX1_pairsIn 39 = .ok (.invokevirtual 40, 3) := by decide +kernel
theorem dX1_pairsIn_42 : decode cX1_pairsIn 42 = .ok (.invokevirtual 54, 3) := by decide +kernel
theorem dX1_pairsIn_45 : decode cX1_pairsIn 45 = .ok (.istore 6, 2) := by decide +kernel
theorem dX1_pairsIn_47 : decode cX1_pairsIn 47 = .ok (.iconst 0, 1) := by decide +kernel
theorem dX1_pairsIn_48 : decode cX1_pairsIn 48 = .ok (.istore 7, 2) := by decide +kernel
theorem dX1_pairsIn_50 : decode cX1_pairsIn 50 = .ok (.iload 7, 2) := by decide +kernel
theorem dX1_pairsIn_52 : decode cX1_pairsIn 52 = .ok (.bipush 6, 2) := by decide +kernel
theorem dX1_pairsIn_54 : decode cX1_pairsIn 54 = .ok (.if_icmp .ge 35, 3) := by decide +kernel
theorem dX1_pairsIn_57 : decode cX1_pairsIn 57 = .ok (.aload_n 0, 1) := by decide +kernel
theorem dX1_pairsIn_58 : decode cX1_pairsIn 58 = .ok (.getfield 18, 3) := by decide +kernel
theorem dX1_pairsIn_61 : decode cX1_pairsIn 61 = .ok (.iload 7, 2) := by decide +kernel
theorem dX1_pairsIn_63 : decode cX1_pairsIn 63 = .ok (.dup2, 1) := by decide +kernel
theorem dX1_pairsIn_64 : decode cX1_pairsIn 64 = .ok (.iaload, 1) := by decide +kernel
theorem dX1_pairsIn_65 : decode cX1_pairsIn 65 = .ok (.iload 6, 2) := by decide +kernel
theorem dX1_pairsIn_67 : decode cX1_pairsIn 67 = .ok (.iload 7, 2) := by decide +kernel
theorem dX1_pairsIn_69 : decode cX1_pairsIn 69 = .ok (.invokestatic 57, 3) := by decide +kernel
theorem dX1_pairsIn_72 : decode cX1_pairsIn 72 = .ok (.ifCond .eq 8, 3) := by decide +kernel
theorem dX1_pairsIn_75 : decode cX1_pairsIn 75 = .ok (.iload 6, 2) := by decide +kernel
theorem dX1_pairsIn_77 : decode cX1_pairsIn 77 = .ok (.goto 4, 3) := by decide +kernel
theorem dX1_pairsIn_80 : decode cX1_pairsIn 80 = .ok (.iconst 0, 1) := by decide +kernel
theorem dX1_pairsIn_81 : decode cX1_pairsIn 81 = .ok (.ior, 1) := by decide +kernel
theorem dX1_pairsIn_82 : decode cX1_pairsIn 82 = .ok (.iastore, 1) := by decide +kernel
theorem dX1_pairsIn_83 : decode cX1_pairsIn 83 = .ok (.iinc 7 1, 3) := by decide +kernel
theorem dX1_pairsIn_86 : decode cX1_pairsIn 86 = .ok (.goto (-36), 3) := by decide +kernel
theorem dX1_pairsIn_89 : decode cX1_pairsIn 89 = .ok (.iinc 5 1, 3) := by decide +kernel
theorem dX1_pairsIn_92 : decode cX1_pairsIn 92 = .ok (.goto (-67), 3) := by decide +kernel
theorem dX1_pairsIn_95 : decode cX1_pairsIn 95 = .ok (.aload_n 1, 1) := by decide +kernel
theorem dX1_pairsIn_96 : decode cX1_pairsIn 96 = .ok (.iload_n 3, 1) := by decide +kernel
theorem dX1_pairsIn_97 : decode cX1_pairsIn 97 = .ok (.aload_n 1, 1) := by decide +kernel
theorem dX1_pairsIn_98 : decode cX1_pairsIn 98 = .ok (.getfield 48, 3) := by decide +kernel
theorem dX1_pairsIn_101 : decode cX1_pairsIn 101 = .ok (.iload 4, 2) := by decide +kernel
theorem dX1_pairsIn_103 : decode cX1_pairsIn 103 = .ok (.iadd, 1) := by decide +kernel
theorem dX1_pairsIn_104 : decode cX1_pairsIn 104 = .ok (.invokevirtual 51, 3) := by decide +kernel
theorem dX1_pairsIn_107 : decode cX1_pairsIn 107 = .ok (.istore_n 3, 1) := by decide +kernel
theorem dX1_pairsIn_108 : decode cX1_pairsIn 108 = .ok (.iinc 4 1, 3) := by decide +kernel
theorem dX1_pairsIn_111 : decode cX1_pairsIn 111 = .ok (.goto (-95), 3) := by decide +kernel
theorem dX1_pairsIn_114 : decode cX1_pairsIn 114 = .ok (.iconst 0, 1) := by decide +kernel
theorem dX1_pairsIn_115 : decode cX1_pairsIn 115 = .ok (.istore 4, 2) := by decide +kernel
theorem dX1_pairsIn_117 : decode cX1_pairsIn 117 = .ok (.iconst 0, 1) := by decide +kernel
theorem dX1_pairsIn_118 : decode cX1_pairsIn 118 = .ok (.istore 5, 2) := by decide +kernel
theorem dX1_pairsIn_120 : decode cX1_pairsIn 120 = .ok (.iload 5, 2) := by decide +kernel
theorem dX1_pairsIn_122 : decode cX1_pairsIn 122 = .ok (.bipush 6, 2) := by decide +kernel
theorem dX1_pairsIn_124 : decode cX1_pairsIn 124 = .ok (.if_icmp .ge 29, 3) := by decide +kernel
theorem dX1_pairsIn_127 : decode cX1_pairsIn 127 = .ok (.iload 4, 2) := by decide +kernel
theorem dX1_pairsIn_129 : decode cX1_pairsIn 129 = .ok (.aload_n 0, 1) := by decide +kernel
theorem dX1_pairsIn_130 : decode cX1_pairsIn 130 = .ok (.getfield 18, 3) := by decide +kernel
theorem dX1_pairsIn_133 : decode cX1_pairsIn 133 = .ok (.iload 5, 2) := by decide +kernel
theorem dX1_pairsIn_135 : decode cX1_pairsIn 135 = .ok (.iaload, 1) := by decide +kernel
theorem dX1_pairsIn_136 : decode cX1_pairsIn 136 = .ok (.iload 5, 2) := by decide +kernel
theorem dX1_pairsIn_138 : decode cX1_pairsIn 138 = .ok (.iconst 1, 1) := by decide +kernel
theorem dX1_pairsIn_139 : decode cX1_pairsIn 139 = .ok (.iadd, 1) := by decide +kernel
theorem dX1_pairsIn_140 : decode cX1_pairsIn 140 = .ok (.ishr, 1) := by decide +kernel
theorem dX1_pairsIn_141 : decode cX1_pairsIn 141 = .ok (.invokestatic 161, 3) := by decide +kernel
theorem dX1_pairsIn_144 : decode cX1_pairsIn 144 = .ok (.iadd, 1) := by decide +kernel
theorem dX1_pairsIn_145 : decode cX1_pairsIn 145 = .ok (.istore 4, 2) := by decide +kernel
theorem dX1_pairsIn_147 : decode cX1_pairsIn 147 = .ok (.iinc 5 1, 3) := by decide +kernel
theorem dX1_pairsIn_150 : decode cX1_pairsIn 150 = .ok (.goto (-30), 3) := by decide +kernel
theorem dX1_pairsIn_153 : decode cX1_pairsIn 153 = .ok (.iload 4, 2) := by decide +kernel
theorem dX1_pairsIn_155 : decode cX1_pairsIn 155 = .ok (.ireturn, 1) := by decide +kernel
theorem dX1_casesOf_0 : decode cX1_casesOf 0 = .ok (.aload_n 0, 1) := by decide +kernel
theorem dX1_casesOf_1 : decode cX1_casesOf 1 = .ok (.getfield 22, 3) := by decide +kernel
theorem dX1_casesOf_4 : decode cX1_casesOf 4 = .ok (.lconst 0, 1) := by decide +kernel
theorem dX1_casesOf_5 : decode cX1_casesOf 5 = .ok (.invokestatic 166, 3) := by decide +kernel
theorem dX1_casesOf_8 : decode cX1_casesOf 8 = .ok (.aload_n 1, 1) := by decide +kernel
theorem dX1_casesOf_9 : decode cX1_casesOf 9 = .ok (.getfield 29, 3) := by decide +kernel
theorem dX1_casesOf_12 : decode cX1_casesOf 12 = .ok (.iconst 0, 1) := by decide +kernel
theorem dX1_casesOf_13 : decode cX1_casesOf 13 = .ok (.bipush 7, 2) := by decide +kernel
theorem dX1_casesOf_15 : decode cX1_casesOf 15 = .ok (.invokestatic 119, 3) := by decide +kernel
theorem dX1_casesOf_18 : decode cX1_casesOf 18 = .ok (.ifCond .eq 13, 3) := by decide +kernel
theorem dX1_casesOf_21 : decode cX1_casesOf 21 = .ok (.aload_n 0, 1) := by decide +kernel
theorem dX1_casesOf_22 : decode cX1_casesOf 22 = .ok (.getfield 22, 3) := by decide +kernel
theorem dX1_casesOf_25 : decode cX1_casesOf 25 = .ok (.aload_n 1, 1) := by decide +kernel
theorem dX1_casesOf_26 : decode cX1_casesOf 26 = .ok (.getfield 29, 3) := by decide +kernel
theorem dX1_casesOf_29 : decode cX1_casesOf 29 = .ok (.lconst 1, 1) := by decide +kernel
theorem dX1_casesOf_30 : decode cX1_casesOf 30 = .ok (.lastore, 1) := by decide +kernel
theorem dX1_casesOf_31 : decode cX1_casesOf 31 = .ok (.iconst 0, 1) := by decide +kernel
theorem dX1_casesOf_32 : decode cX1_casesOf 32 = .ok (.istore 6, 2) := by decide +kernel
theorem dX1_casesOf_34 : decode cX1_casesOf 34 = .ok (.iload 6, 2) := by decide +kernel
theorem dX1_casesOf_36 : decode cX1_casesOf 36 = .ok (.iload 4, 2) := by decide +kernel
theorem dX1_casesOf_38 : decode cX1_casesOf 38 = .ok (.if_icmp .ge 23, 3) := by decide +kernel
theorem dX1_casesOf_41 : decode cX1_casesOf 41 = .ok (.aload_n 0, 1) := by decide +kernel
theorem dX1_casesOf_42 : decode cX1_casesOf 42 = .ok (.aload_n 1, 1) := by decide +kernel
theorem dX1_casesOf_43 : decode cX1_casesOf 43 = .ok (.aload_n 1, 1) := by decide +kernel
theorem dX1_casesOf_44 : decode cX1_casesOf 44 = .ok (.getfield 48, 3) := by decide +kernel
theorem dX1_casesOf_47 : decode cX1_casesOf 47 = .ok (.iload 6, 2) := by decide +kernel
theorem dX1_casesOf_49 : decode cX1_casesOf 49 = .ok (.iadd, 1) := by decide +kernel
theorem dX1_casesOf_50 : decode cX1_casesOf 50 = .ok (.iload 5, 2) := by decide +kernel
theorem dX1_casesOf_52 : decode cX1_casesOf 52 = .ok (.invokevirtual 169, 3) := by decide +kernel
theorem dX1_casesOf_55 : decode cX1_casesOf 55 = .ok (.iinc 6 1, 3) := by decide +kernel
theorem dX1_casesOf_58 : decode cX1_casesOf 58 = .ok (.goto (-24), 3) := by decide +kernel
theorem dX1_casesOf_61 : decode cX1_casesOf 61 = .ok (.lconst 0, 1) := by decide +kernel
theorem dX1_casesOf_62 : decode cX1_casesOf 62 = .ok (.lstore 6, 2) := by decide +kernel
theorem dX1_casesOf_64 : decode cX1_casesOf 64 = .ok (.iconst 0, 1) := by decide +kernel
theorem dX1_casesOf_65 : decode cX1_casesOf 65 = .ok (.istore 8, 2) := by decide +kernel
theorem dX1_casesOf_67 : decode cX1_casesOf 67 = .ok (.iload 8, 2) := by decide +kernel
theorem dX1_casesOf_69 : decode cX1_casesOf 69 = .ok (.aload_n 1, 1) := by decide +kernel
theorem dX1_casesOf_70 : decode cX1_casesOf 70 = .ok (.getfield 133, 3) := by decide +kernel
theorem dX1_casesOf_73 : decode cX1_casesOf 73 = .ok (.if_icmp .ge 48, 3) := by decide +kernel
theorem dX1_casesOf_76 : decode cX1_casesOf 76 = .ok (.iload 8, 2) := by decide +kernel
theorem dX1_casesOf_78 : decode cX1_casesOf 78 = .ok (.bipush 8, 2) := by decide +kernel
theorem dX1_casesOf_80 : decode cX1_casesOf 80 = .ok (.if_icmp .ge 41, 3) := by decide +kernel
theorem dX1_casesOf_83 : decode cX1_casesOf 83 = .ok (.aload_n 1, 1) := by decide +kernel
theorem dX1_casesOf_84 : decode cX1_casesOf 84 = .ok (.iload_n 3, 1) := by decide +kernel
theorem dX1_casesOf_85 : decode cX1_casesOf 85 = .ok (.iload 8, 2) := by decide +kernel
theorem dX1_casesOf_87 : decode cX1_casesOf 87 = .ok (.aload_n 1, 1) := by decide +kernel
theorem dX1_casesOf_88 : decode cX1_casesOf 88 = .ok (.iload 4, 2) := by decide +kernel
theorem dX1_casesOf_90 : decode cX1_casesOf 90 = .ok (.invokevirtual 40, 3) := by decide +kernel
theorem dX1_casesOf_93 : decode cX1_casesOf 93 = .ok (.invokevirtual 54, 3) := by decide +kernel
theorem dX1_casesOf_96 : decode cX1_casesOf 96 = .ok (.iload_n 2, 1) := by decide +kernel
theorem dX1_casesOf_97 : decode cX1_casesOf 97 = .ok (.invokestatic 57, 3) := by decide +kernel
theorem dX1_casesOf_100 : decode cX1_casesOf 100 = .ok (.ifCond .eq 15, 3) := by decide +kernel
theorem dX1_casesOf_103 : decode cX1_casesOf 103 = .ok (.lload 6, 2) := by decide +kernel
theorem dX1_casesOf_105 : decode cX1_casesOf 105 = .ok (.aload_n 0, 1) := by decide +kernel
theorem dX1_casesOf_106 : decode cX1_casesOf 106 = .ok (.getfield 22, 3) := by decide +kernel
theorem dX1_casesOf_109 : decode cX1_casesOf 109 = .ok (.iload 8, 2) := by decide +kernel
theorem dX1_casesOf_111 : decode cX1_casesOf 111 = .ok (.laload, 1) := by decide +kernel
theorem dX1_casesOf_112 : decode cX1_casesOf 112 = .ok (.ladd, 1) := by decide +kernel
theorem dX1_casesOf_113 : decode cX1_casesOf 113 = .ok (.lstore 6, 2) := by decide +kernel
theorem dX1_casesOf_115 : decode cX1_casesOf 115 = .ok (.iinc 8 1, 3) := by decide +kernel
theorem dX1_casesOf_118 : decode cX1_casesOf 118 = .ok (.goto (-51), 3) := by decide +kernel
theorem dX1_casesOf_121 : decode cX1_casesOf 121 = .ok (.lload 6, 2) := by decide +kernel
theorem dX1_casesOf_123 : decode cX1_casesOf 123 = .ok (.lreturn, 1) := by decide +kernel
theorem dX1_passForgetful_0 : decode cX1_passForgetful 0 = .ok (.aload_n 0, 1) := by decide +kernel
theorem dX1_passForgetful_1 : decode cX1_passForgetful 1 = .ok (.getfield 26, 3) := by decide +kernel
theorem dX1_passForgetful_4 : decode cX1_passForgetful 4 = .ok (.lconst 0, 1) := by decide +kernel
theorem dX1_passForgetful_5 : decode cX1_passForgetful 5 = .ok (.invokestatic 166, 3) := by decide +kernel
theorem dX1_passForgetful_8 : decode cX1_passForgetful 8 = .ok (.iconst 0, 1) := by decide +kernel
theorem dX1_passForgetful_9 : decode cX1_passForgetful 9 = .ok (.istore 4, 2) := by decide +kernel
theorem dX1_passForgetful_11 : decode cX1_passForgetful 11 = .ok (.iload 4, 2) := by decide +kernel
theorem dX1_passForgetful_13 : decode cX1_passForgetful 13 = .ok (.aload_n 1, 1) := by decide +kernel
theorem dX1_passForgetful_14 : decode cX1_passForgetful 14 = .ok (.getfield 133, 3) := by decide +kernel
theorem dX1_passForgetful_17 : decode cX1_passForgetful 17 = .ok (.if_icmp .ge 79, 3) := by decide +kernel
theorem dX1_passForgetful_20 : decode cX1_passForgetful 20 = .ok (.iload 4, 2) := by decide +kernel
theorem dX1_passForgetful_22 : decode cX1_passForgetful 22 = .ok (.bipush 8, 2) := by decide +kernel
theorem dX1_passForgetful_24 : decode cX1_passForgetful 24 = .ok (.if_icmp .ge 72, 3) := by decide +kernel
theorem dX1_passForgetful_27 : decode cX1_passForgetful 27 = .ok (.aload_n 1, 1) := by decide +kernel
theorem dX1_passForgetful_28 : decode cX1_passForgetful 28 = .ok (.iload 4, 2) := by decide +kernel
theorem dX1_passForgetful_30 : decode cX1_passForgetful 30 = .ok (.iload_n 2, 1) := by decide +kernel
theorem dX1_passForgetful_31 : decode cX1_passForgetful 31 = .ok (.invokevirtual 51, 3) := by decide +kernel
theorem dX1_passForgetful_34 : decode cX1_passForgetful 34 = .ok (.istore 5, 2) := by decide +kernel
theorem dX1_passForgetful_36 : decode cX1_passForgetful 36 = .ok (.aload_n 0, 1) := by decide +kernel
theorem dX1_passForgetful_37 : decode cX1_passForgetful 37 = .ok (.getfield 26, 3) := by decide +kernel
theorem dX1_passForgetful_40 : decode cX1_passForgetful 40 = .ok (.iload 4, 2) := by decide +kernel
theorem dX1_passForgetful_42 : decode cX1_passForgetful 42 = .ok (.dup2, 1) := by decide +kernel
theorem dX1_passForgetful_43 : decode cX1_passForgetful 43 = .ok (.laload, 1) := by decide +kernel
theorem dX1_passForgetful_44 : decode cX1_passForgetful 44 = .ok (.aload_n 0, 1) := by decide +kernel
theorem dX1_passForgetful_45 : decode cX1_passForgetful 45 = .ok (.getfield 22, 3) := by decide +kernel
theorem dX1_passForgetful_48 : decode cX1_passForgetful 48 = .ok (.iload 4, 2) := by decide +kernel
theorem dX1_passForgetful_50 : decode cX1_passForgetful 50 = .ok (.laload, 1) := by decide +kernel
theorem dX1_passForgetful_51 : decode cX1_passForgetful 51 = .ok (.iload_n 3, 1) := by decide +kernel
theorem dX1_passForgetful_52 : decode cX1_passForgetful 52 = .ok (.i2l, 1) := by decide +kernel
theorem dX1_passForgetful_53 : decode cX1_passForgetful 53 = .ok (.lmul, 1) := by decide +kernel
theorem dX1_passForgetful_54 : decode cX1_passForgetful 54 = .ok (.ladd, 1) := by decide +kernel
theorem dX1_passForgetful_55 : decode cX1_passForgetful 55 = .ok (.lastore, 1) := by decide +kernel
theorem dX1_passForgetful_56 : decode cX1_passForgetful 56 = .ok (.iload 5, 2) := by decide +kernel
theorem dX1_passForgetful_58 : decode cX1_passForgetful 58 = .ok (.iconst 0, 1) := by decide +kernel
theorem dX1_passForgetful_59 : decode cX1_passForgetful 59 = .ok (.bipush 7, 2) := by decide +kernel
theorem dX1_passForgetful_61 : decode cX1_passForgetful 61 = .ok (.invokestatic 119, 3) := by decide +kernel
theorem dX1_passForgetful_64 : decode cX1_passForgetful 64 = .ok (.ifCond .eq 26, 3) := by decide +kernel
theorem dX1_passForgetful_67 : decode cX1_passForgetful 67 = .ok (.aload_n 0, 1) := by decide +kernel
theorem dX1_passForgetful_68 : decode cX1_passForgetful 68 = .ok (.getfield 26, 3) := by decide +kernel
theorem dX1_passForgetful_71 : decode cX1_passForgetful 71 = .ok (.iload 5, 2) := by decide +kernel
theorem dX1_passForgetful_73 : decode cX1_passForgetful 73 = .ok (.dup2, 1) := by decide +kernel
theorem dX1_passForgetful_74 : decode cX1_passForgetful 74 = .ok (.laload, 1) := by decide +kernel
theorem dX1_passForgetful_75 : decode cX1_passForgetful 75 = .ok (.aload_n 0, 1) := by decide +kernel
theorem dX1_passForgetful_76 : decode cX1_passForgetful 76 = .ok (.getfield 22, 3) := by decide +kernel
theorem dX1_passForgetful_79 : decode cX1_passForgetful 79 = .ok (.iload 4, 2) := by decide +kernel
theorem dX1_passForgetful_81 : decode cX1_passForgetful 81 = .ok (.laload, 1) := by decide +kernel
theorem dX1_passForgetful_82 : decode cX1_passForgetful 82 = .ok (.bipush 10, 2) := by decide +kernel
theorem dX1_passForgetful_84 : decode cX1_passForgetful 84 = .ok (.iload_n 3, 1) := by decide +kernel
theorem dX1_passForgetful_85 : decode cX1_passForgetful 85 = .ok (.isub, 1) := by decide +kernel
theorem dX1_passForgetful_86 : decode cX1_passForgetful 86 = .ok (.i2l, 1) := by decide +kernel
theorem dX1_passForgetful_87 : decode cX1_passForgetful 87 = .ok (.lmul, 1) := by decide +kernel
theorem dX1_passForgetful_88 : decode cX1_passForgetful 88 = .ok (.ladd, 1) := by decide +kernel
theorem dX1_passForgetful_89 : decode cX1_passForgetful 89 = .ok (.lastore, 1) := by decide +kernel
theorem dX1_passForgetful_90 : decode cX1_passForgetful 90 = .ok (.iinc 4 1, 3) := by decide +kernel
theorem dX1_passForgetful_93 : decode cX1_passForgetful 93 = .ok (.goto (-82), 3) := by decide +kernel
theorem dX1_passForgetful_96 : decode cX1_passForgetful 96 = .ok (.aload_n 0, 1) := by decide +kernel
theorem dX1_passForgetful_97 : decode cX1_passForgetful 97 = .ok (.getfield 26, 3) := by decide +kernel
theorem dX1_passForgetful_100 : decode cX1_passForgetful 100 = .ok (.iconst 0, 1) := by decide +kernel
theorem dX1_passForgetful_101 : decode cX1_passForgetful 101 = .ok (.aload_n 0, 1) := by decide +kernel
theorem dX1_passForgetful_102 : decode cX1_passForgetful 102 = .ok (.getfield 22, 3) := by decide +kernel
theorem dX1_passForgetful_105 : decode cX1_passForgetful 105 = .ok (.iconst 0, 1) := by decide +kernel
theorem dX1_passForgetful_106 : decode cX1_passForgetful 106 = .ok (.bipush 8, 2) := by decide +kernel
theorem dX1_passForgetful_108 : decode cX1_passForgetful 108 = .ok (.invokestatic 172, 3) := by decide +kernel
theorem dX1_passForgetful_111 : decode cX1_passForgetful 111 = .ok (.return_, 1) := by decide +kernel
theorem dX1_doneByDraws_0 : decode cX1_doneByDraws 0 = .ok (.aload_n 0, 1) := by decide +kernel
theorem dX1_doneByDraws_1 : decode cX1_doneByDraws 1 = .ok (.getfield 18, 3) := by decide +kernel
theorem dX1_doneByDraws_4 : decode cX1_doneByDraws 4 = .ok (.iconst 0, 1) := by decide +kernel
theorem dX1_doneByDraws_5 : decode cX1_doneByDraws 5 = .ok (.invokestatic 69, 3) := by decide +kernel
theorem dX1_doneByDraws_8 : decode cX1_doneByDraws 8 = .ok (.iload_n 3, 1) := by decide +kernel
theorem dX1_doneByDraws_9 : decode cX1_doneByDraws 9 = .ok (.i2l, 1) := by decide +kernel
theorem dX1_doneByDraws_10 : decode cX1_doneByDraws 10 = .ok (.lstore 4, 2) := by decide +kernel
theorem dX1_doneByDraws_12 : decode cX1_doneByDraws 12 = .ok (.aload_n 1, 1) := by decide +kernel
theorem dX1_doneByDraws_13 : decode cX1_doneByDraws 13 = .ok (.getfield 29, 3) := by decide +kernel
theorem dX1_doneByDraws_16 : decode cX1_doneByDraws 16 = .ok (.istore 6, 2) := by decide +kernel
theorem dX1_doneByDraws_18 : decode cX1_doneByDraws 18 = .ok (.iconst 0, 1) := by decide +kernel
theorem dX1_doneByDraws_19 : decode cX1_doneByDraws 19 = .ok (.istore 7, 2) := by decide +kernel
theorem dX1_doneByDraws_21 : decode cX1_doneByDraws 21 = .ok (.iload 7, 2) := by decide +kernel
theorem dX1_doneByDraws_23 : decode cX1_doneByDraws 23 = .ok (.iload_n 2, 1) := by decide +kernel
theorem dX1_doneByDraws_24 : decode cX1_doneByDraws 24 = .ok (.if_icmp .ge 59, 3) := by decide +kernel
theorem dX1_doneByDraws_27 : decode cX1_doneByDraws 27 = .ok (.lload 4, 2) := by decide +kernel
theorem dX1_doneByDraws_29 : decode cX1_doneByDraws 29 = .ok (.ldc2_w 178, 3) := by decide +kernel
theorem dX1_doneByDraws_32 : decode cX1_doneByDraws 32 = .ok (.lmul, 1) := by decide +kernel
theorem dX1_doneByDraws_33 : decode cX1_doneByDraws 33 = .ok (.ldc2_w 180, 3) := by decide +kernel
theorem dX1_doneByDraws_36 : decode cX1_doneByDraws 36 = .ok (.lrem, 1) := by decide +kernel
theorem dX1_doneByDraws_37 : decode cX1_doneByDraws 37 = .ok (.lstore 4, 2) := by decide +kernel
theorem dX1_doneByDraws_39 : decode cX1_doneByDraws 39 = .ok (.aload_n 0, 1) := by decide +kernel
theorem dX1_doneByDraws_40 : decode cX1_doneByDraws 40 = .ok (.aload_n 1, 1) := by decide +kernel
theorem dX1_doneByDraws_41 : decode cX1_doneByDraws 41 = .ok (.iload 6, 2) := by decide +kernel
theorem dX1_doneByDraws_43 : decode cX1_doneByDraws 43 = .ok (.aload_n 1, 1) := by decide +kernel
theorem dX1_doneByDraws_44 : decode cX1_doneByDraws 44 = .ok (.iload 7, 2) := by decide +kernel
theorem dX1_doneByDraws_46 : decode cX1_doneByDraws 46 = .ok (.invokevirtual 40, 3) := by decide +kernel
theorem dX1_doneByDraws_49 : decode cX1_doneByDraws 49 = .ok (.iconst 1, 1) := by decide +kernel
theorem dX1_doneByDraws_50 : decode cX1_doneByDraws 50 = .ok (.lload 4, 2) := by decide +kernel
theorem dX1_doneByDraws_52 : decode cX1_doneByDraws 52 = .ok (.ldc2_w 182, 3) := by decide +kernel
theorem dX1_doneByDraws_55 : decode cX1_doneByDraws 55 = .ok (.lrem, 1) := by decide +kernel
theorem dX1_doneByDraws_56 : decode cX1_doneByDraws 56 = .ok (.l2i, 1) := by decide +kernel
theorem dX1_doneByDraws_57 : decode cX1_doneByDraws 57 = .ok (.ishl, 1) := by decide +kernel
theorem dX1_doneByDraws_58 : decode cX1_doneByDraws 58 = .ok (.ior, 1) := by decide +kernel
theorem dX1_doneByDraws_59 : decode cX1_doneByDraws 59 = .ok (.invokevirtual 88, 3) := by decide +kernel
theorem dX1_doneByDraws_62 : decode cX1_doneByDraws 62 = .ok (.aload_n 1, 1) := by decide +kernel
theorem dX1_doneByDraws_63 : decode cX1_doneByDraws 63 = .ok (.iload 6, 2) := by decide +kernel
theorem dX1_doneByDraws_65 : decode cX1_doneByDraws 65 = .ok (.aload_n 1, 1) := by decide +kernel
theorem dX1_doneByDraws_66 : decode cX1_doneByDraws 66 = .ok (.getfield 48, 3) := by decide +kernel
theorem dX1_doneByDraws_69 : decode cX1_doneByDraws 69 = .ok (.iload 7, 2) := by decide +kernel
theorem dX1_doneByDraws_71 : decode cX1_doneByDraws 71 = .ok (.iadd, 1) := by decide +kernel
theorem dX1_doneByDraws_72 : decode cX1_doneByDraws 72 = .ok (.invokevirtual 51, 3) := by decide +kernel
theorem dX1_doneByDraws_75 : decode cX1_doneByDraws 75 = .ok (.istore 6, 2) := by decide +kernel
theorem dX1_doneByDraws_77 : decode cX1_doneByDraws 77 = .ok (.iinc 7 1, 3) := by decide +kernel
theorem dX1_doneByDraws_80 : decode cX1_doneByDraws 80 = .ok (.goto (-59), 3) := by decide +kernel
theorem dX1_doneByDraws_83 : decode cX1_doneByDraws 83 = .ok (.iconst 0, 1) := by decide +kernel
theorem dX1_doneByDraws_84 : decode cX1_doneByDraws 84 = .ok (.istore 7, 2) := by decide +kernel
theorem dX1_doneByDraws_86 : decode cX1_doneByDraws 86 = .ok (.iconst 0, 1) := by decide +kernel
theorem dX1_doneByDraws_87 : decode cX1_doneByDraws 87 = .ok (.istore 8, 2) := by decide +kernel
theorem dX1_doneByDraws_89 : decode cX1_doneByDraws 89 = .ok (.iload 8, 2) := by decide +kernel
theorem dX1_doneByDraws_91 : decode cX1_doneByDraws 91 = .ok (.bipush 6, 2) := by decide +kernel
theorem dX1_doneByDraws_93 : decode cX1_doneByDraws 93 = .ok (.if_icmp .ge 21, 3) := by decide +kernel
theorem dX1_doneByDraws_96 : decode cX1_doneByDraws 96 = .ok (.iload 7, 2) := by decide +kernel
theorem dX1_doneByDraws_98 : decode cX1_doneByDraws 98 = .ok (.aload_n 0, 1) := by decide +kernel
theorem dX1_doneByDraws_99 : decode cX1_doneByDraws 99 = .ok (.getfield 18, 3) := by decide +kernel
theorem dX1_doneByDraws_102 : decode cX1_doneByDraws 102 = .ok (.iload 8, 2) := by decide +kernel
theorem dX1_doneByDraws_104 : decode cX1_doneByDraws 104 = .ok (.iaload, 1) := by decide +kernel
theorem dX1_doneByDraws_105 : decode cX1_doneByDraws 105 = .ok (.iadd, 1) := by decide +kernel
theorem dX1_doneByDraws_106 : decode cX1_doneByDraws 106 = .ok (.istore 7, 2) := by decide +kernel
theorem dX1_doneByDraws_108 : decode cX1_doneByDraws 108 = .ok (.iinc 8 1, 3) := by decide +kernel
theorem dX1_doneByDraws_111 : decode cX1_doneByDraws 111 = .ok (.goto (-22), 3) := by decide +kernel
theorem dX1_doneByDraws_114 : decode cX1_doneByDraws 114 = .ok (.iload 7, 2) := by decide +kernel
theorem dX1_doneByDraws_116 : decode cX1_doneByDraws 116 = .ok (.ireturn, 1) := by decide +kernel
theorem dX2_init_0 : decode cX2_init 0 = .ok (.aload_n 0, 1) := by decide +kernel
theorem dX2_init_1 : decode cX2_init 1 = .ok (.invokespecial 3, 3) := by decide +kernel
theorem dX2_init_4 : decode cX2_init 4 = .ok (.aload_n 0, 1) := by decide +kernel
theorem dX2_init_5 : decode cX2_init 5 = .ok (.bipush 8, 2) := by decide +kernel
theorem dX2_init_7 : decode cX2_init 7 = .ok (.newarray .int, 2) := by decide +kernel
theorem dX2_init_9 : decode cX2_init 9 = .ok (.putfield 9, 3) := by decide +kernel
theorem dX2_init_12 : decode cX2_init 12 = .ok (.aload_n 0, 1) := by decide +kernel
theorem dX2_init_13 : decode cX2_init 13 = .ok (.bipush 8, 2) := by decide +kernel
theorem dX2_init_15 : decode cX2_init 15 = .ok (.newarray .int, 2) := by decide +kernel
theorem dX2_init_17 : decode cX2_init 17 = .ok (.putfield 15, 3) := by decide +kernel
theorem dX2_init_20 : decode cX2_init 20 = .ok (.aload_n 0, 1) := by decide +kernel
theorem dX2_init_21 : decode cX2_init 21 = .ok (.iconst 4, 1) := by decide +kernel
theorem dX2_init_22 : decode cX2_init 22 = .ok (.anewarray 18, 3) := by decide +kernel
theorem dX2_init_25 : decode cX2_init 25 = .ok (.putfield 20, 3) := by decide +kernel
theorem dX2_init_28 : decode cX2_init 28 = .ok (.aload_n 0, 1) := by decide +kernel
theorem dX2_init_29 : decode cX2_init 29 = .ok (.bipush 36, 2) := by decide +kernel
theorem dX2_init_31 : decode cX2_init 31 = .ok (.newarray .int, 2) := by decide +kernel
theorem dX2_init_33 : decode cX2_init 33 = .ok (.putfield 24, 3) := by decide +kernel
theorem dX2_init_36 : decode cX2_init 36 = .ok (.return_, 1) := by decide +kernel
theorem dX2_isThere_0 : decode cX2_isThere 0 = .ok (.aload_n 0, 1) := by decide +kernel
theorem dX2_isThere_1 : decode cX2_isThere 1 = .ok (.getfield 27, 3) := by decide +kernel
theorem dX2_isThere_4 : decode cX2_isThere 4 = .ok (.ifCond .le 7, 3) := by decide +kernel
theorem dX2_isThere_7 : decode cX2_isThere 7 = .ok (.iconst 1, 1) := by decide +kernel
theorem dX2_isThere_8 : decode cX2_isThere 8 = .ok (.goto 4, 3) := by decide +kernel
theorem dX2_isThere_11 : decode cX2_isThere 11 = .ok (.iconst 0, 1) := by decide +kernel
theorem dX2_isThere_12 : decode cX2_isThere 12 = .ok (.ireturn, 1) := by decide +kernel
theorem dX2_become_0 : decode cX2_become 0 = .ok (.aload_n 1, 1) := by decide +kernel
theorem dX2_become_1 : decode cX2_become 1 = .ok (.getfield 9, 3) := by decide +kernel
theorem dX2_become_4 : decode cX2_become 4 = .ok (.iconst 0, 1) := by decide +kernel
theorem dX2_become_5 : decode cX2_become 5 = .ok (.aload_n 0, 1) := by decide +kernel
theorem dX2_become_6 : decode cX2_become 6 = .ok (.getfield 9, 3) := by decide +kernel
theorem dX2_become_9 : decode cX2_become 9 = .ok (.iconst 0, 1) := by decide +kernel
theorem dX2_become_10 : decode cX2_become 10 = .ok (.bipush 8, 2) := by decide +kernel
theorem dX2_become_12 : decode cX2_become 12 = .ok (.invokestatic 31, 3) := by decide +kernel
theorem dX2_become_15 : decode cX2_become 15 = .ok (.aload_n 1, 1) := by decide +kernel
theorem dX2_become_16 : decode cX2_become 16 = .ok (.getfield 15, 3) := by decide +kernel
theorem dX2_become_19 : decode cX2_become 19 = .ok (.iconst 0, 1) := by decide +kernel
theorem dX2_become_20 : decode cX2_become 20 = .ok (.aload_n 0, 1) := by decide +kernel
theorem dX2_become_21 : decode cX2_become 21 = .ok (.getfield 15, 3) := by decide +kernel
theorem dX2_become_24 : decode cX2_become 24 = .ok (.iconst 0, 1) := by decide +kernel
theorem dX2_become_25 : decode cX2_become 25 = .ok (.bipush 8, 2) := by decide +kernel
theorem dX2_become_27 : decode cX2_become 27 = .ok (.invokestatic 31, 3) := by decide +kernel
theorem dX2_become_30 : decode cX2_become 30 = .ok (.aload_n 1, 1) := by decide +kernel
theorem dX2_become_31 : decode cX2_become 31 = .ok (.getfield 24, 3) := by decide +kernel
theorem dX2_become_34 : decode cX2_become 34 = .ok (.iconst 0, 1) := by decide +kernel
theorem dX2_become_35 : decode cX2_become 35 = .ok (.aload_n 0, 1) := by decide +kernel
theorem dX2_become_36 : decode cX2_become 36 = .ok (.getfield 24, 3) := by decide +kernel
theorem dX2_become_39 : decode cX2_become 39 = .ok (.iconst 0, 1) := by decide +kernel
theorem dX2_become_40 : decode cX2_become 40 = .ok (.bipush 36, 2) := by decide +kernel
theorem dX2_become_42 : decode cX2_become 42 = .ok (.invokestatic 31, 3) := by decide +kernel
theorem dX2_become_45 : decode cX2_become 45 = .ok (.iconst 0, 1) := by decide +kernel
theorem dX2_become_46 : decode cX2_become 46 = .ok (.istore_n 2, 1) := by decide +kernel
theorem dX2_become_47 : decode cX2_become 47 = .ok (.iload_n 2, 1) := by decide +kernel
theorem dX2_become_48 : decode cX2_become 48 = .ok (.iconst 4, 1) := by decide +kernel
theorem dX2_become_49 : decode cX2_become 49 = .ok (.if_icmp .ge 21, 3) := by decide +kernel
theorem dX2_become_52 : decode cX2_become 52 = .ok (.aload_n 0, 1) := by decide +kernel
theorem dX2_become_53 : decode cX2_become 53 = .ok (.getfield 20, 3) := by decide +kernel
theorem dX2_become_56 : decode cX2_become 56 = .ok (.iload_n 2, 1) := by decide +kernel
theorem dX2_become_57 : decode cX2_become 57 = .ok (.aload_n 1, 1) := by decide +kernel
theorem dX2_become_58 : decode cX2_become 58 = .ok (.getfield 20, 3) := by decide +kernel
theorem dX2_become_61 : decode cX2_become 61 = .ok (.iload_n 2, 1) := by decide +kernel
theorem dX2_become_62 : decode cX2_become 62 = .ok (.aaload, 1) := by decide +kernel
theorem dX2_become_63 : decode cX2_become 63 = .ok (.aastore, 1) := by decide +kernel
theorem dX2_become_64 : decode cX2_become 64 = .ok (.iinc 2 1, 3) := by decide +kernel
theorem dX2_become_67 : decode cX2_become 67 = .ok (.goto (-20), 3) := by decide +kernel
theorem dX2_become_70 : decode cX2_become 70 = .ok (.aload_n 0, 1) := by decide +kernel
theorem dX2_become_71 : decode cX2_become 71 = .ok (.aload_n 1, 1) := by decide +kernel
theorem dX2_become_72 : decode cX2_become 72 = .ok (.getfield 27, 3) := by decide +kernel
theorem dX2_become_75 : decode cX2_become 75 = .ok (.putfield 27, 3) := by decide +kernel
theorem dX2_become_78 : decode cX2_become 78 = .ok (.aload_n 0, 1) := by decide +kernel
theorem dX2_become_79 : decode cX2_become 79 = .ok (.aload_n 1, 1) := by decide +kernel
theorem dX2_become_80 : decode cX2_become 80 = .ok (.getfield 37, 3) := by decide +kernel
theorem dX2_become_83 : decode cX2_become 83 = .ok (.putfield 37, 3) := by decide +kernel
theorem dX2_become_86 : decode cX2_become 86 = .ok (.aload_n 0, 1) := by decide +kernel
theorem dX2_become_87 : decode cX2_become 87 = .ok (.aload_n 1, 1) := by decide +kernel
theorem dX2_become_88 : decode cX2_become 88 = .ok (.getfield 40, 3) := by decide +kernel
theorem dX2_become_91 : decode cX2_become 91 = .ok (.putfield 40, 3) := by decide +kernel
theorem dX2_become_94 : decode cX2_become 94 = .ok (.aload_n 0, 1) := by decide +kernel
theorem dX2_become_95 : decode cX2_become 95 = .ok (.aload_n 1, 1) := by decide +kernel
theorem dX2_become_96 : decode cX2_become 96 = .ok (.getfield 43, 3) := by decide +kernel
theorem dX2_become_99 : decode cX2_become 99 = .ok (.putfield 43, 3) := by decide +kernel
theorem dX2_become_102 : decode cX2_become 102 = .ok (.aload_n 0, 1) := by decide +kernel
theorem dX2_become_103 : decode cX2_become 103 = .ok (.aload_n 1, 1) := by decide +kernel
theorem dX2_become_104 : decode cX2_become 104 = .ok (.getfield 46, 3) := by decide +kernel
theorem dX2_become_107 : decode cX2_become 107 = .ok (.putfield 46, 3) := by decide +kernel
theorem dX2_become_110 : decode cX2_become 110 = .ok (.aload_n 0, 1) := by decide +kernel
theorem dX2_become_111 : decode cX2_become 111 = .ok (.aload_n 1, 1) := by decide +kernel
theorem dX2_become_112 : decode cX2_become 112 = .ok (.getfield 49, 3) := by decide +kernel
theorem dX2_become_115 : decode cX2_become 115 = .ok (.putfield 49, 3) := by decide +kernel
theorem dX2_become_118 : decode cX2_become 118 = .ok (.return_, 1) := by decide +kernel
theorem dX2_turnerAt_0 : decode cX2_turnerAt 0 = .ok (.iload_n 1, 1) := by decide +kernel
theorem dX2_turnerAt_1 : decode cX2_turnerAt 1 = .ok (.ifCond .lt 25, 3) := by decide +kernel
theorem dX2_turnerAt_4 : decode cX2_turnerAt 4 = .ok (.iload_n 1, 1) := by decide +kernel
theorem dX2_turnerAt_5 : decode cX2_turnerAt 5 = .ok (.aload_n 0, 1) := by decide +kernel
theorem dX2_turnerAt_6 : decode cX2_turnerAt 6 = .ok (.getfield 40, 3) := by decide +kernel
theorem dX2_turnerAt_9 : decode cX2_turnerAt 9 = .ok (.if_icmp .ge 17, 3) := by decide +kernel
theorem dX2_turnerAt_12 : decode cX2_turnerAt 12 = .ok (.iload_n 1, 1) := by decide +kernel
theorem dX2_turnerAt_13 : decode cX2_turnerAt 13 = .ok (.iconst 4, 1) := by decide +kernel
theorem dX2_turnerAt_14 : decode cX2_turnerAt 14 = .ok (.if_icmp .ge 12, 3) := by decide +kernel
theorem dX2_turnerAt_17 : decode cX2_turnerAt 17 = .ok (.aload_n 0, 1) := by decide +kernel
theorem dX2_turnerAt_18 : decode cX2_turnerAt 18 = .ok (.getfield 20, 3) := by decide +kernel
theorem dX2_turnerAt_21 : decode cX2_turnerAt 21 = .ok (.iload_n 1, 1) := by decide +kernel
theorem dX2_turnerAt_22 : decode cX2_turnerAt 22 = .ok (.aaload, 1) := by decide +kernel
theorem dX2_turnerAt_23 : decode cX2_turnerAt 23 = .ok (.goto 4, 3) := by decide +kernel
theorem dX2_turnerAt_26 : decode cX2_turnerAt 26 = .ok (.aconst_null, 1) := by decide +kernel
theorem dX2_turnerAt_27 : decode cX2_turnerAt 27 = .ok (.areturn, 1) := by decide +kernel
theorem dX2_nameIn_0 : decode cX2_nameIn 0 = .ok (.iload_n 1, 1) := by decide +kernel
theorem dX2_nameIn_1 : decode cX2_nameIn 1 = .ok (.ifCond .lt 26, 3) := by decide +kernel
theorem dX2_nameIn_4 : decode cX2_nameIn 4 = .ok (.iload_n 1, 1) := by decide +kernel
theorem dX2_nameIn_5 : decode cX2_nameIn 5 = .ok (.aload_n 0, 1) := by decide +kernel
theorem dX2_nameIn_6 : decode cX2_nameIn 6 = .ok (.getfield 27, 3) := by decide +kernel
theorem dX2_nameIn_9 : decode cX2_nameIn 9 = .ok (.if_icmp .ge 18, 3) := by decide +kernel
theorem dX2_nameIn_12 : decode cX2_nameIn 12 = .ok (.iload_n 1, 1) := by decide +kernel
theorem dX2_nameIn_13 : decode cX2_nameIn 13 = .ok (.bipush 8, 2) := by decide +kernel
theorem dX2_nameIn_15 : decode cX2_nameIn 15 = .ok (.if_icmp .ge 12, 3) := by decide +kernel
theorem dX2_nameIn_18 : decode cX2_nameIn 18 = .ok (.aload_n 0, 1) := by decide +kernel
theorem dX2_nameIn_19 : decode cX2_nameIn 19 = .ok (.getfield 9, 3) := by decide +kernel
theorem dX2_nameIn_22 : decode cX2_nameIn 22 = .ok (.iload_n 1, 1) := by decide +kernel
theorem dX2_nameIn_23 : decode cX2_nameIn 23 = .ok (.iaload, 1) := by decide +kernel
theorem dX2_nameIn_24 : decode cX2_nameIn 24 = .ok (.goto 5, 3) := by decide +kernel
theorem dX2_nameIn_27 : decode cX2_nameIn 27 = .ok (.bipush 6, 2) := by decide +kernel
theorem dX2_nameIn_29 : decode cX2_nameIn 29 = .ok (.ireturn, 1) := by decide +kernel
theorem dX2_jobIn_0 : decode cX2_jobIn 0 = .ok (.iload_n 1, 1) := by decide +kernel
theorem dX2_jobIn_1 : decode cX2_jobIn 1 = .ok (.ifCond .lt 26, 3) := by decide +kernel
theorem dX2_jobIn_4 : decode cX2_jobIn 4 = .ok (.iload_n 1, 1) := by decide +kernel
theorem dX2_jobIn_5 : decode cX2_jobIn 5 = .ok (.aload_n 0, 1) := by decide +kernel
theorem dX2_jobIn_6 : decode cX2_jobIn 6 = .ok (.getfield 37, 3) := by decide +kernel
theorem dX2_jobIn_9 : decode cX2_jobIn 9 = .ok (.if_icmp .ge 18, 3) := by decide +kernel
theorem dX2_jobIn_12 : decode cX2_jobIn 12 = .ok (.iload_n 1, 1) := by decide +kernel
theorem dX2_jobIn_13 : decode cX2_jobIn 13 = .ok (.bipush 8, 2) := by decide +kernel
theorem dX2_jobIn_15 : decode cX2_jobIn 15 = .ok (.if_icmp .ge 12, 3) := by decide +kernel
theorem dX2_jobIn_18 : decode cX2_jobIn 18 = .ok (.aload_n 0, 1) := by decide +kernel
theorem dX2_jobIn_19 : decode cX2_jobIn 19 = .ok (.getfield 15, 3) := by decide +kernel
theorem dX2_jobIn_22 : decode cX2_jobIn 22 = .ok (.iload_n 1, 1) := by decide +kernel
theorem dX2_jobIn_23 : decode cX2_jobIn 23 = .ok (.iaload, 1) := by decide +kernel
theorem dX2_jobIn_24 : decode cX2_jobIn 24 = .ok (.goto 5, 3) := by decide +kernel
theorem dX2_jobIn_27 : decode cX2_jobIn 27 = .ok (.bipush 6, 2) := by decide +kernel
theorem dX2_jobIn_29 : decode cX2_jobIn 29 = .ok (.ireturn, 1) := by decide +kernel
theorem dX2_firstEmptySlot_0 : decode cX2_firstEmptySlot 0 = .ok (.iconst 0, 1) := by decide +kernel
theorem dX2_firstEmptySlot_1 : decode cX2_firstEmptySlot 1 = .ok (.istore_n 1, 1) := by decide +kernel
theorem dX2_firstEmptySlot_2 : decode cX2_firstEmptySlot 2 = .ok (.iload_n 1, 1) := by decide +kernel
theorem dX2_firstEmptySlot_3 : decode cX2_firstEmptySlot 3 = .ok (.aload_n 0, 1) := by decide +kernel
theorem dX2_firstEmptySlot_4 : decode cX2_firstEmptySlot 4 = .ok (.getfield 27, 3) := by decide +kernel
theorem dX2_firstEmptySlot_7 : decode cX2_firstEmptySlot 7 = .ok (.if_icmp .ge 28, 3) := by decide +kernel
theorem dX2_firstEmptySlot_10 : decode cX2_firstEmptySlot 10 = .ok (.iload_n 1, 1) := by decide +kernel
theorem dX2_firstEmptySlot_11 : decode cX2_firstEmptySlot 11 = .ok (.bipush 8, 2) := by decide +kernel
theorem dX2_firstEmptySlot_13 : decode cX2_firstEmptySlot 13 = .ok (.if_icmp .ge 22, 3) := by decide +kernel
theorem dX2_firstEmptySlot_16 : decode cX2_firstEmptySlot 16 = .ok (.aload_n 0, 1) := by decide +kernel
theorem dX2_firstEmptySlot_17 : decode cX2_firstEmptySlot 17 = .ok (.getfield 9, 3) := by decide +kernel
theorem dX2_firstEmptySlot_20 : decode cX2_firstEmptySlot 20 = .ok (.iload_n 1, 1) := by decide +kernel
theorem dX2_firstEmptySlot_21 : decode cX2_firstEmptySlot 21 = .ok (.iaload, 1) := by decide +kernel
theorem dX2_firstEmptySlot_22 : decode cX2_firstEmptySlot 22 = .ok (.bipush 6, 2) := by decide +kernel
theorem dX2_firstEmptySlot_24 : decode cX2_firstEmptySlot 24 = .ok (.if_icmp .ne 5, 3) := by decide +kernel
theorem dX2_firstEmptySlot_27 : decode cX2_firstEmptySlot 27 = .ok (.iload_n 1, 1) := by decide +kernel
theorem dX2_firstEmptySlot_28 : decode cX2_firstEmptySlot 28 = .ok (.ireturn, 1) := by decide +kernel
theorem dX2_firstEmptySlot_29 : decode cX2_firstEmptySlot 29 = .ok (.iinc 1 1, 3) := by decide +kernel
theorem dX2_firstEmptySlot_32 : decode cX2_firstEmptySlot 32 = .ok (.goto (-30), 3) := by decide +kernel
theorem dX2_firstEmptySlot_35 : decode cX2_firstEmptySlot 35 = .ok (.ldc 52, 2) := by decide +kernel
theorem dX2_firstEmptySlot_37 : decode cX2_firstEmptySlot 37 = .ok (.ireturn, 1) := by decide +kernel
theorem dX2_jobHad_0 : decode cX2_jobHad 0 = .ok (.aload_n 0, 1) := by decide +kernel
theorem dX2_jobHad_1 : decode cX2_jobHad 1 = .ok (.iload_n 1, 1) := by decide +kernel
theorem dX2_jobHad_2 : decode cX2_jobHad 2 = .ok (.invokevirtual 53, 3) := by decide +kernel
theorem dX2_jobHad_5 : decode cX2_jobHad 5 = .ok (.bipush 6, 2) := by decide +kernel
theorem dX2_jobHad_7 : decode cX2_jobHad 7 = .ok (.if_icmp .ne 8, 3) := by decide +kernel
theorem dX2_jobHad_10 : decode cX2_jobHad 10 = .ok (.bipush 6, 2) := by decide +kernel
theorem dX2_jobHad_12 : decode cX2_jobHad 12 = .ok (.goto 17, 3) := by decide +kernel
theorem dX2_jobHad_15 : decode cX2_jobHad 15 = .ok (.aload_n 0, 1) := by decide +kernel
theorem dX2_jobHad_16 : decode cX2_jobHad 16 = .ok (.iload_n 1, 1) := by decide +kernel
theorem dX2_jobHad_17 : decode cX2_jobHad 17 = .ok (.iload_n 2, 1) := by decide +kernel
theorem dX2_jobHad_18 : decode cX2_jobHad 18 = .ok (.iadd, 1) := by decide +kernel
theorem dX2_jobHad_19 : decode cX2_jobHad 19 = .ok (.aload_n 0, 1) := by decide +kernel
theorem dX2_jobHad_20 : decode cX2_jobHad 20 = .ok (.getfield 37, 3) := by decide +kernel
theorem dX2_jobHad_23 : decode cX2_jobHad 23 = .ok (.invokestatic 57, 3) := by decide +kernel
theorem dX2_jobHad_26 : decode cX2_jobHad 26 = .ok (.invokevirtual 61, 3) := by decide +kernel
theorem dX2_jobHad_29 : decode cX2_jobHad 29 = .ok (.ireturn, 1) := by decide +kernel
theorem dX2_doerIn_0 : decode cX2_doerIn 0 = .ok (.aload_n 0, 1) := by decide +kernel
theorem dX2_doerIn_1 : decode cX2_doerIn 1 = .ok (.iload_n 1, 1) := by decide +kernel
theorem dX2_doerIn_2 : decode cX2_doerIn 2 = .ok (.iload_n 2, 1) := by decide +kernel
theorem dX2_doerIn_3 : decode cX2_doerIn 3 = .ok (.invokevirtual 64, 3) := by decide +kernel
theorem dX2_doerIn_6 : decode cX2_doerIn 6 = .ok (.bipush 6, 2) := by decide +kernel
theorem dX2_doerIn_8 : decode cX2_doerIn 8 = .ok (.if_icmp .ne 6, 3) := by decide +kernel
theorem dX2_doerIn_11 : decode cX2_doerIn 11 = .ok (.bipush 6, 2) := by decide +kernel
theorem dX2_doerIn_13 : decode cX2_doerIn 13 = .ok (.ireturn, 1) := by decide +kernel
theorem dX2_doerIn_14 : decode cX2_doerIn 14 = .ok (.iconst 0, 1) := by decide +kernel
theorem dX2_doerIn_15 : decode cX2_doerIn 15 = .ok (.istore 4, 2) := by decide +kernel
theorem dX2_doerIn_17 : decode cX2_doerIn 17 = .ok (.iload 4, 2) := by decide +kernel
theorem dX2_doerIn_19 : decode cX2_doerIn 19 = .ok (.aload_n 0, 1) := by decide +kernel
theorem dX2_doerIn_20 : decode cX2_doerIn 20 = .ok (.getfield 27, 3) := by decide +kernel
theorem dX2_doerIn_23 : decode cX2_doerIn 23 = .ok (.if_icmp .ge 45, 3) := by decide +kernel
theorem dX2_doerIn_26 : decode cX2_doerIn 26 = .ok (.aload_n 0, 1) := by decide +kernel
theorem dX2_doerIn_27 : decode cX2_doerIn 27 = .ok (.iload_n 1, 1) := by decide +kernel
theorem dX2_doerIn_28 : decode cX2_doerIn 28 = .ok (.iload 4, 2) := by decide +kernel
theorem dX2_doerIn_30 : decode cX2_doerIn 30 = .ok (.iadd, 1) := by decide +kernel
theorem dX2_doerIn_31 : decode cX2_doerIn 31 = .ok (.aload_n 0, 1) := by decide +kernel
theorem dX2_doerIn_32 : decode cX2_doerIn 32 = .ok (.getfield 27, 3) := by decide +kernel
theorem dX2_doerIn_35 : decode cX2_doerIn 35 = .ok (.invokestatic 57, 3) := by decide +kernel
theorem dX2_doerIn_38 : decode cX2_doerIn 38 = .ok (.invokevirtual 53, 3) := by decide +kernel
theorem dX2_doerIn_41 : decode cX2_doerIn 41 = .ok (.istore 5, 2) := by decide +kernel
theorem dX2_doerIn_43 : decode cX2_doerIn 43 = .ok (.iload 5, 2) := by decide +kernel
theorem dX2_doerIn_45 : decode cX2_doerIn 45 = .ok (.bipush 6, 2) := by decide +kernel
theorem dX2_doerIn_47 : decode cX2_doerIn 47 = .ok (.if_icmp .eq 15, 3) := by decide +kernel
theorem dX2_doerIn_50 : decode cX2_doerIn 50 = .ok (.iload_n 3, 1) := by decide +kernel
theorem dX2_doerIn_51 : decode cX2_doerIn 51 = .ok (.iload 5, 2) := by decide +kernel
theorem dX2_doerIn_53 : decode cX2_doerIn 53 = .ok (.invokestatic 67, 3) := by decide +kernel
theorem dX2_doerIn_56 : decode cX2_doerIn 56 = .ok (.ifCond .ne 6, 3) := by decide +kernel
theorem dX2_doerIn_59 : decode cX2_doerIn 59 = .ok (.iload 5, 2) := by decide +kernel
theorem dX2_doerIn_61 : decode cX2_doerIn 61 = .ok (.ireturn, 1) := by decide +kernel
theorem dX2_doerIn_62 : decode cX2_doerIn 62 = .ok (.iinc 4 1, 3) := by decide +kernel
theorem dX2_doerIn_65 : decode cX2_doerIn 65 = .ok (.goto (-48), 3) := by decide +kernel
theorem dX2_doerIn_68 : decode cX2_doerIn 68 = .ok (.bipush 6, 2) := by decide +kernel
theorem dX2_doerIn_70 : decode cX2_doerIn 70 = .ok (.ireturn, 1) := by decide +kernel
theorem dX2_jobsOf_0 : decode cX2_jobsOf 0 = .ok (.iconst 0, 1) := by decide +kernel
theorem dX2_jobsOf_1 : decode cX2_jobsOf 1 = .ok (.istore 4, 2) := by decide +kernel
theorem dX2_jobsOf_3 : decode cX2_jobsOf 3 = .ok (.iconst 0, 1) := by decide +kernel
theorem dX2_jobsOf_4 : decode cX2_jobsOf 4 = .ok (.istore 5, 2) := by decide +kernel
theorem dX2_jobsOf_6 : decode cX2_jobsOf 6 = .ok (.iload 5, 2) := by decide +kernel
theorem dX2_jobsOf_8 : decode cX2_jobsOf 8 = .ok (.aload_n 0, 1) := by decide +kernel
theorem dX2_jobsOf_9 : decode cX2_jobsOf 9 = .ok (.getfield 27, 3) := by decide +kernel
theorem dX2_jobsOf_12 : decode cX2_jobsOf 12 = .ok (.if_icmp .ge 35, 3) := by decide +kernel
theorem dX2_jobsOf_15 : decode cX2_jobsOf 15 = .ok (.aload_n 0, 1) := by decide +kernel
theorem dX2_jobsOf_16 : decode cX2_jobsOf 16 = .ok (.iload 5, 2) := by decide +kernel
theorem dX2_jobsOf_18 : decode cX2_jobsOf 18 = .ok (.iload_n 2, 1) := by decide +kernel
theorem dX2_jobsOf_19 : decode cX2_jobsOf 19 = .ok (.iload_n 3, 1) := by decide +kernel
theorem dX2_jobsOf_20 : decode cX2_jobsOf 20 = .ok (.invokevirtual 71, 3) := by decide +kernel
theorem dX2_jobsOf_23 : decode cX2_jobsOf 23 = .ok (.iload_n 1, 1) := by decide +kernel
theorem dX2_jobsOf_24 : decode cX2_jobsOf 24 = .ok (.if_icmp .ne 17, 3) := by decide +kernel
theorem dX2_jobsOf_27 : decode cX2_jobsOf 27 = .ok (.iload 4, 2) := by decide +kernel
theorem dX2_jobsOf_29 : decode cX2_jobsOf 29 = .ok (.iconst 1, 1) := by decide +kernel
theorem dX2_jobsOf_30 : decode cX2_jobsOf 30 = .ok (.aload_n 0, 1) := by decide +kernel
theorem dX2_jobsOf_31 : decode cX2_jobsOf 31 = .ok (.iload 5, 2) := by decide +kernel
theorem dX2_jobsOf_33 : decode cX2_jobsOf 33 = .ok (.iload_n 2, 1) := by decide +kernel
theorem dX2_jobsOf_34 : decode cX2_jobsOf 34 = .ok (.invokevirtual 64, 3) := by decide +kernel
theorem dX2_jobsOf_37 : decode cX2_jobsOf 37 = .ok (.ishl, 1) := by decide +kernel
theorem dX2_jobsOf_38 : decode cX2_jobsOf 38 = .ok (.ior, 1) := by decide +kernel
theorem dX2_jobsOf_39 : decode cX2_jobsOf 39 = .ok (.istore 4, 2) := by decide +kernel
theorem dX2_jobsOf_41 : decode cX2_jobsOf 41 = .ok (.iinc 5 1, 3) := by decide +kernel
theorem dX2_jobsOf_44 : decode cX2_jobsOf 44 = .ok (.goto (-38), 3) := by decide +kernel
theorem dX2_jobsOf_47 : decode cX2_jobsOf 47 = .ok (.iload 4, 2) := by decide +kernel
theorem dX2_jobsOf_49 : decode cX2_jobsOf 49 = .ok (.ireturn, 1) := by decide +kernel
theorem dX2_doersOf_0 : decode cX2_doersOf 0 = .ok (.iconst 0, 1) := by decide +kernel
theorem dX2_doersOf_1 : decode cX2_doersOf 1 = .ok (.istore 4, 2) := by decide +kernel
theorem dX2_doersOf_3 : decode cX2_doersOf 3 = .ok (.iconst 0, 1) := by decide +kernel
theorem dX2_doersOf_4 : decode cX2_doersOf 4 = .ok (.istore 5, 2) := by decide +kernel
theorem dX2_doersOf_6 : decode cX2_doersOf 6 = .ok (.iload 5, 2) := by decide +kernel
theorem dX2_doersOf_8 : decode cX2_doersOf 8 = .ok (.aload_n 0, 1) := by decide +kernel
theorem dX2_doersOf_9 : decode cX2_doersOf 9 = .ok (.getfield 27, 3) := by decide +kernel
theorem dX2_doersOf_12 : decode cX2_doersOf 12 = .ok (.if_icmp .ge 51, 3) := by decide +kernel
theorem dX2_doersOf_15 : decode cX2_doersOf 15 = .ok (.aload_n 0, 1) := by decide +kernel
theorem dX2_doersOf_16 : decode cX2_doersOf 16 = .ok (.iload 5, 2) := by decide +kernel
theorem dX2_doersOf_18 : decode cX2_doersOf 18 = .ok (.iload_n 2, 1) := by decide +kernel
theorem dX2_doersOf_19 : decode cX2_doersOf 19 = .ok (.invokevirtual 64, 3) := by decide +kernel
theorem dX2_doersOf_22 : decode cX2_doersOf 22 = .ok (.iload_n 1, 1) := by decide +kernel
theorem dX2_doersOf_23 : decode cX2_doersOf 23 = .ok (.if_icmp .ne 14, 3) := by decide +kernel
theorem dX2_doersOf_26 : decode cX2_doersOf 26 = .ok (.aload_n 0, 1) := by decide +kernel
theorem dX2_doersOf_27 : decode cX2_doersOf 27 = .ok (.iload 5, 2) := by decide +kernel
theorem dX2_doersOf_29 : decode cX2_doersOf 29 = .ok (.iload_n 2, 1) := by decide +kernel
theorem dX2_doersOf_30 : decode cX2_doersOf 30 = .ok (.iload_n 3, 1) := by decide +kernel
theorem dX2_doersOf_31 : decode cX2_doersOf 31 = .ok (.invokevirtual 71, 3) := by decide +kernel
theorem dX2_doersOf_34 : decode cX2_doersOf 34 = .ok (.goto 5, 3) := by decide +kernel
theorem dX2_doersOf_37 : decode cX2_doersOf 37 = .ok (.bipush 6, 2) := by decide +kernel
theorem dX2_doersOf_39 : decode cX2_doersOf 39 = .ok (.istore 6, 2) := by decide +kernel
theorem dX2_doersOf_41 : decode cX2_doersOf 41 = .ok (.iload 6, 2) := by decide +kernel
theorem dX2_doersOf_43 : decode cX2_doersOf 43 = .ok (.bipush 6, 2) := by decide +kernel
theorem dX2_doersOf_45 : decode cX2_doersOf 45 = .ok (.if_icmp .eq 12, 3) := by decide +kernel
theorem dX2_doersOf_48 : decode cX2_doersOf 48 = .ok (.iload 4, 2) := by decide +kernel
theorem dX2_doersOf_50 : decode cX2_doersOf 50 = .ok (.iconst 1, 1) := by decide +kernel
theorem dX2_doersOf_51 : decode cX2_doersOf 51 = .ok (.iload 6, 2) := by decide +kernel
theorem dX2_doersOf_53 : decode cX2_doersOf 53 = .ok (.ishl, 1) := by decide +kernel
theorem dX2_doersOf_54 : decode cX2_doersOf 54 = .ok (.ior, 1) := by decide +kernel
theorem dX2_doersOf_55 : decode cX2_doersOf 55 = .ok (.istore 4, 2) := by decide +kernel
theorem dX2_doersOf_57 : decode cX2_doersOf 57 = .ok (.iinc 5 1, 3) := by decide +kernel
theorem dX2_doersOf_60 : decode cX2_doersOf 60 = .ok (.goto (-54), 3) := by decide +kernel
theorem dX2_doersOf_63 : decode cX2_doersOf 63 = .ok (.iload 4, 2) := by decide +kernel
theorem dX2_doersOf_65 : decode cX2_doersOf 65 = .ok (.ireturn, 1) := by decide +kernel
theorem dX2_passWeek_0 : decode cX2_passWeek 0 = .ok (.iconst 0, 1) := by decide +kernel
theorem dX2_passWeek_1 : decode cX2_passWeek 1 = .ok (.istore_n 1, 1) := by decide +kernel
theorem dX2_passWeek_2 : decode cX2_passWeek 2 = .ok (.iload_n 1, 1) := by decide +kernel
theorem dX2_passWeek_3 : decode cX2_passWeek 3 = .ok (.aload_n 0, 1) := by decide +kernel
theorem dX2_passWeek_4 : decode cX2_passWeek 4 = .ok (.getfield 27, 3) := by decide +kernel
theorem dX2_passWeek_7 : decode cX2_passWeek 7 = .ok (.if_icmp .ge 62, 3) := by decide +kernel
theorem dX2_passWeek_10 : decode cX2_passWeek 10 = .ok (.aload_n 0, 1) := by decide +kernel
theorem dX2_passWeek_11 : decode cX2_passWeek 11 = .ok (.iload_n 1, 1) := by decide +kernel
theorem dX2_passWeek_12 : decode cX2_passWeek 12 = .ok (.aload_n 0, 1) := by decide +kernel
theorem dX2_passWeek_13 : decode cX2_passWeek 13 = .ok (.getfield 46, 3) := by decide +kernel
theorem dX2_passWeek_16 : decode cX2_passWeek 16 = .ok (.aload_n 0, 1) := by decide +kernel
theorem dX2_passWeek_17 : decode cX2_passWeek 17 = .ok (.getfield 49, 3) := by decide +kernel
theorem dX2_passWeek_20 : decode cX2_passWeek 20 = .ok (.invokevirtual 71, 3) := by decide +kernel
theorem dX2_passWeek_23 : decode cX2_passWeek 23 = .ok (.istore_n 2, 1) := by decide +kernel
theorem dX2_passWeek_24 : decode cX2_passWeek 24 = .ok (.aload_n 0, 1) := by decide +kernel
theorem dX2_passWeek_25 : decode cX2_passWeek 25 = .ok (.iload_n 1, 1) := by decide +kernel
theorem dX2_passWeek_26 : decode cX2_passWeek 26 = .ok (.aload_n 0, 1) := by decide +kernel
theorem dX2_passWeek_27 : decode cX2_passWeek 27 = .ok (.getfield 46, 3) := by decide +kernel
theorem dX2_passWeek_30 : decode cX2_passWeek 30 = .ok (.invokevirtual 64, 3) := by decide +kernel
theorem dX2_passWeek_33 : decode cX2_passWeek 33 = .ok (.istore_n 3, 1) := by decide +kernel
theorem dX2_passWeek_34 : decode cX2_passWeek 34 = .ok (.iload_n 2, 1) := by decide +kernel
theorem dX2_passWeek_35 : decode cX2_passWeek 35 = .ok (.invokestatic 75, 3) := by decide +kernel
theorem dX2_passWeek_38 : decode cX2_passWeek 38 = .ok (.ifCond .eq 25, 3) := by decide +kernel
theorem dX2_passWeek_41 : decode cX2_passWeek 41 = .ok (.iload_n 3, 1) := by decide +kernel
theorem dX2_passWeek_42 : decode cX2_passWeek 42 = .ok (.invokestatic 79, 3) := by decide +kernel
theorem dX2_passWeek_45 : decode cX2_passWeek 45 = .ok (.ifCond .eq 18, 3) := by decide +kernel
theorem dX2_passWeek_48 : decode cX2_passWeek 48 = .ok (.aload_n 0, 1) := by decide +kernel
theorem dX2_passWeek_49 : decode cX2_passWeek 49 = .ok (.getfield 24, 3) := by decide +kernel
theorem dX2_passWeek_52 : decode cX2_passWeek 52 = .ok (.iload_n 2, 1) := by decide +kernel
theorem dX2_passWeek_53 : decode cX2_passWeek 53 = .ok (.bipush 6, 2) := by decide +kernel
theorem dX2_passWeek_55 : decode cX2_passWeek 55 = .ok (.imul, 1) := by decide +kernel
theorem dX2_passWeek_56 : decode cX2_passWeek 56 = .ok (.iload_n 3, 1) := by decide +kernel
theorem dX2_passWeek_57 : decode cX2_passWeek 57 = .ok (.iadd, 1) := by decide +kernel
theorem dX2_passWeek_58 : decode cX2_passWeek 58 = .ok (.dup2, 1) := by decide +kernel
theorem dX2_passWeek_59 : decode cX2_passWeek 59 = .ok (.iaload, 1) := by decide +kernel
theorem dX2_passWeek_60 : decode cX2_passWeek 60 = .ok (.iconst 1, 1) := by decide +kernel
theorem dX2_passWeek_61 : decode cX2_passWeek 61 = .ok (.iadd, 1) := by decide +kernel
theorem dX2_passWeek_62 : decode cX2_passWeek 62 = .ok (.iastore, 1) := by decide +kernel
theorem dX2_passWeek_63 : decode cX2_passWeek 63 = .ok (.iinc 1 1, 3) := by decide +kernel
theorem dX2_passWeek_66 : decode cX2_passWeek 66 = .ok (.goto (-64), 3) := by decide +kernel
theorem dX2_passWeek_69 : decode cX2_passWeek 69 = .ok (.aload_n 0, 1) := by decide +kernel
theorem dX2_passWeek_70 : decode cX2_passWeek 70 = .ok (.aload_n 0, 1) := by decide +kernel
theorem dX2_passWeek_71 : decode cX2_passWeek 71 = .ok (.aload_n 0, 1) := by decide +kernel
theorem dX2_passWeek_72 : decode cX2_passWeek 72 = .ok (.getfield 46, 3) := by decide +kernel
theorem dX2_passWeek_75 : decode cX2_passWeek 75 = .ok (.aload_n 0, 1) := by decide +kernel
theorem dX2_passWeek_76 : decode cX2_passWeek 76 = .ok (.getfield 43, 3) := by decide +kernel
theorem dX2_passWeek_79 : decode cX2_passWeek 79 = .ok (.invokevirtual 82, 3) := by decide +kernel
theorem dX2_passWeek_82 : decode cX2_passWeek 82 = .ok (.putfield 46, 3) := by decide +kernel
theorem dX2_passWeek_85 : decode cX2_passWeek 85 = .ok (.aload_n 0, 1) := by decide +kernel
theorem dX2_passWeek_86 : decode cX2_passWeek 86 = .ok (.iconst 0, 1) := by decide +kernel
theorem dX2_passWeek_87 : decode cX2_passWeek 87 = .ok (.putfield 49, 3) := by decide +kernel
theorem dX2_passWeek_90 : decode cX2_passWeek 90 = .ok (.aload_n 0, 1) := by decide +kernel
theorem dX2_passWeek_91 : decode cX2_passWeek 91 = .ok (.dup, 1) := by decide +kernel
theorem dX2_passWeek_92 : decode cX2_passWeek 92 = .ok (.getfield 43, 3) := by decide +kernel
theorem dX2_passWeek_95 : decode cX2_passWeek 95 = .ok (.iconst 1, 1) := by decide +kernel
theorem dX2_passWeek_96 : decode cX2_passWeek 96 = .ok (.iadd, 1) := by decide +kernel
theorem dX2_passWeek_97 : decode cX2_passWeek 97 = .ok (.putfield 43, 3) := by decide +kernel
theorem dX2_passWeek_100 : decode cX2_passWeek 100 = .ok (.return_, 1) := by decide +kernel
theorem dX2_turnedNext_0 : decode cX2_turnedNext 0 = .ok (.aload_n 0, 1) := by decide +kernel
theorem dX2_turnedNext_1 : decode cX2_turnedNext 1 = .ok (.iload_n 2, 1) := by decide +kernel
theorem dX2_turnedNext_2 : decode cX2_turnedNext 2 = .ok (.aload_n 0, 1) := by decide +kernel
theorem dX2_turnedNext_3 : decode cX2_turnedNext 3 = .ok (.getfield 40, 3) := by decide +kernel
theorem dX2_turnedNext_6 : decode cX2_turnedNext 6 = .ok (.invokestatic 57, 3) := by decide +kernel
theorem dX2_turnedNext_9 : decode cX2_turnedNext 9 = .ok (.invokevirtual 85, 3) := by decide +kernel
theorem dX2_turnedNext_12 : decode cX2_turnedNext 12 = .ok (.astore_n 3, 1) := by decide +kernel
theorem dX2_turnedNext_13 : decode cX2_turnedNext 13 = .ok (.aload_n 3, 1) := by decide +kernel
theorem dX2_turnedNext_14 : decode cX2_turnedNext 14 = .ok (.ifnonnull 7, 3) := by decide +kernel
theorem dX2_turnedNext_17 : decode cX2_turnedNext 17 = .ok (.iload_n 1, 1) := by decide +kernel
theorem dX2_turnedNext_18 : decode cX2_turnedNext 18 = .ok (.goto 17, 3) := by decide +kernel
theorem dX2_turnedNext_21 : decode cX2_turnedNext 21 = .ok (.iload_n 1, 1) := by decide +kernel
theorem dX2_turnedNext_22 : decode cX2_turnedNext 22 = .ok (.aload_n 3, 1) := by decide +kernel
theorem dX2_turnedNext_23 : decode cX2_turnedNext 23 = .ok (.iload_n 2, 1) := by decide +kernel
theorem dX2_turnedNext_24 : decode cX2_turnedNext 24 = .ok (.invokevirtual 89, 3) := by decide +kernel
theorem dX2_turnedNext_27 : decode cX2_turnedNext 27 = .ok (.iadd, 1) := by decide +kernel
theorem dX2_turnedNext_28 : decode cX2_turnedNext 28 = .ok (.aload_n 0, 1) := by decide +kernel
theorem dX2_turnedNext_29 : decode cX2_turnedNext 29 = .ok (.getfield 37, 3) := by decide +kernel
theorem dX2_turnedNext_32 : decode cX2_turnedNext 32 = .ok (.invokestatic 57, 3) := by decide +kernel
theorem dX2_turnedNext_35 : decode cX2_turnedNext 35 = .ok (.ireturn, 1) := by decide +kernel
theorem dX2_turnedBehind_0 : decode cX2_turnedBehind 0 = .ok (.aload_n 0, 1) := by decide +kernel
theorem dX2_turnedBehind_1 : decode cX2_turnedBehind 1 = .ok (.getfield 46, 3) := by decide +kernel
theorem dX2_turnedBehind_4 : decode cX2_turnedBehind 4 = .ok (.istore_n 2, 1) := by decide +kernel
theorem dX2_turnedBehind_5 : decode cX2_turnedBehind 5 = .ok (.iconst 0, 1) := by decide +kernel
theorem dX2_turnedBehind_6 : decode cX2_turnedBehind 6 = .ok (.istore_n 3, 1) := by decide +kernel
theorem dX2_turnedBehind_7 : decode cX2_turnedBehind 7 = .ok (.iload_n 3, 1) := by decide +kernel
theorem dX2_turnedBehind_8 : decode cX2_turnedBehind 8 = .ok (.iload_n 1, 1) := by decide +kernel
theorem dX2_turnedBehind_9 : decode cX2_turnedBehind 9 = .ok (.if_icmp .ge 21, 3) := by decide +kernel
theorem dX2_turnedBehind_12 : decode cX2_turnedBehind 12 = .ok (.aload_n 0, 1) := by decide +kernel
theorem dX2_turnedBehind_13 : decode cX2_turnedBehind 13 = .ok (.iload_n 2, 1) := by decide +kernel
theorem dX2_turnedBehind_14 : decode cX2_turnedBehind 14 = .ok (.aload_n 0, 1) := by decide +kernel
theorem dX2_turnedBehind_15 : decode cX2_turnedBehind 15 = .ok (.getfield 43, 3) := by decide +kernel
theorem dX2_turnedBehind_18 : decode cX2_turnedBehind 18 = .ok (.iload_n 3, 1) := by decide +kernel
theorem dX2_turnedBehind_19 : decode cX2_turnedBehind 19 = .ok (.iadd, 1) := by decide +kernel
theorem dX2_turnedBehind_20 : decode cX2_turnedBehind 20 = .ok (.invokevirtual 82, 3) := by decide +kernel
theorem dX2_turnedBehind_23 : decode cX2_turnedBehind 23 = .ok (.istore_n 2, 1) := by decide +kernel
theorem dX2_turnedBehind_24 : decode cX2_turnedBehind 24 = .ok (.iinc 3 1, 3) := by decide +kernel
theorem dX2_turnedBehind_27 : decode cX2_turnedBehind 27 = .ok (.goto (-20), 3) := by decide +kernel
theorem dX2_turnedBehind_30 : decode cX2_turnedBehind 30 = .ok (.iload_n 2, 1) := by decide +kernel
theorem dX2_turnedBehind_31 : decode cX2_turnedBehind 31 = .ok (.ireturn, 1) := by decide +kernel
theorem dX2_awayBehind_0 : decode cX2_awayBehind 0 = .ok (.iload_n 1, 1) := by decide +kernel
theorem dX2_awayBehind_1 : decode cX2_awayBehind 1 = .ok (.ifCond .ne 10, 3) := by decide +kernel
theorem dX2_awayBehind_4 : decode cX2_awayBehind 4 = .ok (.aload_n 0, 1) := by decide +kernel
theorem dX2_awayBehind_5 : decode cX2_awayBehind 5 = .ok (.getfield 49, 3) := by decide +kernel
theorem dX2_awayBehind_8 : decode cX2_awayBehind 8 = .ok (.goto 4, 3) := by decide +kernel
theorem dX2_awayBehind_11 : decode cX2_awayBehind 11 = .ok (.iconst 0, 1) := by decide +kernel
theorem dX2_awayBehind_12 : decode cX2_awayBehind 12 = .ok (.ireturn, 1) := by decide +kernel
theorem dX2_peopleOnIt_0 : decode cX2_peopleOnIt 0 = .ok (.aload_n 0, 1) := by decide +kernel
theorem dX2_peopleOnIt_1 : decode cX2_peopleOnIt 1 = .ok (.getfield 9, 3) := by decide +kernel
theorem dX2_peopleOnIt_4 : decode cX2_peopleOnIt 4 = .ok (.aload_n 0, 1) := by decide +kernel
theorem dX2_peopleOnIt_5 : decode cX2_peopleOnIt 5 = .ok (.getfield 27, 3) := by decide +kernel
theorem dX2_peopleOnIt_8 : decode cX2_peopleOnIt 8 = .ok (.invokestatic 92, 3) := by decide +kernel
theorem dX2_peopleOnIt_11 : decode cX2_peopleOnIt 11 = .ok (.ireturn, 1) := by decide +kernel
theorem dX2_jobsOnIt_0 : decode cX2_jobsOnIt 0 = .ok (.aload_n 0, 1) := by decide +kernel
theorem dX2_jobsOnIt_1 : decode cX2_jobsOnIt 1 = .ok (.getfield 15, 3) := by decide +kernel
theorem dX2_jobsOnIt_4 : decode cX2_jobsOnIt 4 = .ok (.aload_n 0, 1) := by decide +kernel
theorem dX2_jobsOnIt_5 : decode cX2_jobsOnIt 5 = .ok (.getfield 37, 3) := by decide +kernel
theorem dX2_jobsOnIt_8 : decode cX2_jobsOnIt 8 = .ok (.invokestatic 92, 3) := by decide +kernel
theorem dX2_jobsOnIt_11 : decode cX2_jobsOnIt 11 = .ok (.ireturn, 1) := by decide +kernel
theorem dX2_bitsOf_0 : decode cX2_bitsOf 0 = .ok (.iconst 0, 1) := by decide +kernel
theorem dX2_bitsOf_1 : decode cX2_bitsOf 1 = .ok (.istore_n 2, 1) := by decide +kernel
theorem dX2_bitsOf_2 : decode cX2_bitsOf 2 = .ok (.iconst 0, 1) := by decide +kernel
theorem dX2_bitsOf_3 : decode cX2_bitsOf 3 = .ok (.istore_n 3, 1) := by decide +kernel
theorem dX2_bitsOf_4 : decode cX2_bitsOf 4 = .ok (.iload_n 3, 1) := by decide +kernel
theorem dX2_bitsOf_5 : decode cX2_bitsOf 5 = .ok (.iload_n 1, 1) := by decide +kernel
theorem dX2_bitsOf_6 : decode cX2_bitsOf 6 = .ok (.if_icmp .ge 31, 3) := by decide +kernel
theorem dX2_bitsOf_9 : decode cX2_bitsOf 9 = .ok (.iload_n 3, 1) := by decide +kernel
theorem dX2_bitsOf_10 : decode cX2_bitsOf 10 = .ok (.aload_n 0, 1) := by decide +kernel
theorem dX2_bitsOf_11 : decode cX2_bitsOf 11 = .ok (.arraylength, 1) := by decide +kernel
theorem dX2_bitsOf_12 : decode cX2_bitsOf 12 = .ok (.if_icmp .ge 25, 3) := by decide +kernel
theorem dX2_bitsOf_15 : decode cX2_bitsOf 15 = .ok (.aload_n 0, 1) := by decide +kernel
theorem dX2_bitsOf_16 : decode cX2_bitsOf 16 = .ok (.iload_n 3, 1) := by decide +kernel
theorem dX2_bitsOf_17 : decode cX2_bitsOf 17 = .ok (.iaload, 1) := by decide +kernel
theorem dX2_bitsOf_18 : decode cX2_bitsOf 18 = .ok (.bipush 6, 2) := by decide +kernel
theorem dX2_bitsOf_20 : decode cX2_bitsOf 20 = .ok (.if_icmp .eq 11, 3) := by decide +kernel
theorem dX2_bitsOf_23 : decode cX2_bitsOf 23 = .ok (.iload_n 2, 1) := by decide +kernel
theorem dX2_bitsOf_24 : decode cX2_bitsOf 24 = .ok (.iconst 1, 1) := by decide +kernel
theorem dX2_bitsOf_25 : decode cX2_bitsOf 25 = .ok (.aload_n 0, 1) := by decide +kernel
theorem dX2_bitsOf_26 : decode cX2_bitsOf 26 = .ok (.iload_n 3, 1) := by decide +kernel
theorem dX2_bitsOf_27 : decode cX2_bitsOf 27 = .ok (.iaload, 1) := by decide +kernel
theorem dX2_bitsOf_28 : decode cX2_bitsOf 28 = .ok (.ishl, 1) := by decide +kernel
theorem dX2_bitsOf_29 : decode cX2_bitsOf 29 = .ok (.ior, 1) := by decide +kernel
theorem dX2_bitsOf_30 : decode cX2_bitsOf 30 = .ok (.istore_n 2, 1) := by decide +kernel
theorem dX2_bitsOf_31 : decode cX2_bitsOf 31 = .ok (.iinc 3 1, 3) := by decide +kernel
theorem dX2_bitsOf_34 : decode cX2_bitsOf 34 = .ok (.goto (-30), 3) := by decide +kernel
theorem dX2_bitsOf_37 : decode cX2_bitsOf 37 = .ok (.iload_n 2, 1) := by decide +kernel
theorem dX2_bitsOf_38 : decode cX2_bitsOf 38 = .ok (.ireturn, 1) := by decide +kernel
theorem dX2_allTimesOf_0 : decode cX2_allTimesOf 0 = .ok (.iconst 0, 1) := by decide +kernel
theorem dX2_allTimesOf_1 : decode cX2_allTimesOf 1 = .ok (.istore_n 2, 1) := by decide +kernel
theorem dX2_allTimesOf_2 : decode cX2_allTimesOf 2 = .ok (.iconst 0, 1) := by decide +kernel
theorem dX2_allTimesOf_3 : decode cX2_allTimesOf 3 = .ok (.istore_n 3, 1) := by decide +kernel
theorem dX2_allTimesOf_4 : decode cX2_allTimesOf 4 = .ok (.iload_n 3, 1) := by decide +kernel
theorem dX2_allTimesOf_5 : decode cX2_allTimesOf 5 = .ok (.bipush 6, 2) := by decide +kernel
theorem dX2_allTimesOf_7 : decode cX2_allTimesOf 7 = .ok (.if_icmp .ge 30, 3) := by decide +kernel
theorem dX2_allTimesOf_10 : decode cX2_allTimesOf 10 = .ok (.iload_n 1, 1) := by decide +kernel
theorem dX2_allTimesOf_11 : decode cX2_allTimesOf 11 = .ok (.invokestatic 75, 3) := by decide +kernel
theorem dX2_allTimesOf_14 : decode cX2_allTimesOf 14 = .ok (.ifCond .eq 23, 3) := by decide +kernel
theorem dX2_allTimesOf_17 : decode cX2_allTimesOf 17 = .ok (.iload_n 2, 1) := by decide +kernel
theorem dX2_allTimesOf_18 : decode cX2_allTimesOf 18 = .ok (.aload_n 0, 1) := by decide +kernel
theorem dX2_allTimesOf_19 : decode cX2_allTimesOf 19 = .ok (.getfield 24, 3) := by decide +kernel
theorem dX2_allTimesOf_22 : decode cX2_allTimesOf 22 = .ok (.iload_n 1, 1) := by decide +kernel
theorem dX2_allTimesOf_23 : decode cX2_allTimesOf 23 = .ok (.bipush 6, 2) := by decide +kernel
theorem dX2_allTimesOf_25 : decode cX2_allTimesOf 25 = .ok (.imul, 1) := by decide +kernel
theorem dX2_allTimesOf_26 : decode cX2_allTimesOf 26 = .ok (.iload_n 3, 1) := by decide +kernel
theorem dX2_allTimesOf_27 : decode cX2_allTimesOf 27 = .ok (.iadd, 1) := by decide +kernel
theorem dX2_allTimesOf_28 : decode cX2_allTimesOf 28 = .ok (.iaload, 1) := by decide +kernel
theorem dX2_allTimesOf_29 : decode cX2_allTimesOf 29 = .ok (.iadd, 1) := by decide +kernel
theorem dX2_allTimesOf_30 : decode cX2_allTimesOf 30 = .ok (.istore_n 2, 1) := by decide +kernel
theorem dX2_allTimesOf_31 : decode cX2_allTimesOf 31 = .ok (.iinc 3 1, 3) := by decide +kernel
theorem dX2_allTimesOf_34 : decode cX2_allTimesOf 34 = .ok (.goto (-30), 3) := by decide +kernel
theorem dX2_allTimesOf_37 : decode cX2_allTimesOf 37 = .ok (.iload_n 2, 1) := by decide +kernel
theorem dX2_allTimesOf_38 : decode cX2_allTimesOf 38 = .ok (.ireturn, 1) := by decide +kernel
theorem dX2_allTimes_0 : decode cX2_allTimes 0 = .ok (.iconst 0, 1) := by decide +kernel
theorem dX2_allTimes_1 : decode cX2_allTimes 1 = .ok (.istore_n 1, 1) := by decide +kernel
theorem dX2_allTimes_2 : decode cX2_allTimes 2 = .ok (.iconst 0, 1) := by decide +kernel
theorem dX2_allTimes_3 : decode cX2_allTimes 3 = .ok (.istore_n 2, 1) := by decide +kernel
theorem dX2_allTimes_4 : decode cX2_allTimes 4 = .ok (.iload_n 2, 1) := by decide +kernel
theorem dX2_allTimes_5 : decode cX2_allTimes 5 = .ok (.bipush 6, 2) := by decide +kernel
theorem dX2_allTimes_7 : decode cX2_allTimes 7 = .ok (.if_icmp .ge 17, 3) := by decide +kernel
theorem dX2_allTimes_10 : decode cX2_allTimes 10 = .ok (.iload_n 1, 1) := by decide +kernel
theorem dX2_allTimes_11 : decode cX2_allTimes 11 = .ok (.aload_n 0, 1) := by decide +kernel
theorem dX2_allTimes_12 : decode cX2_allTimes 12 = .ok (.iload_n 2, 1) := by decide +kernel
theorem dX2_allTimes_13 : decode cX2_allTimes 13 = .ok (.invokevirtual 96, 3) := by decide +kernel
theorem dX2_allTimes_16 : decode cX2_allTimes 16 = .ok (.iadd, 1) := by decide +kernel
theorem dX2_allTimes_17 : decode cX2_allTimes 17 = .ok (.istore_n 1, 1) := by decide +kernel
theorem dX2_allTimes_18 : decode cX2_allTimes 18 = .ok (.iinc 2 1, 3) := by decide +kernel
theorem dX2_allTimes_21 : decode cX2_allTimes 21 = .ok (.goto (-17), 3) := by decide +kernel
theorem dX2_allTimes_24 : decode cX2_allTimes 24 = .ok (.iload_n 1, 1) := by decide +kernel
theorem dX2_allTimes_25 : decode cX2_allTimes 25 = .ok (.ireturn, 1) := by decide +kernel
theorem dX3_init_0 : decode cX3_init 0 = .ok (.aload_n 0, 1) := by decide +kernel
theorem dX3_init_1 : decode cX3_init 1 = .ok (.iload_n 1, 1) := by decide +kernel
theorem dX3_init_2 : decode cX3_init 2 = .ok (.iload_n 2, 1) := by decide +kernel
theorem dX3_init_3 : decode cX3_init 3 = .ok (.invokespecial 1, 3) := by decide +kernel
theorem dX3_init_6 : decode cX3_init 6 = .ok (.return_, 1) := by decide +kernel
theorem dX3_ownKind_0 : decode cX3_ownKind 0 = .ok (.iconst 4, 1) := by decide +kernel
theorem dX3_ownKind_1 : decode cX3_ownKind 1 = .ok (.ireturn, 1) := by decide +kernel
theorem dX3_howFar_0 : decode cX3_howFar 0 = .ok (.iload_n 1, 1) := by decide +kernel
theorem dX3_howFar_1 : decode cX3_howFar 1 = .ok (.aload_n 0, 1) := by decide +kernel
theorem dX3_howFar_2 : decode cX3_howFar 2 = .ok (.getfield 7, 3) := by decide +kernel
theorem dX3_howFar_5 : decode cX3_howFar 5 = .ok (.iadd, 1) := by decide +kernel
theorem dX3_howFar_6 : decode cX3_howFar 6 = .ok (.ireturn, 1) := by decide +kernel
theorem dX3_size_0 : decode cX3_size 0 = .ok (.aload_n 1, 1) := by decide +kernel
theorem dX3_size_1 : decode cX3_size 1 = .ok (.bipush 13, 2) := by decide +kernel
theorem dX3_size_3 : decode cX3_size 3 = .ok (.invokevirtual 13, 3) := by decide +kernel
theorem dX3_size_6 : decode cX3_size 6 = .ok (.aload_n 0, 1) := by decide +kernel
theorem dX3_size_7 : decode cX3_size 7 = .ok (.aload_n 1, 1) := by decide +kernel
theorem dX3_size_8 : decode cX3_size 8 = .ok (.iload_n 2, 1) := by decide +kernel
theorem dX3_size_9 : decode cX3_size 9 = .ok (.iload_n 3, 1) := by decide +kernel
theorem dX3_size_10 : decode cX3_size 10 = .ok (.invokespecial 19, 3) := by decide +kernel
theorem dX3_size_13 : decode cX3_size 13 = .ok (.bipush 100, 2) := by decide +kernel
theorem dX3_size_15 : decode cX3_size 15 = .ok (.isub, 1) := by decide +kernel
theorem dX3_size_16 : decode cX3_size 16 = .ok (.ireturn, 1) := by decide +kernel
theorem dX3_mark_0 : decode cX3_mark 0 = .ok (.aload_n 1, 1) := by decide +kernel
theorem dX3_mark_1 : decode cX3_mark 1 = .ok (.bipush 23, 2) := by decide +kernel
theorem dX3_mark_3 : decode cX3_mark 3 = .ok (.invokevirtual 13, 3) := by decide +kernel
theorem dX3_mark_6 : decode cX3_mark 6 = .ok (.aload_n 0, 1) := by decide +kernel
theorem dX3_mark_7 : decode cX3_mark 7 = .ok (.aload_n 1, 1) := by decide +kernel
theorem dX3_mark_8 : decode cX3_mark 8 = .ok (.iload_n 2, 1) := by decide +kernel
theorem dX3_mark_9 : decode cX3_mark 9 = .ok (.iload_n 3, 1) := by decide +kernel
theorem dX3_mark_10 : decode cX3_mark 10 = .ok (.invokespecial 23, 3) := by decide +kernel
theorem dX3_mark_13 : decode cX3_mark 13 = .ok (.istore 4, 2) := by decide +kernel
theorem dX3_mark_15 : decode cX3_mark 15 = .ok (.iload_n 3, 1) := by decide +kernel
theorem dX3_mark_16 : decode cX3_mark 16 = .ok (.bipush 8, 2) := by decide +kernel
theorem dX3_mark_18 : decode cX3_mark 18 = .ok (.if_icmp .ge 18, 3) := by decide +kernel
theorem dX3_mark_21 : decode cX3_mark 21 = .ok (.iload 4, 2) := by decide +kernel
theorem dX3_mark_23 : decode cX3_mark 23 = .ok (.aload_n 0, 1) := by decide +kernel
theorem dX3_mark_24 : decode cX3_mark 24 = .ok (.aload_n 1, 1) := by decide +kernel
theorem dX3_mark_25 : decode cX3_mark 25 = .ok (.iload_n 2, 1) := by decide +kernel
theorem dX3_mark_26 : decode cX3_mark 26 = .ok (.iload_n 3, 1) := by decide +kernel
theorem dX3_mark_27 : decode cX3_mark 27 = .ok (.iconst 1, 1) := by decide +kernel
theorem dX3_mark_28 : decode cX3_mark 28 = .ok (.iadd, 1) := by decide +kernel
theorem dX3_mark_29 : decode cX3_mark 29 = .ok (.invokevirtual 26, 3) := by decide +kernel
theorem dX3_mark_32 : decode cX3_mark 32 = .ok (.isub, 1) := by decide +kernel
theorem dX3_mark_33 : decode cX3_mark 33 = .ok (.goto 5, 3) := by decide +kernel
theorem dX3_mark_36 : decode cX3_mark 36 = .ok (.iload 4, 2) := by decide +kernel
theorem dX3_mark_38 : decode cX3_mark 38 = .ok (.ireturn, 1) := by decide +kernel
theorem dX4_init_0 : decode cX4_init 0 = .ok (.aload_n 0, 1) := by decide +kernel
theorem dX4_init_1 : decode cX4_init 1 = .ok (.iload_n 1, 1) := by decide +kernel
theorem dX4_init_2 : decode cX4_init 2 = .ok (.iload_n 2, 1) := by decide +kernel
theorem dX4_init_3 : decode cX4_init 3 = .ok (.invokespecial 1, 3) := by decide +kernel
theorem dX4_init_6 : decode cX4_init 6 = .ok (.return_, 1) := by decide +kernel
theorem dX4_ownKind_0 : decode cX4_ownKind 0 = .ok (.iconst 1, 1) := by decide +kernel
theorem dX4_ownKind_1 : decode cX4_ownKind 1 = .ok (.ireturn, 1) := by decide +kernel
theorem dX4_howFar_0 : decode cX4_howFar 0 = .ok (.iconst 1, 1) := by decide +kernel
theorem dX4_howFar_1 : decode cX4_howFar 1 = .ok (.ireturn, 1) := by decide +kernel
theorem dX4_size_0 : decode cX4_size 0 = .ok (.aload_n 1, 1) := by decide +kernel
theorem dX4_size_1 : decode cX4_size 1 = .ok (.bipush 11, 2) := by decide +kernel
theorem dX4_size_3 : decode cX4_size 3 = .ok (.invokevirtual 7, 3) := by decide +kernel
theorem dX4_size_6 : decode cX4_size 6 = .ok (.aload_n 0, 1) := by decide +kernel
theorem dX4_size_7 : decode cX4_size 7 = .ok (.aload_n 1, 1) := by decide +kernel
theorem dX4_size_8 : decode cX4_size 8 = .ok (.iload_n 2, 1) := by decide +kernel
theorem dX4_size_9 : decode cX4_size 9 = .ok (.iload_n 3, 1) := by decide +kernel
theorem dX4_size_10 : decode cX4_size 10 = .ok (.invokespecial 13, 3) := by decide +kernel
theorem dX4_size_13 : decode cX4_size 13 = .ok (.istore 4, 2) := by decide +kernel
theorem dX4_size_15 : decode cX4_size 15 = .ok (.iload_n 3, 1) := by decide +kernel
theorem dX4_size_16 : decode cX4_size 16 = .ok (.bipush 8, 2) := by decide +kernel
theorem dX4_size_18 : decode cX4_size 18 = .ok (.if_icmp .ge 18, 3) := by decide +kernel
theorem dX4_size_21 : decode cX4_size 21 = .ok (.iload 4, 2) := by decide +kernel
theorem dX4_size_23 : decode cX4_size 23 = .ok (.aload_n 0, 1) := by decide +kernel
theorem dX4_size_24 : decode cX4_size 24 = .ok (.aload_n 1, 1) := by decide +kernel
theorem dX4_size_25 : decode cX4_size 25 = .ok (.iload_n 2, 1) := by decide +kernel
theorem dX4_size_26 : decode cX4_size 26 = .ok (.iload_n 3, 1) := by decide +kernel
theorem dX4_size_27 : decode cX4_size 27 = .ok (.iconst 1, 1) := by decide +kernel
theorem dX4_size_28 : decode cX4_size 28 = .ok (.iadd, 1) := by decide +kernel
theorem dX4_size_29 : decode cX4_size 29 = .ok (.invokevirtual 17, 3) := by decide +kernel
theorem dX4_size_32 : decode cX4_size 32 = .ok (.iadd, 1) := by decide +kernel
theorem dX4_size_33 : decode cX4_size 33 = .ok (.goto 5, 3) := by decide +kernel
theorem dX4_size_36 : decode cX4_size 36 = .ok (.iload 4, 2) := by decide +kernel
theorem dX4_size_38 : decode cX4_size 38 = .ok (.ireturn, 1) := by decide +kernel
theorem dX4_mark_0 : decode cX4_mark 0 = .ok (.aload_n 1, 1) := by decide +kernel
theorem dX4_mark_1 : decode cX4_mark 1 = .ok (.bipush 21, 2) := by decide +kernel
theorem dX4_mark_3 : decode cX4_mark 3 = .ok (.invokevirtual 7, 3) := by decide +kernel
theorem dX4_mark_6 : decode cX4_mark 6 = .ok (.aload_n 0, 1) := by decide +kernel
theorem dX4_mark_7 : decode cX4_mark 7 = .ok (.aload_n 1, 1) := by decide +kernel
theorem dX4_mark_8 : decode cX4_mark 8 = .ok (.iload_n 2, 1) := by decide +kernel
theorem dX4_mark_9 : decode cX4_mark 9 = .ok (.iload_n 3, 1) := by decide +kernel
theorem dX4_mark_10 : decode cX4_mark 10 = .ok (.invokespecial 22, 3) := by decide +kernel
theorem dX4_mark_13 : decode cX4_mark 13 = .ok (.iload_n 2, 1) := by decide +kernel
theorem dX4_mark_14 : decode cX4_mark 14 = .ok (.iadd, 1) := by decide +kernel
theorem dX4_mark_15 : decode cX4_mark 15 = .ok (.ireturn, 1) := by decide +kernel
theorem dX5_init_0 : decode cX5_init 0 = .ok (.aload_n 0, 1) := by decide +kernel
theorem dX5_init_1 : decode cX5_init 1 = .ok (.iload_n 1, 1) := by decide +kernel
theorem dX5_init_2 : decode cX5_init 2 = .ok (.iload_n 2, 1) := by decide +kernel
theorem dX5_init_3 : decode cX5_init 3 = .ok (.invokespecial 1, 3) := by decide +kernel
theorem dX5_init_6 : decode cX5_init 6 = .ok (.return_, 1) := by decide +kernel
theorem dX5_ownKind_0 : decode cX5_ownKind 0 = .ok (.iconst 5, 1) := by decide +kernel
theorem dX5_ownKind_1 : decode cX5_ownKind 1 = .ok (.ireturn, 1) := by decide +kernel
theorem dX5_howFar_0 : decode cX5_howFar 0 = .ok (.iload_n 1, 1) := by decide +kernel
theorem dX5_howFar_1 : decode cX5_howFar 1 = .ok (.iconst 3, 1) := by decide +kernel
theorem dX5_howFar_2 : decode cX5_howFar 2 = .ok (.invokestatic 7, 3) := by decide +kernel
theorem dX5_howFar_5 : decode cX5_howFar 5 = .ok (.ifCond .ne 12, 3) := by decide +kernel
theorem dX5_howFar_8 : decode cX5_howFar 8 = .ok (.aload_n 0, 1) := by decide +kernel
theorem dX5_howFar_9 : decode cX5_howFar 9 = .ok (.iload_n 1, 1) := by decide +kernel
theorem dX5_howFar_10 : decode cX5_howFar 10 = .ok (.invokespecial 13, 3) := by decide +kernel
theorem dX5_howFar_13 : decode cX5_howFar 13 = .ok (.ineg, 1) := by decide +kernel
theorem dX5_howFar_14 : decode cX5_howFar 14 = .ok (.goto 8, 3) := by decide +kernel
theorem dX5_howFar_17 : decode cX5_howFar 17 = .ok (.aload_n 0, 1) := by decide +kernel
theorem dX5_howFar_18 : decode cX5_howFar 18 = .ok (.iload_n 1, 1) := by decide +kernel
theorem dX5_howFar_19 : decode cX5_howFar 19 = .ok (.invokespecial 13, 3) := by decide +kernel
theorem dX5_howFar_22 : decode cX5_howFar 22 = .ok (.ireturn, 1) := by decide +kernel
theorem dX5_size_0 : decode cX5_size 0 = .ok (.aload_n 1, 1) := by decide +kernel
theorem dX5_size_1 : decode cX5_size 1 = .ok (.bipush 14, 2) := by decide +kernel
theorem dX5_size_3 : decode cX5_size 3 = .ok (.invokevirtual 17, 3) := by decide +kernel
theorem dX5_size_6 : decode cX5_size 6 = .ok (.iconst 2, 1) := by decide +kernel
theorem dX5_size_7 : decode cX5_size 7 = .ok (.aload_n 0, 1) := by decide +kernel
theorem dX5_size_8 : decode cX5_size 8 = .ok (.aload_n 1, 1) := by decide +kernel
theorem dX5_size_9 : decode cX5_size 9 = .ok (.iload_n 2, 1) := by decide +kernel
theorem dX5_size_10 : decode cX5_size 10 = .ok (.iload_n 3, 1) := by decide +kernel
theorem dX5_size_11 : decode cX5_size 11 = .ok (.invokespecial 23, 3) := by decide +kernel
theorem dX5_size_14 : decode cX5_size 14 = .ok (.imul, 1) := by decide +kernel
theorem dX5_size_15 : decode cX5_size 15 = .ok (.ireturn, 1) := by decide +kernel
theorem dX6_init_0 : decode cX6_init 0 = .ok (.aload_n 0, 1) := by decide +kernel
theorem dX6_init_1 : decode cX6_init 1 = .ok (.invokespecial 3, 3) := by decide +kernel
theorem dX6_init_4 : decode cX6_init 4 = .ok (.aload_n 0, 1) := by decide +kernel
theorem dX6_init_5 : decode cX6_init 5 = .ok (.bipush 8, 2) := by decide +kernel
theorem dX6_init_7 : decode cX6_init 7 = .ok (.bipush 40, 2) := by decide +kernel
theorem dX6_init_9 : decode cX6_init 9 = .ok (.multianewarray 9 2, 4) := by decide +kernel
theorem dX6_init_13 : decode cX6_init 13 = .ok (.putfield 11, 3) := by decide +kernel
theorem dX6_init_16 : decode cX6_init 16 = .ok (.aload_n 0, 1) := by decide +kernel
theorem dX6_init_17 : decode cX6_init 17 = .ok (.bipush 8, 2) := by decide +kernel
theorem dX6_init_19 : decode cX6_init 19 = .ok (.newarray .int, 2) := by decide +kernel
theorem dX6_init_21 : decode cX6_init 21 = .ok (.putfield 16, 3) := by decide +kernel
theorem dX6_init_24 : decode cX6_init 24 = .ok (.aload_n 0, 1) := by decide +kernel
theorem dX6_init_25 : decode cX6_init 25 = .ok (.bipush 8, 2) := by decide +kernel
theorem dX6_init_27 : decode cX6_init 27 = .ok (.newarray .int, 2) := by decide +kernel
theorem dX6_init_29 : decode cX6_init 29 = .ok (.putfield 20, 3) := by decide +kernel
theorem dX6_init_32 : decode cX6_init 32 = .ok (.aload_n 0, 1) := by decide +kernel
theorem dX6_init_33 : decode cX6_init 33 = .ok (.getfield 20, 3) := by decide +kernel
theorem dX6_init_36 : decode cX6_init 36 = .ok (.iconst (-1), 1) := by decide +kernel
theorem dX6_init_37 : decode cX6_init 37 = .ok (.invokestatic 23, 3) := by decide +kernel
theorem dX6_init_40 : decode cX6_init 40 = .ok (.return_, 1) := by decide +kernel
theorem dX6_isRow_0 : decode cX6_isRow 0 = .ok (.iload_n 0, 1) := by decide +kernel
theorem dX6_isRow_1 : decode cX6_isRow 1 = .ok (.iconst 0, 1) := by decide +kernel
theorem dX6_isRow_2 : decode cX6_isRow 2 = .ok (.bipush 7, 2) := by decide +kernel
theorem dX6_isRow_4 : decode cX6_isRow 4 = .ok (.invokestatic 29, 3) := by decide +kernel
theorem dX6_isRow_7 : decode cX6_isRow 7 = .ok (.ireturn, 1) := by decide +kernel
theorem dX6_isMissing_0 : decode cX6_isMissing 0 = .ok (.iload_n 1, 1) := by decide +kernel
theorem dX6_isMissing_1 : decode cX6_isMissing 1 = .ok (.invokestatic 33, 3) := by decide +kernel
theorem dX6_isMissing_4 : decode cX6_isMissing 4 = .ok (.ifCond .eq 13, 3) := by decide +kernel
theorem dX6_isMissing_7 : decode cX6_isMissing 7 = .ok (.aload_n 0, 1) := by decide +kernel
theorem dX6_isMissing_8 : decode cX6_isMissing 8 = .ok (.getfield 20, 3) := by decide +kernel
theorem dX6_isMissing_11 : decode cX6_isMissing 11 = .ok (.iload_n 1, 1) := by decide +kernel
theorem dX6_isMissing_12 : decode cX6_isMissing 12 = .ok (.iaload, 1) := by decide +kernel
theorem dX6_isMissing_13 : decode cX6_isMissing 13 = .ok (.iconst (-1), 1) := by decide +kernel
theorem dX6_isMissing_14 : decode cX6_isMissing 14 = .ok (.if_icmp .ne 7, 3) := by decide +kernel
theorem dX6_isMissing_17 : decode cX6_isMissing 17 = .ok (.iconst 1, 1) := by decide +kernel
theorem dX6_isMissing_18 : decode cX6_isMissing 18 = .ok (.goto 4, 3) := by decide +kernel
theorem dX6_isMissing_21 : decode cX6_isMissing 21 = .ok (.iconst 0, 1) := by decide +kernel
theorem dX6_isMissing_22 : decode cX6_isMissing 22 = .ok (.ireturn, 1) := by decide +kernel
theorem dX6_laneOf_0 : decode cX6_laneOf 0 = .ok (.iload_n 1, 1) := by decide +kernel
theorem dX6_laneOf_1 : decode cX6_laneOf 1 = .ok (.invokestatic 33, 3) := by decide +kernel
theorem dX6_laneOf_4 : decode cX6_laneOf 4 = .ok (.ifCond .eq 12, 3) := by decide +kernel
theorem dX6_laneOf_7 : decode cX6_laneOf 7 = .ok (.aload_n 0, 1) := by decide +kernel
theorem dX6_laneOf_8 : decode cX6_laneOf 8 = .ok (.getfield 16, 3) := by decide +kernel
theorem dX6_laneOf_11 : decode cX6_laneOf 11 = .ok (.iload_n 1, 1) := by decide +kernel
theorem dX6_laneOf_12 : decode cX6_laneOf 12 = .ok (.iaload, 1) := by decide +kernel
theorem dX6_laneOf_13 : decode cX6_laneOf 13 = .ok (.goto 4, 3) := by decide +kernel
theorem dX6_laneOf_16 : decode cX6_laneOf 16 = .ok (.iconst (-1), 1) := by decide +kernel
theorem dX6_laneOf_17 : decode cX6_laneOf 17 = .ok (.ireturn, 1) := by decide +kernel
theorem dX6_findingAt_0 : decode cX6_findingAt 0 = .ok (.aload_n 0, 1) := by decide +kernel
theorem dX6_findingAt_1 : decode cX6_findingAt 1 = .ok (.iload_n 1, 1) := by decide +kernel
theorem dX6_findingAt_2 : decode cX6_findingAt 2 = .ok (.invokevirtual 37, 3) := by decide +kernel
theorem dX6_findingAt_5 : decode cX6_findingAt 5 = .ok (.ifCond .eq 5, 3) := by decide +kernel
theorem dX6_findingAt_8 : decode cX6_findingAt 8 = .ok (.iconst 1, 1) := by decide +kernel
theorem dX6_findingAt_9 : decode cX6_findingAt 9 = .ok (.ireturn, 1) := by decide +kernel
theorem dX6_findingAt_10 : decode cX6_findingAt 10 = .ok (.aload_n 0, 1) := by decide +kernel
theorem dX6_findingAt_11 : decode cX6_findingAt 11 = .ok (.getfield 20, 3) := by decide +kernel
theorem dX6_findingAt_14 : decode cX6_findingAt 14 = .ok (.iload_n 1, 1) := by decide +kernel
theorem dX6_findingAt_15 : decode cX6_findingAt 15 = .ok (.iaload, 1) := by decide +kernel
theorem dX6_findingAt_16 : decode cX6_findingAt 16 = .ok (.bipush 40, 2) := by decide +kernel
theorem dX6_findingAt_18 : decode cX6_findingAt 18 = .ok (.invokestatic 40, 3) := by decide +kernel
theorem dX6_findingAt_21 : decode cX6_findingAt 21 = .ok (.istore 4, 2) := by decide +kernel
theorem dX6_findingAt_23 : decode cX6_findingAt 23 = .ok (.iload_n 2, 1) := by decide +kernel
theorem dX6_findingAt_24 : decode cX6_findingAt 24 = .ok (.ifCond .lt 21, 3) := by decide +kernel
theorem dX6_findingAt_27 : decode cX6_findingAt 27 = .ok (.iload_n 3, 1) := by decide +kernel
theorem dX6_findingAt_28 : decode cX6_findingAt 28 = .ok (.ifCond .lt 17, 3) := by decide +kernel
theorem dX6_findingAt_31 : decode cX6_findingAt 31 = .ok (.iload_n 2, 1) := by decide +kernel
theorem dX6_findingAt_32 : decode cX6_findingAt 32 = .ok (.iload 4, 2) := by decide +kernel
theorem dX6_findingAt_34 : decode cX6_findingAt 34 = .ok (.if_icmp .gt 11, 3) := by decide +kernel
theorem dX6_findingAt_37 : decode cX6_findingAt 37 = .ok (.iload_n 3, 1) := by decide +kernel
theorem dX6_findingAt_38 : decode cX6_findingAt 38 = .ok (.iload 4, 2) := by decide +kernel
theorem dX6_findingAt_40 : decode cX6_findingAt 40 = .ok (.iload_n 2, 1) := by decide +kernel
theorem dX6_findingAt_41 : decode cX6_findingAt 41 = .ok (.isub, 1) := by decide +kernel
theorem dX6_findingAt_42 : decode cX6_findingAt 42 = .ok (.if_icmp .le 7, 3) := by decide +kernel
theorem dX6_findingAt_45 : decode cX6_findingAt 45 = .ok (.iconst 2, 1) := by decide +kernel
theorem dX6_findingAt_46 : decode cX6_findingAt 46 = .ok (.goto 4, 3) := by decide +kernel
theorem dX6_findingAt_49 : decode cX6_findingAt 49 = .ok (.iconst 0, 1) := by decide +kernel
theorem dX6_findingAt_50 : decode cX6_findingAt 50 = .ok (.ireturn, 1) := by decide +kernel
theorem dX6_lay_0 : decode cX6_lay 0 = .ok (.iload_n 1, 1) := by decide +kernel
theorem dX6_lay_1 : decode cX6_lay 1 = .ok (.invokestatic 33, 3) := by decide +kernel
theorem dX6_lay_4 : decode cX6_lay 4 = .ok (.ifCond .eq 13, 3) := by decide +kernel
theorem dX6_lay_7 : decode cX6_lay 7 = .ok (.iload_n 3, 1) := by decide +kernel
theorem dX6_lay_8 : decode cX6_lay 8 = .ok (.iconst 0, 1) := by decide +kernel
theorem dX6_lay_9 : decode cX6_lay 9 = .ok (.bipush 40, 2) := by decide +kernel
theorem dX6_lay_11 : decode cX6_lay 11 = .ok (.invokestatic 29, 3) := by decide +kernel
theorem dX6_lay_14 : decode cX6_lay 14 = .ok (.ifCond .ne 4, 3) := by decide +kernel
theorem dX6_lay_17 : decode cX6_lay 17 = .ok (.return_, 1) := by decide +kernel
theorem dX6_lay_18 : decode cX6_lay 18 = .ok (.aload_n 0, 1) := by decide +kernel
theorem dX6_lay_19 : decode cX6_lay 19 = .ok (.getfield 11, 3) := by decide +kernel
theorem dX6_lay_22 : decode cX6_lay 22 = .ok (.iload_n 1, 1) := by decide +kernel
theorem dX6_lay_23 : decode cX6_lay 23 = .ok (.aaload, 1) := by decide +kernel
theorem dX6_lay_24 : decode cX6_lay 24 = .ok (.iconst 0, 1) := by decide +kernel
theorem dX6_lay_25 : decode cX6_lay 25 = .ok (.invokestatic 23, 3) := by decide +kernel
theorem dX6_lay_28 : decode cX6_lay 28 = .ok (.aload_n 0, 1) := by decide +kernel
theorem dX6_lay_29 : decode cX6_lay 29 = .ok (.getfield 16, 3) := by decide +kernel
theorem dX6_lay_32 : decode cX6_lay 32 = .ok (.iload_n 1, 1) := by decide +kernel
theorem dX6_lay_33 : decode cX6_lay 33 = .ok (.iload_n 2, 1) := by decide +kernel
theorem dX6_lay_34 : decode cX6_lay 34 = .ok (.iastore, 1) := by decide +kernel
theorem dX6_lay_35 : decode cX6_lay 35 = .ok (.aload_n 0, 1) := by decide +kernel
theorem dX6_lay_36 : decode cX6_lay 36 = .ok (.getfield 20, 3) := by decide +kernel
theorem dX6_lay_39 : decode cX6_lay 39 = .ok (.iload_n 1, 1) := by decide +kernel
theorem dX6_lay_40 : decode cX6_lay 40 = .ok (.iload_n 3, 1) := by decide +kernel
theorem dX6_lay_41 : decode cX6_lay 41 = .ok (.iastore, 1) := by decide +kernel
theorem dX6_lay_42 : decode cX6_lay 42 = .ok (.return_, 1) := by decide +kernel
theorem dX6_itemAt_0 : decode cX6_itemAt 0 = .ok (.aload_n 0, 1) := by decide +kernel
theorem dX6_itemAt_1 : decode cX6_itemAt 1 = .ok (.iload_n 1, 1) := by decide +kernel
theorem dX6_itemAt_2 : decode cX6_itemAt 2 = .ok (.iload_n 2, 1) := by decide +kernel
theorem dX6_itemAt_3 : decode cX6_itemAt 3 = .ok (.iconst 1, 1) := by decide +kernel
theorem dX6_itemAt_4 : decode cX6_itemAt 4 = .ok (.invokevirtual 46, 3) := by decide +kernel
theorem dX6_itemAt_7 : decode cX6_itemAt 7 = .ok (.ifCond .ne 14, 3) := by decide +kernel
theorem dX6_itemAt_10 : decode cX6_itemAt 10 = .ok (.aload_n 0, 1) := by decide +kernel
theorem dX6_itemAt_11 : decode cX6_itemAt 11 = .ok (.getfield 11, 3) := by decide +kernel
theorem dX6_itemAt_14 : decode cX6_itemAt 14 = .ok (.iload_n 1, 1) := by decide +kernel
theorem dX6_itemAt_15 : decode cX6_itemAt 15 = .ok (.aaload, 1) := by decide +kernel
theorem dX6_itemAt_16 : decode cX6_itemAt 16 = .ok (.iload_n 2, 1) := by decide +kernel
theorem dX6_itemAt_17 : decode cX6_itemAt 17 = .ok (.iaload, 1) := by decide +kernel
theorem dX6_itemAt_18 : decode cX6_itemAt 18 = .ok (.goto 4, 3) := by decide +kernel
theorem dX6_itemAt_21 : decode cX6_itemAt 21 = .ok (.iconst 0, 1) := by decide +kernel
theorem dX6_itemAt_22 : decode cX6_itemAt 22 = .ok (.ireturn, 1) := by decide +kernel
theorem dX6_put_0 : decode cX6_put 0 = .ok (.aload_n 0, 1) := by decide +kernel
theorem dX6_put_1 : decode cX6_put 1 = .ok (.iload_n 1, 1) := by decide +kernel
theorem dX6_put_2 : decode cX6_put 2 = .ok (.iload_n 2, 1) := by decide +kernel
theorem dX6_put_3 : decode cX6_put 3 = .ok (.iconst 1, 1) := by decide +kernel
theorem dX6_put_4 : decode cX6_put 4 = .ok (.invokevirtual 46, 3) := by decide +kernel
theorem dX6_put_7 : decode cX6_put 7 = .ok (.ifCond .eq 5, 3) := by decide +kernel
theorem dX6_put_10 : decode cX6_put 10 = .ok (.iconst 0, 1) := by decide +kernel
theorem dX6_put_11 : decode cX6_put 11 = .ok (.ireturn, 1) := by decide +kernel
theorem dX6_put_12 : decode cX6_put 12 = .ok (.aload_n 0, 1) := by decide +kernel
theorem dX6_put_13 : decode cX6_put 13 = .ok (.getfield 16, 3) := by decide +kernel
theorem dX6_put_16 : decode cX6_put 16 = .ok (.iload_n 1, 1) := by decide +kernel
theorem dX6_put_17 : decode cX6_put 17 = .ok (.iaload, 1) := by decide +kernel
theorem dX6_put_18 : decode cX6_put 18 = .ok (.ifCond .ne 8, 3) := by decide +kernel
theorem dX6_put_21 : decode cX6_put 21 = .ok (.iload_n 3, 1) := by decide +kernel
theorem dX6_put_22 : decode cX6_put 22 = .ok (.i2b, 1) := by decide +kernel
theorem dX6_put_23 : decode cX6_put 23 = .ok (.goto 19, 3) := by decide +kernel
theorem dX6_put_26 : decode cX6_put 26 = .ok (.aload_n 0, 1) := by decide +kernel
theorem dX6_put_27 : decode cX6_put 27 = .ok (.getfield 16, 3) := by decide +kernel
theorem dX6_put_30 : decode cX6_put 30 = .ok (.iload_n 1, 1) := by decide +kernel
theorem dX6_put_31 : decode cX6_put 31 = .ok (.iaload, 1) := by decide +kernel
theorem dX6_put_32 : decode cX6_put 32 = .ok (.iconst 1, 1) := by decide +kernel
theorem dX6_put_33 : decode cX6_put 33 = .ok (.if_icmp .ne 8, 3) := by decide +kernel
theorem dX6_put_36 : decode cX6_put 36 = .ok (.iload_n 3, 1) := by decide +kernel
theorem dX6_put_37 : decode cX6_put 37 = .ok (.i2s, 1) := by decide +kernel
theorem dX6_put_38 : decode cX6_put 38 = .ok (.goto 4, 3) := by decide +kernel
theorem dX6_put_41 : decode cX6_put 41 = .ok (.iload_n 3, 1) := by decide +kernel
theorem dX6_put_42 : decode cX6_put 42 = .ok (.istore 4, 2) := by decide +kernel
theorem dX6_put_44 : decode cX6_put 44 = .ok (.aload_n 0, 1) := by decide +kernel
theorem dX6_put_45 : decode cX6_put 45 = .ok (.getfield 11, 3) := by decide +kernel
theorem dX6_put_48 : decode cX6_put 48 = .ok (.iload_n 1, 1) := by decide +kernel
theorem dX6_put_49 : decode cX6_put 49 = .ok (.aaload, 1) := by decide +kernel
theorem dX6_put_50 : decode cX6_put 50 = .ok (.iload_n 2, 1) := by decide +kernel
theorem dX6_put_51 : decode cX6_put 51 = .ok (.iload 4, 2) := by decide +kernel
theorem dX6_put_53 : decode cX6_put 53 = .ok (.iastore, 1) := by decide +kernel
theorem dX6_put_54 : decode cX6_put 54 = .ok (.iload 4, 2) := by decide +kernel
theorem dX6_put_56 : decode cX6_put 56 = .ok (.ireturn, 1) := by decide +kernel
theorem dX6_move_0 : decode cX6_move 0 = .ok (.aload_n 0, 1) := by decide +kernel
theorem dX6_move_1 : decode cX6_move 1 = .ok (.iload_n 1, 1) := by decide +kernel
theorem dX6_move_2 : decode cX6_move 2 = .ok (.iload_n 2, 1) := by decide +kernel
theorem dX6_move_3 : decode cX6_move 3 = .ok (.iload 5, 2) := by decide +kernel
theorem dX6_move_5 : decode cX6_move 5 = .ok (.invokevirtual 46, 3) := by decide +kernel
theorem dX6_move_8 : decode cX6_move 8 = .ok (.ifCond .ne 35, 3) := by decide +kernel
theorem dX6_move_11 : decode cX6_move 11 = .ok (.aload_n 0, 1) := by decide +kernel
theorem dX6_move_12 : decode cX6_move 12 = .ok (.iload_n 3, 1) := by decide +kernel
theorem dX6_move_13 : decode cX6_move 13 = .ok (.iload 4, 2) := by decide +kernel
theorem dX6_move_15 : decode cX6_move 15 = .ok (.iload 5, 2) := by decide +kernel
theorem dX6_move_17 : decode cX6_move 17 = .ok (.invokevirtual 46, 3) := by decide +kernel
theorem dX6_move_20 : decode cX6_move 20 = .ok (.ifCond .ne 23, 3) := by decide +kernel
theorem dX6_move_23 : decode cX6_move 23 = .ok (.aload_n 0, 1) := by decide +kernel
theorem dX6_move_24 : decode cX6_move 24 = .ok (.getfield 11, 3) := by decide +kernel
theorem dX6_move_27 : decode cX6_move 27 = .ok (.iload_n 1, 1) := by decide +kernel
theorem dX6_move_28 : decode cX6_move 28 = .ok (.aaload, 1) := by decide +kernel
theorem dX6_move_29 : decode cX6_move 29 = .ok (.iload_n 2, 1) := by decide +kernel
theorem dX6_move_30 : decode cX6_move 30 = .ok (.aload_n 0, 1) := by decide +kernel
theorem dX6_move_31 : decode cX6_move 31 = .ok (.getfield 11, 3) := by decide +kernel
theorem dX6_move_34 : decode cX6_move 34 = .ok (.iload_n 3, 1) := by decide +kernel
theorem dX6_move_35 : decode cX6_move 35 = .ok (.aaload, 1) := by decide +kernel
theorem dX6_move_36 : decode cX6_move 36 = .ok (.iload 4, 2) := by decide +kernel
theorem dX6_move_38 : decode cX6_move 38 = .ok (.iload 5, 2) := by decide +kernel
theorem dX6_move_40 : decode cX6_move 40 = .ok (.invokestatic 50, 3) := by decide +kernel
theorem dX6_move_43 : decode cX6_move 43 = .ok (.return_, 1) := by decide +kernel
theorem dX6_lose_0 : decode cX6_lose 0 = .ok (.aload_n 0, 1) := by decide +kernel
theorem dX6_lose_1 : decode cX6_lose 1 = .ok (.iload_n 1, 1) := by decide +kernel
theorem dX6_lose_2 : decode cX6_lose 2 = .ok (.invokevirtual 37, 3) := by decide +kernel
theorem dX6_lose_5 : decode cX6_lose 5 = .ok (.ifCond .eq 5, 3) := by decide +kernel
theorem dX6_lose_8 : decode cX6_lose 8 = .ok (.iconst 0, 1) := by decide +kernel
theorem dX6_lose_9 : decode cX6_lose 9 = .ok (.ireturn, 1) := by decide +kernel
theorem dX6_lose_10 : decode cX6_lose 10 = .ok (.aload_n 0, 1) := by decide +kernel
theorem dX6_lose_11 : decode cX6_lose 11 = .ok (.getfield 20, 3) := by decide +kernel
theorem dX6_lose_14 : decode cX6_lose 14 = .ok (.iload_n 1, 1) := by decide +kernel
theorem dX6_lose_15 : decode cX6_lose 15 = .ok (.iaload, 1) := by decide +kernel
theorem dX6_lose_16 : decode cX6_lose 16 = .ok (.istore_n 2, 1) := by decide +kernel
theorem dX6_lose_17 : decode cX6_lose 17 = .ok (.aload_n 0, 1) := by decide +kernel
theorem dX6_lose_18 : decode cX6_lose 18 = .ok (.getfield 20, 3) := by decide +kernel
theorem dX6_lose_21 : decode cX6_lose 21 = .ok (.iload_n 1, 1) := by decide +kernel
theorem dX6_lose_22 : decode cX6_lose 22 = .ok (.iconst (-1), 1) := by decide +kernel
theorem dX6_lose_23 : decode cX6_lose 23 = .ok (.iastore, 1) := by decide +kernel
theorem dX6_lose_24 : decode cX6_lose 24 = .ok (.iload_n 2, 1) := by decide +kernel
theorem dX6_lose_25 : decode cX6_lose 25 = .ok (.ireturn, 1) := by decide +kernel
theorem dX6_present_0 : decode cX6_present 0 = .ok (.iconst 0, 1) := by decide +kernel
theorem dX6_present_1 : decode cX6_present 1 = .ok (.istore_n 1, 1) := by decide +kernel
theorem dX6_present_2 : decode cX6_present 2 = .ok (.iconst 0, 1) := by decide +kernel
theorem dX6_present_3 : decode cX6_present 3 = .ok (.istore_n 2, 1) := by decide +kernel
theorem dX6_present_4 : decode cX6_present 4 = .ok (.iload_n 2, 1) := by decide +kernel
theorem dX6_present_5 : decode cX6_present 5 = .ok (.bipush 8, 2) := by decide +kernel
theorem dX6_present_7 : decode cX6_present 7 = .ok (.if_icmp .ge 20, 3) := by decide +kernel
theorem dX6_present_10 : decode cX6_present 10 = .ok (.aload_n 0, 1) := by decide +kernel
theorem dX6_present_11 : decode cX6_present 11 = .ok (.iload_n 2, 1) := by decide +kernel
theorem dX6_present_12 : decode cX6_present 12 = .ok (.invokevirtual 37, 3) := by decide +kernel
theorem dX6_present_15 : decode cX6_present 15 = .ok (.ifCond .ne 6, 3) := by decide +kernel
theorem dX6_present_18 : decode cX6_present 18 = .ok (.iinc 1 1, 3) := by decide +kernel
theorem dX6_present_21 : decode cX6_present 21 = .ok (.iinc 2 1, 3) := by decide +kernel
theorem dX6_present_24 : decode cX6_present 24 = .ok (.goto (-20), 3) := by decide +kernel
theorem dX6_present_27 : decode cX6_present 27 = .ok (.iload_n 1, 1) := by decide +kernel
theorem dX6_present_28 : decode cX6_present 28 = .ok (.ireturn, 1) := by decide +kernel
theorem dX7_init_0 : decode cX7_init 0 = .ok (.aload_n 0, 1) := by decide +kernel
theorem dX7_init_1 : decode cX7_init 1 = .ok (.iload_n 1, 1) := by decide +kernel
theorem dX7_init_2 : decode cX7_init 2 = .ok (.iload_n 2, 1) := by decide +kernel
theorem dX7_init_3 : decode cX7_init 3 = .ok (.invokespecial 1, 3) := by decide +kernel
theorem dX7_init_6 : decode cX7_init 6 = .ok (.return_, 1) := by decide +kernel
theorem dX7_ownKind_0 : decode cX7_ownKind 0 = .ok (.iconst 2, 1) := by decide +kernel
theorem dX7_ownKind_1 : decode cX7_ownKind 1 = .ok (.ireturn, 1) := by decide +kernel
theorem dX7_howFar_0 : decode cX7_howFar 0 = .ok (.aload_n 0, 1) := by decide +kernel
theorem dX7_howFar_1 : decode cX7_howFar 1 = .ok (.getfield 7, 3) := by decide +kernel
theorem dX7_howFar_4 : decode cX7_howFar 4 = .ok (.ireturn, 1) := by decide +kernel
theorem dX7_size_0 : decode cX7_size 0 = .ok (.aload_n 1, 1) := by decide +kernel
theorem dX7_size_1 : decode cX7_size 1 = .ok (.bipush 12, 2) := by decide +kernel
theorem dX7_size_3 : decode cX7_size 3 = .ok (.invokevirtual 13, 3) := by decide +kernel
theorem dX7_size_6 : decode cX7_size 6 = .ok (.aload_n 0, 1) := by decide +kernel
theorem dX7_size_7 : decode cX7_size 7 = .ok (.aload_n 1, 1) := by decide +kernel
theorem dX7_size_8 : decode cX7_size 8 = .ok (.iload_n 2, 1) := by decide +kernel
theorem dX7_size_9 : decode cX7_size 9 = .ok (.iload_n 3, 1) := by decide +kernel
theorem dX7_size_10 : decode cX7_size 10 = .ok (.invokespecial 19, 3) := by decide +kernel
theorem dX7_size_13 : decode cX7_size 13 = .ok (.ineg, 1) := by decide +kernel
theorem dX7_size_14 : decode cX7_size 14 = .ok (.ireturn, 1) := by decide +kernel
theorem dX7_mark_0 : decode cX7_mark 0 = .ok (.aload_n 1, 1) := by decide +kernel
theorem dX7_mark_1 : decode cX7_mark 1 = .ok (.bipush 24, 2) := by decide +kernel
theorem dX7_mark_3 : decode cX7_mark 3 = .ok (.invokevirtual 13, 3) := by decide +kernel
theorem dX7_mark_6 : decode cX7_mark 6 = .ok (.iconst 2, 1) := by decide +kernel
theorem dX7_mark_7 : decode cX7_mark 7 = .ok (.aload_n 0, 1) := by decide +kernel
theorem dX7_mark_8 : decode cX7_mark 8 = .ok (.aload_n 1, 1) := by decide +kernel
theorem dX7_mark_9 : decode cX7_mark 9 = .ok (.iload_n 2, 1) := by decide +kernel
theorem dX7_mark_10 : decode cX7_mark 10 = .ok (.iload_n 3, 1) := by decide +kernel
theorem dX7_mark_11 : decode cX7_mark 11 = .ok (.invokespecial 23, 3) := by decide +kernel
theorem dX7_mark_14 : decode cX7_mark 14 = .ok (.imul, 1) := by decide +kernel
theorem dX7_mark_15 : decode cX7_mark 15 = .ok (.ireturn, 1) := by decide +kernel
theorem dX8_init_0 : decode cX8_init 0 = .ok (.aload_n 0, 1) := by decide +kernel
theorem dX8_init_1 : decode cX8_init 1 = .ok (.invokespecial 3, 3) := by decide +kernel
theorem dX8_init_4 : decode cX8_init 4 = .ok (.aload_n 0, 1) := by decide +kernel
theorem dX8_init_5 : decode cX8_init 5 = .ok (.bipush 80, 2) := by decide +kernel
theorem dX8_init_7 : decode cX8_init 7 = .ok (.newarray .int, 2) := by decide +kernel
theorem dX8_init_9 : decode cX8_init 9 = .ok (.putfield 9, 3) := by decide +kernel
theorem dX8_init_12 : decode cX8_init 12 = .ok (.aload_n 0, 1) := by decide +kernel
theorem dX8_init_13 : decode cX8_init 13 = .ok (.new 15, 3) := by decide +kernel
theorem dX8_init_16 : decode cX8_init 16 = .ok (.dup, 1) := by decide +kernel
theorem dX8_init_17 : decode cX8_init 17 = .ok (.invokespecial 17, 3) := by decide +kernel
theorem dX8_init_20 : decode cX8_init 20 = .ok (.putfield 18, 3) := by decide +kernel
theorem dX8_init_23 : decode cX8_init 23 = .ok (.return_, 1) := by decide +kernel
theorem dX8_take_0 : decode cX8_take 0 = .ok (.aload_n 0, 1) := by decide +kernel
theorem dX8_take_1 : decode cX8_take 1 = .ok (.getfield 22, 3) := by decide +kernel
theorem dX8_take_4 : decode cX8_take 4 = .ok (.ifCond .lt 12, 3) := by decide +kernel
theorem dX8_take_7 : decode cX8_take 7 = .ok (.aload_n 0, 1) := by decide +kernel
theorem dX8_take_8 : decode cX8_take 8 = .ok (.getfield 22, 3) := by decide +kernel
theorem dX8_take_11 : decode cX8_take 11 = .ok (.bipush 80, 2) := by decide +kernel
theorem dX8_take_13 : decode cX8_take 13 = .ok (.if_icmp .lt 5, 3) := by decide +kernel
theorem dX8_take_16 : decode cX8_take 16 = .ok (.iconst 0, 1) := by decide +kernel
theorem dX8_take_17 : decode cX8_take 17 = .ok (.ireturn, 1) := by decide +kernel
theorem dX8_take_18 : decode cX8_take 18 = .ok (.aload_n 0, 1) := by decide +kernel
theorem dX8_take_19 : decode cX8_take 19 = .ok (.getfield 9, 3) := by decide +kernel
theorem dX8_take_22 : decode cX8_take 22 = .ok (.aload_n 0, 1) := by decide +kernel
theorem dX8_take_23 : decode cX8_take 23 = .ok (.getfield 22, 3) := by decide +kernel
theorem dX8_take_26 : decode cX8_take 26 = .ok (.iload_n 1, 1) := by decide +kernel
theorem dX8_take_27 : decode cX8_take 27 = .ok (.iastore, 1) := by decide +kernel
theorem dX8_take_28 : decode cX8_take 28 = .ok (.aload_n 0, 1) := by decide +kernel
theorem dX8_take_29 : decode cX8_take 29 = .ok (.dup, 1) := by decide +kernel
theorem dX8_take_30 : decode cX8_take 30 = .ok (.getfield 22, 3) := by decide +kernel
theorem dX8_take_33 : decode cX8_take 33 = .ok (.iconst 1, 1) := by decide +kernel
theorem dX8_take_34 : decode cX8_take 34 = .ok (.iadd, 1) := by decide +kernel
theorem dX8_take_35 : decode cX8_take 35 = .ok (.putfield 22, 3) := by decide +kernel
theorem dX8_take_38 : decode cX8_take 38 = .ok (.iconst 1, 1) := by decide +kernel
theorem dX8_take_39 : decode cX8_take 39 = .ok (.ireturn, 1) := by decide +kernel
theorem dX8_read_0 : decode cX8_read 0 = .ok (.aload_n 0, 1) := by decide +kernel
theorem dX8_read_1 : decode cX8_read 1 = .ok (.iconst 0, 1) := by decide +kernel
theorem dX8_read_2 : decode cX8_read 2 = .ok (.putfield 26, 3) := by decide +kernel
theorem dX8_read_5 : decode cX8_read 5 = .ok (.aload_n 0, 1) := by decide +kernel
theorem dX8_read_6 : decode cX8_read 6 = .ok (.iconst 0, 1) := by decide +kernel
theorem dX8_read_7 : decode cX8_read 7 = .ok (.putfield 29, 3) := by decide +kernel
theorem dX8_read_10 : decode cX8_read 10 = .ok (.aload_n 0, 1) := by decide +kernel
theorem dX8_read_11 : decode cX8_read 11 = .ok (.getfield 18, 3) := by decide +kernel
theorem dX8_read_14 : decode cX8_read 14 = .ok (.iconst 0, 1) := by decide +kernel
theorem dX8_read_15 : decode cX8_read 15 = .ok (.putfield 32, 3) := by decide +kernel
theorem dX8_read_18 : decode cX8_read 18 = .ok (.aload_n 0, 1) := by decide +kernel
theorem dX8_read_19 : decode cX8_read 19 = .ok (.getfield 18, 3) := by decide +kernel
theorem dX8_read_22 : decode cX8_read 22 = .ok (.aload_n 0, 1) := by decide +kernel
theorem dX8_read_23 : decode cX8_read 23 = .ok (.bipush 110, 2) := by decide +kernel
theorem dX8_read_25 : decode cX8_read 25 = .ok (.aload_n 0, 1) := by decide +kernel
theorem dX8_read_26 : decode cX8_read 26 = .ok (.getfield 18, 3) := by decide +kernel
theorem dX8_read_29 : decode cX8_read 29 = .ok (.getfield 35, 3) := by decide +kernel
theorem dX8_read_32 : decode cX8_read 32 = .ok (.invokevirtual 38, 3) := by decide +kernel
theorem dX8_read_35 : decode cX8_read 35 = .ok (.putfield 42, 3) := by decide +kernel
theorem dX8_read_38 : decode cX8_read 38 = .ok (.aload_n 0, 1) := by decide +kernel
theorem dX8_read_39 : decode cX8_read 39 = .ok (.getfield 18, 3) := by decide +kernel
theorem dX8_read_42 : decode cX8_read 42 = .ok (.aload_n 0, 1) := by decide +kernel
theorem dX8_read_43 : decode cX8_read 43 = .ok (.getfield 29, 3) := by decide +kernel
theorem dX8_read_46 : decode cX8_read 46 = .ok (.ifCond .ne 19, 3) := by decide +kernel
theorem dX8_read_49 : decode cX8_read 49 = .ok (.aload_n 0, 1) := by decide +kernel
theorem dX8_read_50 : decode cX8_read 50 = .ok (.bipush 106, 2) := by decide +kernel
theorem dX8_read_52 : decode cX8_read 52 = .ok (.aload_n 0, 1) := by decide +kernel
theorem dX8_read_53 : decode cX8_read 53 = .ok (.getfield 18, 3) := by decide +kernel
theorem dX8_read_56 : decode cX8_read 56 = .ok (.getfield 45, 3) := by decide +kernel
theorem dX8_read_59 : decode cX8_read 59 = .ok (.invokevirtual 38, 3) := by decide +kernel
theorem dX8_read_62 : decode cX8_read 62 = .ok (.goto 4, 3) := by decide +kernel
theorem dX8_read_65 : decode cX8_read 65 = .ok (.iconst 0, 1) := by decide +kernel
theorem dX8_read_66 : decode cX8_read 66 = .ok (.putfield 48, 3) := by decide +kernel
theorem dX8_read_69 : decode cX8_read 69 = .ok (.iconst 0, 1) := by decide +kernel
theorem dX8_read_70 : decode cX8_read 70 = .ok (.istore_n 1, 1) := by decide +kernel
theorem dX8_read_71 : decode cX8_read 71 = .ok (.iload_n 1, 1) := by decide +kernel
theorem dX8_read_72 : decode cX8_read 72 = .ok (.iconst 4, 1) := by decide +kernel
theorem dX8_read_73 : decode cX8_read 73 = .ok (.if_icmp .gt 36, 3) := by decide +kernel
theorem dX8_read_76 : decode cX8_read 76 = .ok (.aload_n 0, 1) := by decide +kernel
theorem dX8_read_77 : decode cX8_read 77 = .ok (.getfield 29, 3) := by decide +kernel
theorem dX8_read_80 : decode cX8_read 80 = .ok (.ifCond .ne 29, 3) := by decide +kernel
theorem dX8_read_83 : decode cX8_read 83 = .ok (.iload_n 1, 1) := by decide +kernel
theorem dX8_read_84 : decode cX8_read 84 = .ok (.ifCond .eq 14, 3) := by decide +kernel
theorem dX8_read_87 : decode cX8_read 87 = .ok (.aload_n 0, 1) := by decide +kernel
theorem dX8_read_88 : decode cX8_read 88 = .ok (.getfield 26, 3) := by decide +kernel
theorem dX8_read_91 : decode cX8_read 91 = .ok (.aload_n 0, 1) := by decide +kernel
theorem dX8_read_92 : decode cX8_read 92 = .ok (.getfield 22, 3) := by decide +kernel
theorem dX8_read_95 : decode cX8_read 95 = .ok (.if_icmp .ge 14, 3) := by decide +kernel
theorem dX8_read_98 : decode cX8_read 98 = .ok (.aload_n 0, 1) := by decide +kernel
theorem dX8_read_99 : decode cX8_read 99 = .ok (.iload_n 1, 1) := by decide +kernel
theorem dX8_read_100 : decode cX8_read 100 = .ok (.invokevirtual 51, 3) := by decide +kernel
theorem dX8_read_103 : decode cX8_read 103 = .ok (.iinc 1 1, 3) := by decide +kernel
theorem dX8_read_106 : decode cX8_read 106 = .ok (.goto (-35), 3) := by decide +kernel
theorem dX8_read_109 : decode cX8_read 109 = .ok (.aload_n 0, 1) := by decide +kernel
theorem dX8_read_110 : decode cX8_read 110 = .ok (.getfield 29, 3) := by decide +kernel
theorem dX8_read_113 : decode cX8_read 113 = .ok (.ifCond .ne 7, 3) := by decide +kernel
theorem dX8_read_116 : decode cX8_read 116 = .ok (.iconst 1, 1) := by decide +kernel
theorem dX8_read_117 : decode cX8_read 117 = .ok (.goto 4, 3) := by decide +kernel
theorem dX8_read_120 : decode cX8_read 120 = .ok (.iconst 0, 1) := by decide +kernel
theorem dX8_read_121 : decode cX8_read 121 = .ok (.ireturn, 1) := by decide +kernel
theorem dX8_readWheel_0 : decode cX8_readWheel 0 = .ok (.iconst 0, 1) := by decide +kernel
theorem dX8_readWheel_1 : decode cX8_readWheel 1 = .ok (.istore_n 3, 1) := by decide +kernel
theorem dX8_readWheel_2 : decode cX8_readWheel 2 = .ok (.aload_n 0, 1) := by decide +kernel
theorem dX8_readWheel_3 : decode cX8_readWheel 3 = .ok (.iload_n 1, 1) := by decide +kernel
theorem dX8_readWheel_4 : decode cX8_readWheel 4 = .ok (.invokevirtual 55, 3) := by decide +kernel
theorem dX8_readWheel_7 : decode cX8_readWheel 7 = .ok (.ifCond .eq 80, 3) := by decide +kernel
theorem dX8_readWheel_10 : decode cX8_readWheel 10 = .ok (.iload_n 3, 1) := by decide +kernel
theorem dX8_readWheel_11 : decode cX8_readWheel 11 = .ok (.bipush 8, 2) := by decide +kernel
theorem dX8_readWheel_13 : decode cX8_readWheel 13 = .ok (.if_icmp .ge 55, 3) := by decide +kernel
theorem dX8_readWheel_16 : decode cX8_readWheel 16 = .ok (.iload_n 3, 1) := by decide +kernel
theorem dX8_readWheel_17 : decode cX8_readWheel 17 = .ok (.aload_n 2, 1) := by decide +kernel
theorem dX8_readWheel_18 : decode cX8_readWheel 18 = .ok (.arraylength, 1) := by decide +kernel
theorem dX8_readWheel_19 : decode cX8_readWheel 19 = .ok (.if_icmp .ge 49, 3) := by decide +kernel
theorem dX8_readWheel_22 : decode cX8_readWheel 22 = .ok (.aload_n 0, 1) := by decide +kernel
theorem dX8_readWheel_23 : decode cX8_readWheel 23 = .ok (.aload_n 0, 1) := by decide +kernel
theorem dX8_readWheel_24 : decode cX8_readWheel 24 = .ok (.getfield 26, 3) := by decide +kernel
theorem dX8_readWheel_27 : decode cX8_readWheel 27 = .ok (.invokevirtual 59, 3) := by decide +kernel
theorem dX8_readWheel_30 : decode cX8_readWheel 30 = .ok (.invokestatic 63, 3) := by decide +kernel
theorem dX8_readWheel_33 : decode cX8_readWheel 33 = .ok (.ldc 66, 2) := by decide +kernel
theorem dX8_readWheel_35 : decode cX8_readWheel 35 = .ok (.if_icmp .eq 33, 3) := by decide +kernel
theorem dX8_readWheel_38 : decode cX8_readWheel 38 = .ok (.aload_n 2, 1) := by decide +kernel
theorem dX8_readWheel_39 : decode cX8_readWheel 39 = .ok (.iload_n 3, 1) := by decide +kernel
theorem dX8_readWheel_40 : decode cX8_readWheel 40 = .ok (.aload_n 0, 1) := by decide +kernel
theorem dX8_readWheel_41 : decode cX8_readWheel 41 = .ok (.aload_n 0, 1) := by decide +kernel
theorem dX8_readWheel_42 : decode cX8_readWheel 42 = .ok (.getfield 26, 3) := by decide +kernel
theorem dX8_readWheel_45 : decode cX8_readWheel 45 = .ok (.invokevirtual 59, 3) := by decide +kernel
theorem dX8_readWheel_48 : decode cX8_readWheel 48 = .ok (.invokestatic 63, 3) := by decide +kernel
theorem dX8_readWheel_51 : decode cX8_readWheel 51 = .ok (.iastore, 1) := by decide +kernel
theorem dX8_readWheel_52 : decode cX8_readWheel 52 = .ok (.iinc 3 1, 3) := by decide +kernel
theorem dX8_readWheel_55 : decode cX8_readWheel 55 = .ok (.aload_n 0, 1) := by decide +kernel
theorem dX8_readWheel_56 : decode cX8_readWheel 56 = .ok (.dup, 1) := by decide +kernel
theorem dX8_readWheel_57 : decode cX8_readWheel 57 = .ok (.getfield 26, 3) := by decide +kernel
theorem dX8_readWheel_60 : decode cX8_readWheel 60 = .ok (.iconst 1, 1) := by decide +kernel
theorem dX8_readWheel_61 : decode cX8_readWheel 61 = .ok (.iadd, 1) := by decide +kernel
theorem dX8_readWheel_62 : decode cX8_readWheel 62 = .ok (.putfield 26, 3) := by decide +kernel
theorem dX8_readWheel_65 : decode cX8_readWheel 65 = .ok (.goto (-55), 3) := by decide +kernel
theorem dX8_readWheel_68 : decode cX8_readWheel 68 = .ok (.iload_n 3, 1) := by decide +kernel
theorem dX8_readWheel_69 : decode cX8_readWheel 69 = .ok (.ifCond .ne 11, 3) := by decide +kernel
theorem dX8_readWheel_72 : decode cX8_readWheel 72 = .ok (.aload_n 0, 1) := by decide +kernel
theorem dX8_readWheel_73 : decode cX8_readWheel 73 = .ok (.iconst 1, 1) := by decide +kernel
theorem dX8_readWheel_74 : decode cX8_readWheel 74 = .ok (.putfield 29, 3) := by decide +kernel
theorem dX8_readWheel_77 : decode cX8_readWheel 77 = .ok (.goto 10, 3) := by decide +kernel
theorem dX8_readWheel_80 : decode cX8_readWheel 80 = .ok (.aload_n 0, 1) := by decide +kernel
theorem dX8_readWheel_81 : decode cX8_readWheel 81 = .ok (.bipush 59, 2) := by decide +kernel
theorem dX8_readWheel_83 : decode cX8_readWheel 83 = .ok (.invokevirtual 55, 3) := by decide +kernel
theorem dX8_readWheel_86 : decode cX8_readWheel 86 = .ok (.pop, 1) := by decide +kernel
theorem dX8_readWheel_87 : decode cX8_readWheel 87 = .ok (.aload_n 0, 1) := by decide +kernel
theorem dX8_readWheel_88 : decode cX8_readWheel 88 = .ok (.getfield 29, 3) := by decide +kernel
theorem dX8_readWheel_91 : decode cX8_readWheel 91 = .ok (.ifCond .ne 7, 3) := by decide +kernel
theorem dX8_readWheel_94 : decode cX8_readWheel 94 = .ok (.iload_n 3, 1) := by decide +kernel
theorem dX8_readWheel_95 : decode cX8_readWheel 95 = .ok (.goto 4, 3) := by decide +kernel
theorem dX8_readWheel_98 : decode cX8_readWheel 98 = .ok (.iconst 0, 1) := by decide +kernel
theorem dX8_readWheel_99 : decode cX8_readWheel 99 = .ok (.ireturn, 1) := by decide +kernel
theorem dX8_readTurner_0 : decode cX8_readTurner 0 = .ok (.aload_n 0, 1) := by decide +kernel
theorem dX8_readTurner_1 : decode cX8_readTurner 1 = .ok (.aload_n 0, 1) := by decide +kernel
theorem dX8_readTurner_2 : decode cX8_readTurner 2 = .ok (.getfield 26, 3) := by decide +kernel
theorem dX8_readTurner_5 : decode cX8_readTurner 5 = .ok (.invokevirtual 59, 3) := by decide +kernel
theorem dX8_readTurner_8 : decode cX8_readTurner 8 = .ok (.invokestatic 67, 3) := by decide +kernel
theorem dX8_readTurner_11 : decode cX8_readTurner 11 = .ok (.istore_n 2, 1) := by decide +kernel
theorem dX8_readTurner_12 : decode cX8_readTurner 12 = .ok (.iload_n 2, 1) := by decide +kernel
theorem dX8_readTurner_13 : decode cX8_readTurner 13 = .ok (.ifCond .ne 9, 3) := by decide +kernel
theorem dX8_readTurner_16 : decode cX8_readTurner 16 = .ok (.aload_n 0, 1) := by decide +kernel
theorem dX8_readTurner_17 : decode cX8_readTurner 17 = .ok (.iconst 1, 1) := by decide +kernel
theorem dX8_readTurner_18 : decode cX8_readTurner 18 = .ok (.putfield 29, 3) := by decide +kernel
theorem dX8_readTurner_21 : decode cX8_readTurner 21 = .ok (.return_, 1) := by decide +kernel
theorem dX8_readTurner_22 : decode cX8_readTurner 22 = .ok (.iload_n 1, 1) := by decide +kernel
theorem dX8_readTurner_23 : decode cX8_readTurner 23 = .ok (.ifCond .lt 8, 3) := by decide +kernel
theorem dX8_readTurner_26 : decode cX8_readTurner 26 = .ok (.iload_n 1, 1) := by decide +kernel
theorem dX8_readTurner_27 : decode cX8_readTurner 27 = .ok (.iconst 4, 1) := by decide +kernel
theorem dX8_readTurner_28 : decode cX8_readTurner 28 = .ok (.if_icmp .lt 9, 3) := by decide +kernel
theorem dX8_readTurner_31 : decode cX8_readTurner 31 = .ok (.aload_n 0, 1) := by decide +kernel
theorem dX8_readTurner_32 : decode cX8_readTurner 32 = .ok (.iconst 3, 1) := by decide +kernel
theorem dX8_readTurner_33 : decode cX8_readTurner 33 = .ok (.putfield 29, 3) := by decide +kernel
theorem dX8_readTurner_36 : decode cX8_readTurner 36 = .ok (.return_, 1) := by decide +kernel
theorem dX8_readTurner_37 : decode cX8_readTurner 37 = .ok (.aload_n 0, 1) := by decide +kernel
theorem dX8_readTurner_38 : decode cX8_readTurner 38 = .ok (.dup, 1) := by decide +kernel
theorem dX8_readTurner_39 : decode cX8_readTurner 39 = .ok (.getfield 26, 3) := by decide +kernel
theorem dX8_readTurner_42 : decode cX8_readTurner 42 = .ok (.iconst 1, 1) := by decide +kernel
theorem dX8_readTurner_43 : decode cX8_readTurner 43 = .ok (.iadd, 1) := by decide +kernel
theorem dX8_readTurner_44 : decode cX8_readTurner 44 = .ok (.putfield 26, 3) := by decide +kernel
theorem dX8_readTurner_47 : decode cX8_readTurner 47 = .ok (.aload_n 0, 1) := by decide +kernel
theorem dX8_readTurner_48 : decode cX8_readTurner 48 = .ok (.invokevirtual 70, 3) := by decide +kernel
theorem dX8_readTurner_51 : decode cX8_readTurner 51 = .ok (.istore_n 3, 1) := by decide +kernel
theorem dX8_readTurner_52 : decode cX8_readTurner 52 = .ok (.aload_n 0, 1) := by decide +kernel
theorem dX8_readTurner_53 : decode cX8_readTurner 53 = .ok (.getfield 29, 3) := by decide +kernel
theorem dX8_readTurner_56 : decode cX8_readTurner 56 = .ok (.ifCond .ne 37, 3) := by decide +kernel
theorem dX8_readTurner_59 : decode cX8_readTurner 59 = .ok (.aload_n 0, 1) := by decide +kernel
theorem dX8_readTurner_60 : decode cX8_readTurner 60 = .ok (.bipush 59, 2) := by decide +kernel
theorem dX8_readTurner_62 : decode cX8_readTurner 62 = .ok (.invokevirtual 55, 3) := by decide +kernel
theorem dX8_readTurner_65 : decode cX8_readTurner 65 = .ok (.ifCond .eq 28, 3) := by decide +kernel
theorem dX8_readTurner_68 : decode cX8_readTurner 68 = .ok (.aload_n 0, 1) := by decide +kernel
theorem dX8_readTurner_69 : decode cX8_readTurner 69 = .ok (.getfield 18, 3) := by decide +kernel
theorem dX8_readTurner_72 : decode cX8_readTurner 72 = .ok (.getfield 74, 3) := by decide +kernel
theorem dX8_readTurner_75 : decode cX8_readTurner 75 = .ok (.iload_n 1, 1) := by decide +kernel
theorem dX8_readTurner_76 : decode cX8_readTurner 76 = .ok (.iload_n 2, 1) := by decide +kernel
theorem dX8_readTurner_77 : decode cX8_readTurner 77 = .ok (.iload_n 1, 1) := by decide +kernel
theorem dX8_readTurner_78 : decode cX8_readTurner 78 = .ok (.iload_n 3, 1) := by decide +kernel
theorem dX8_readTurner_79 : decode cX8_readTurner 79 = .ok (.invokestatic 78, 3) := by decide +kernel
theorem dX8_readTurner_82 : decode cX8_readTurner 82 = .ok (.aastore, 1) := by decide +kernel
theorem dX8_readTurner_83 : decode cX8_readTurner 83 = .ok (.aload_n 0, 1) := by decide +kernel
theorem dX8_readTurner_84 : decode cX8_readTurner 84 = .ok (.getfield 18, 3) := by decide +kernel
theorem dX8_readTurner_87 : decode cX8_readTurner 87 = .ok (.iload_n 1, 1) := by decide +kernel
theorem dX8_readTurner_88 : decode cX8_readTurner 88 = .ok (.iconst 1, 1) := by decide +kernel
theorem dX8_readTurner_89 : decode cX8_readTurner 89 = .ok (.iadd, 1) := by decide +kernel
theorem dX8_readTurner_90 : decode cX8_readTurner 90 = .ok (.putfield 32, 3) := by decide +kernel
theorem dX8_readTurner_93 : decode cX8_readTurner 93 = .ok (.return_, 1) := by decide +kernel
theorem dX8_readBy_0 : decode cX8_readBy 0 = .ok (.iconst 0, 1) := by decide +kernel
theorem dX8_readBy_1 : decode cX8_readBy 1 = .ok (.istore_n 1, 1) := by decide +kernel
theorem dX8_readBy_2 : decode cX8_readBy 2 = .ok (.iconst 0, 1) := by decide +kernel
theorem dX8_readBy_3 : decode cX8_readBy 3 = .ok (.istore_n 2, 1) := by decide +kernel
theorem dX8_readBy_4 : decode cX8_readBy 4 = .ok (.iload_n 1, 1) := by decide +kernel
theorem dX8_readBy_5 : decode cX8_readBy 5 = .ok (.iconst 2, 1) := by decide +kernel
theorem dX8_readBy_6 : decode cX8_readBy 6 = .ok (.if_icmp .gt 48, 3) := by decide +kernel
theorem dX8_readBy_9 : decode cX8_readBy 9 = .ok (.aload_n 0, 1) := by decide +kernel
theorem dX8_readBy_10 : decode cX8_readBy 10 = .ok (.aload_n 0, 1) := by decide +kernel
theorem dX8_readBy_11 : decode cX8_readBy 11 = .ok (.getfield 26, 3) := by decide +kernel
theorem dX8_readBy_14 : decode cX8_readBy 14 = .ok (.iload_n 1, 1) := by decide +kernel
theorem dX8_readBy_15 : decode cX8_readBy 15 = .ok (.iadd, 1) := by decide +kernel
theorem dX8_readBy_16 : decode cX8_readBy 16 = .ok (.invokevirtual 59, 3) := by decide +kernel
theorem dX8_readBy_19 : decode cX8_readBy 19 = .ok (.bipush 48, 2) := by decide +kernel
theorem dX8_readBy_21 : decode cX8_readBy 21 = .ok (.bipush 57, 2) := by decide +kernel
theorem dX8_readBy_23 : decode cX8_readBy 23 = .ok (.invokestatic 84, 3) := by decide +kernel
theorem dX8_readBy_26 : decode cX8_readBy 26 = .ok (.ifCond .eq 28, 3) := by decide +kernel
theorem dX8_readBy_29 : decode cX8_readBy 29 = .ok (.iload_n 2, 1) := by decide +kernel
theorem dX8_readBy_30 : decode cX8_readBy 30 = .ok (.bipush 10, 2) := by decide +kernel
theorem dX8_readBy_32 : decode cX8_readBy 32 = .ok (.imul, 1) := by decide +kernel
theorem dX8_readBy_33 : decode cX8_readBy 33 = .ok (.aload_n 0, 1) := by decide +kernel
theorem dX8_readBy_34 : decode cX8_readBy 34 = .ok (.aload_n 0, 1) := by decide +kernel
theorem dX8_readBy_35 : decode cX8_readBy 35 = .ok (.getfield 26, 3) := by decide +kernel
theorem dX8_readBy_38 : decode cX8_readBy 38 = .ok (.iload_n 1, 1) := by decide +kernel
theorem dX8_readBy_39 : decode cX8_readBy 39 = .ok (.iadd, 1) := by decide +kernel
theorem dX8_readBy_40 : decode cX8_readBy 40 = .ok (.invokevirtual 59, 3) := by decide +kernel
theorem dX8_readBy_43 : decode cX8_readBy 43 = .ok (.iadd, 1) := by decide +kernel
theorem dX8_readBy_44 : decode cX8_readBy 44 = .ok (.bipush 48, 2) := by decide +kernel
theorem dX8_readBy_46 : decode cX8_readBy 46 = .ok (.isub, 1) := by decide +kernel
theorem dX8_readBy_47 : decode cX8_readBy 47 = .ok (.istore_n 2, 1) := by decide +kernel
theorem dX8_readBy_48 : decode cX8_readBy 48 = .ok (.iinc 1 1, 3) := by decide +kernel
theorem dX8_readBy_51 : decode cX8_readBy 51 = .ok (.goto (-47), 3) := by decide +kernel
theorem dX8_readBy_54 : decode cX8_readBy 54 = .ok (.iload_n 1, 1) := by decide +kernel
theorem dX8_readBy_55 : decode cX8_readBy 55 = .ok (.ifCond .eq 8, 3) := by decide +kernel
theorem dX8_readBy_58 : decode cX8_readBy 58 = .ok (.iload_n 1, 1) := by decide +kernel
theorem dX8_readBy_59 : decode cX8_readBy 59 = .ok (.iconst 2, 1) := by decide +kernel
theorem dX8_readBy_60 : decode cX8_readBy 60 = .ok (.if_icmp .le 11, 3) := by decide +kernel
theorem dX8_readBy_63 : decode cX8_readBy 63 = .ok (.aload_n 0, 1) := by decide +kernel
theorem dX8_readBy_64 : decode cX8_readBy 64 = .ok (.iconst 1, 1) := by decide +kernel
theorem dX8_readBy_65 : decode cX8_readBy 65 = .ok (.putfield 29, 3) := by decide +kernel
theorem dX8_readBy_68 : decode cX8_readBy 68 = .ok (.goto 27, 3) := by decide +kernel
theorem dX8_readBy_71 : decode cX8_readBy 71 = .ok (.iload_n 2, 1) := by decide +kernel
theorem dX8_readBy_72 : decode cX8_readBy 72 = .ok (.bipush 9, 2) := by decide +kernel
theorem dX8_readBy_74 : decode cX8_readBy 74 = .ok (.if_icmp .le 11, 3) := by decide +kernel
theorem dX8_readBy_77 : decode cX8_readBy 77 = .ok (.aload_n 0, 1) := by decide +kernel
theorem dX8_readBy_78 : decode cX8_readBy 78 = .ok (.iconst 2, 1) := by decide +kernel
theorem dX8_readBy_79 : decode cX8_readBy 79 = .ok (.putfield 29, 3) := by decide +kernel
theorem dX8_readBy_82 : decode cX8_readBy 82 = .ok (.goto 13, 3) := by decide +kernel
theorem dX8_readBy_85 : decode cX8_readBy 85 = .ok (.aload_n 0, 1) := by decide +kernel
theorem dX8_readBy_86 : decode cX8_readBy 86 = .ok (.dup, 1) := by decide +kernel
theorem dX8_readBy_87 : decode cX8_readBy 87 = .ok (.getfield 26, 3) := by decide +kernel
theorem dX8_readBy_90 : decode cX8_readBy 90 = .ok (.iload_n 1, 1) := by decide +kernel
theorem dX8_readBy_91 : decode cX8_readBy 91 = .ok (.iadd, 1) := by decide +kernel
theorem dX8_readBy_92 : decode cX8_readBy 92 = .ok (.putfield 26, 3) := by decide +kernel
theorem dX8_readBy_95 : decode cX8_readBy 95 = .ok (.iload_n 2, 1) := by decide +kernel
theorem dX8_readBy_96 : decode cX8_readBy 96 = .ok (.ireturn, 1) := by decide +kernel
theorem dX8_passes_0 : decode cX8_passes 0 = .ok (.aload_n 0, 1) := by decide +kernel
theorem dX8_passes_1 : decode cX8_passes 1 = .ok (.aload_n 0, 1) := by decide +kernel
theorem dX8_passes_2 : decode cX8_passes 2 = .ok (.getfield 26, 3) := by decide +kernel
theorem dX8_passes_5 : decode cX8_passes 5 = .ok (.invokevirtual 59, 3) := by decide +kernel
theorem dX8_passes_8 : decode cX8_passes 8 = .ok (.iload_n 1, 1) := by decide +kernel
theorem dX8_passes_9 : decode cX8_passes 9 = .ok (.if_icmp .eq 10, 3) := by decide +kernel
theorem dX8_passes_12 : decode cX8_passes 12 = .ok (.aload_n 0, 1) := by decide +kernel
theorem dX8_passes_13 : decode cX8_passes 13 = .ok (.iconst 1, 1) := by decide +kernel
theorem dX8_passes_14 : decode cX8_passes 14 = .ok (.putfield 29, 3) := by decide +kernel
theorem dX8_passes_17 : decode cX8_passes 17 = .ok (.iconst 0, 1) := by decide +kernel
theorem dX8_passes_18 : decode cX8_passes 18 = .ok (.ireturn, 1) := by decide +kernel
theorem dX8_passes_19 : decode cX8_passes 19 = .ok (.aload_n 0, 1) := by decide +kernel
theorem dX8_passes_20 : decode cX8_passes 20 = .ok (.dup, 1) := by decide +kernel
theorem dX8_passes_21 : decode cX8_passes 21 = .ok (.getfield 26, 3) := by decide +kernel
theorem dX8_passes_24 : decode cX8_passes 24 = .ok (.iconst 1, 1) := by decide +kernel
theorem dX8_passes_25 : decode cX8_passes 25 = .ok (.iadd, 1) := by decide +kernel
theorem dX8_passes_26 : decode cX8_passes 26 = .ok (.putfield 26, 3) := by decide +kernel
theorem dX8_passes_29 : decode cX8_passes 29 = .ok (.iconst 1, 1) := by decide +kernel
theorem dX8_passes_30 : decode cX8_passes 30 = .ok (.ireturn, 1) := by decide +kernel
theorem dX8_byteAt_0 : decode cX8_byteAt 0 = .ok (.iload_n 1, 1) := by decide +kernel
theorem dX8_byteAt_1 : decode cX8_byteAt 1 = .ok (.ifCond .lt 26, 3) := by decide +kernel
theorem dX8_byteAt_4 : decode cX8_byteAt 4 = .ok (.iload_n 1, 1) := by decide +kernel
theorem dX8_byteAt_5 : decode cX8_byteAt 5 = .ok (.aload_n 0, 1) := by decide +kernel
theorem dX8_byteAt_6 : decode cX8_byteAt 6 = .ok (.getfield 22, 3) := by decide +kernel
theorem dX8_byteAt_9 : decode cX8_byteAt 9 = .ok (.if_icmp .ge 18, 3) := by decide +kernel
theorem dX8_byteAt_12 : decode cX8_byteAt 12 = .ok (.iload_n 1, 1) := by decide +kernel
theorem dX8_byteAt_13 : decode cX8_byteAt 13 = .ok (.bipush 80, 2) := by decide +kernel
theorem dX8_byteAt_15 : decode cX8_byteAt 15 = .ok (.if_icmp .ge 12, 3) := by decide +kernel
theorem dX8_byteAt_18 : decode cX8_byteAt 18 = .ok (.aload_n 0, 1) := by decide +kernel
theorem dX8_byteAt_19 : decode cX8_byteAt 19 = .ok (.getfield 9, 3) := by decide +kernel
theorem dX8_byteAt_22 : decode cX8_byteAt 22 = .ok (.iload_n 1, 1) := by decide +kernel
theorem dX8_byteAt_23 : decode cX8_byteAt 23 = .ok (.iaload, 1) := by decide +kernel
theorem dX8_byteAt_24 : decode cX8_byteAt 24 = .ok (.goto 4, 3) := by decide +kernel
theorem dX8_byteAt_27 : decode cX8_byteAt 27 = .ok (.iconst (-1), 1) := by decide +kernel
theorem dX8_byteAt_28 : decode cX8_byteAt 28 = .ok (.ireturn, 1) := by decide +kernel
theorem dX8_nameOf_0 : decode cX8_nameOf 0 = .ok (.iload_n 0, 1) := by decide +kernel
theorem dX8_nameOf_1 : decode cX8_nameOf 1 = .ok (.bipush 122, 2) := by decide +kernel
theorem dX8_nameOf_3 : decode cX8_nameOf 3 = .ok (.if_icmp .ne 6, 3) := by decide +kernel
theorem dX8_nameOf_6 : decode cX8_nameOf 6 = .ok (.bipush 6, 2) := by decide +kernel
theorem dX8_nameOf_8 : decode cX8_nameOf 8 = .ok (.ireturn, 1) := by decide +kernel
theorem dX8_nameOf_9 : decode cX8_nameOf 9 = .ok (.iload_n 0, 1) := by decide +kernel
theorem dX8_nameOf_10 : decode cX8_nameOf 10 = .ok (.bipush 97, 2) := by decide +kernel
theorem dX8_nameOf_12 : decode cX8_nameOf 12 = .ok (.bipush 102, 2) := by decide +kernel
theorem dX8_nameOf_14 : decode cX8_nameOf 14 = .ok (.invokestatic 84, 3) := by decide +kernel
theorem dX8_nameOf_17 : decode cX8_nameOf 17 = .ok (.ifCond .eq 10, 3) := by decide +kernel
theorem dX8_nameOf_20 : decode cX8_nameOf 20 = .ok (.iload_n 0, 1) := by decide +kernel
theorem dX8_nameOf_21 : decode cX8_nameOf 21 = .ok (.bipush 97, 2) := by decide +kernel
theorem dX8_nameOf_23 : decode cX8_nameOf 23 = .ok (.isub, 1) := by decide +kernel
theorem dX8_nameOf_24 : decode cX8_nameOf 24 = .ok (.goto 5, 3) := by decide +kernel
theorem dX8_nameOf_27 : decode cX8_nameOf 27 = .ok (.ldc 66, 2) := by decide +kernel
theorem dX8_nameOf_29 : decode cX8_nameOf 29 = .ok (.ireturn, 1) := by decide +kernel
theorem dX8_kindOf_0 : decode cX8_kindOf 0 = .ok (.iload_n 0, 1) := by decide +kernel
theorem dX8_kindOf_1 : decode cX8_kindOf 1 = .ok (.lookupswitch 61 #[(98, 55), (108, 57), (111, 51), (114, 59), (115, 53)], 51) := by decide +kernel
theorem dX8_kindOf_52 : decode cX8_kindOf 52 = .ok (.iconst 1, 1) := by decide +kernel
theorem dX8_kindOf_53 : decode cX8_kindOf 53 = .ok (.ireturn, 1) := by decide +kernel
theorem dX8_kindOf_54 : decode cX8_kindOf 54 = .ok (.iconst 2, 1) := by decide +kernel
theorem dX8_kindOf_55 : decode cX8_kindOf 55 = .ok (.ireturn, 1) := by decide +kernel
theorem dX8_kindOf_56 : decode cX8_kindOf 56 = .ok (.iconst 3, 1) := by decide +kernel
theorem dX8_kindOf_57 : decode cX8_kindOf 57 = .ok (.ireturn, 1) := by decide +kernel
theorem dX8_kindOf_58 : decode cX8_kindOf 58 = .ok (.iconst 4, 1) := by decide +kernel
theorem dX8_kindOf_59 : decode cX8_kindOf 59 = .ok (.ireturn, 1) := by decide +kernel
theorem dX8_kindOf_60 : decode cX8_kindOf 60 = .ok (.iconst 5, 1) := by decide +kernel
theorem dX8_kindOf_61 : decode cX8_kindOf 61 = .ok (.ireturn, 1) := by decide +kernel
theorem dX8_kindOf_62 : decode cX8_kindOf 62 = .ok (.iconst 0, 1) := by decide +kernel
theorem dX8_kindOf_63 : decode cX8_kindOf 63 = .ok (.ireturn, 1) := by decide +kernel
theorem dX9_init_0 : decode cX9_init 0 = .ok (.aload_n 0, 1) := by decide +kernel
theorem dX9_init_1 : decode cX9_init 1 = .ok (.invokespecial 3, 3) := by decide +kernel
theorem dX9_init_4 : decode cX9_init 4 = .ok (.aload_n 0, 1) := by decide +kernel
theorem dX9_init_5 : decode cX9_init 5 = .ok (.bipush 16, 2) := by decide +kernel
theorem dX9_init_7 : decode cX9_init 7 = .ok (.newarray .int, 2) := by decide +kernel
theorem dX9_init_9 : decode cX9_init 9 = .ok (.putfield 11, 3) := by decide +kernel
theorem dX9_init_12 : decode cX9_init 12 = .ok (.return_, 1) := by decide +kernel
theorem dX9_add_0 : decode cX9_add 0 = .ok (.aload_n 0, 1) := by decide +kernel
theorem dX9_add_1 : decode cX9_add 1 = .ok (.getfield 15, 3) := by decide +kernel
theorem dX9_add_4 : decode cX9_add 4 = .ok (.ifCond .lt 32, 3) := by decide +kernel
theorem dX9_add_7 : decode cX9_add 7 = .ok (.aload_n 0, 1) := by decide +kernel
theorem dX9_add_8 : decode cX9_add 8 = .ok (.getfield 15, 3) := by decide +kernel
theorem dX9_add_11 : decode cX9_add 11 = .ok (.bipush 16, 2) := by decide +kernel
theorem dX9_add_13 : decode cX9_add 13 = .ok (.if_icmp .ge 23, 3) := by decide +kernel
theorem dX9_add_16 : decode cX9_add 16 = .ok (.aload_n 0, 1) := by decide +kernel
theorem dX9_add_17 : decode cX9_add 17 = .ok (.getfield 11, 3) := by decide +kernel
theorem dX9_add_20 : decode cX9_add 20 = .ok (.aload_n 0, 1) := by decide +kernel
theorem dX9_add_21 : decode cX9_add 21 = .ok (.getfield 15, 3) := by decide +kernel
theorem dX9_add_24 : decode cX9_add 24 = .ok (.iload_n 1, 1) := by decide +kernel
theorem dX9_add_25 : decode cX9_add 25 = .ok (.iastore, 1) := by decide +kernel
theorem dX9_add_26 : decode cX9_add 26 = .ok (.aload_n 0, 1) := by decide +kernel
theorem dX9_add_27 : decode cX9_add 27 = .ok (.dup, 1) := by decide +kernel
theorem dX9_add_28 : decode cX9_add 28 = .ok (.getfield 15, 3) := by decide +kernel
theorem dX9_add_31 : decode cX9_add 31 = .ok (.iconst 1, 1) := by decide +kernel
theorem dX9_add_32 : decode cX9_add 32 = .ok (.iadd, 1) := by decide +kernel
theorem dX9_add_33 : decode cX9_add 33 = .ok (.putfield 15, 3) := by decide +kernel
theorem dX9_add_36 : decode cX9_add 36 = .ok (.return_, 1) := by decide +kernel
theorem dX9_numberAt_0 : decode cX9_numberAt 0 = .ok (.iload_n 1, 1) := by decide +kernel
theorem dX9_numberAt_1 : decode cX9_numberAt 1 = .ok (.ifCond .lt 26, 3) := by decide +kernel
theorem dX9_numberAt_4 : decode cX9_numberAt 4 = .ok (.iload_n 1, 1) := by decide +kernel
theorem dX9_numberAt_5 : decode cX9_numberAt 5 = .ok (.aload_n 0, 1) := by decide +kernel
theorem dX9_numberAt_6 : decode cX9_numberAt 6 = .ok (.getfield 15, 3) := by decide +kernel
theorem dX9_numberAt_9 : decode cX9_numberAt 9 = .ok (.if_icmp .ge 18, 3) := by decide +kernel
theorem dX9_numberAt_12 : decode cX9_numberAt 12 = .ok (.iload_n 1, 1) := by decide +kernel
theorem dX9_numberAt_13 : decode cX9_numberAt 13 = .ok (.bipush 16, 2) := by decide +kernel
theorem dX9_numberAt_15 : decode cX9_numberAt 15 = .ok (.if_icmp .ge 12, 3) := by decide +kernel
theorem dX9_numberAt_18 : decode cX9_numberAt 18 = .ok (.aload_n 0, 1) := by decide +kernel
theorem dX9_numberAt_19 : decode cX9_numberAt 19 = .ok (.getfield 11, 3) := by decide +kernel
theorem dX9_numberAt_22 : decode cX9_numberAt 22 = .ok (.iload_n 1, 1) := by decide +kernel
theorem dX9_numberAt_23 : decode cX9_numberAt 23 = .ok (.iaload, 1) := by decide +kernel
theorem dX9_numberAt_24 : decode cX9_numberAt 24 = .ok (.goto 5, 3) := by decide +kernel
theorem dX9_numberAt_27 : decode cX9_numberAt 27 = .ok (.ldc 19, 2) := by decide +kernel
theorem dX9_numberAt_29 : decode cX9_numberAt 29 = .ok (.ireturn, 1) := by decide +kernel
theorem dX10_init_0 : decode cX10_init 0 = .ok (.aload_n 0, 1) := by decide +kernel
theorem dX10_init_1 : decode cX10_init 1 = .ok (.invokespecial 1, 3) := by decide +kernel
theorem dX10_init_4 : decode cX10_init 4 = .ok (.aload_n 0, 1) := by decide +kernel
theorem dX10_init_5 : decode cX10_init 5 = .ok (.iload_n 1, 1) := by decide +kernel
theorem dX10_init_6 : decode cX10_init 6 = .ok (.putfield 7, 3) := by decide +kernel
theorem dX10_init_9 : decode cX10_init 9 = .ok (.aload_n 0, 1) := by decide +kernel
theorem dX10_init_10 : decode cX10_init 10 = .ok (.iload_n 2, 1) := by decide +kernel
theorem dX10_init_11 : decode cX10_init 11 = .ok (.putfield 13, 3) := by decide +kernel
theorem dX10_init_14 : decode cX10_init 14 = .ok (.return_, 1) := by decide +kernel
theorem dX10_made_0 : decode cX10_made 0 = .ok (.iload_n 0, 1) := by decide +kernel
theorem dX10_made_1 : decode cX10_made 1 = .ok (.tableswitch 71 1 4 #[31, 41, 51, 61], 31) := by decide +kernel
theorem dX10_made_32 : decode cX10_made 32 = .ok (.new 16, 3) := by decide +kernel
theorem dX10_made_35 : decode cX10_made 35 = .ok (.dup, 1) := by decide +kernel
theorem dX10_made_36 : decode cX10_made 36 = .ok (.iload_n 1, 1) := by decide +kernel
theorem dX10_made_37 : decode cX10_made 37 = .ok (.iload_n 2, 1) := by decide +kernel
theorem dX10_made_38 : decode cX10_made 38 = .ok (.invokespecial 18, 3) := by decide +kernel
theorem dX10_made_41 : decode cX10_made 41 = .ok (.areturn, 1) := by decide +kernel
theorem dX10_made_42 : decode cX10_made 42 = .ok (.new 21, 3) := by decide +kernel
theorem dX10_made_45 : decode cX10_made 45 = .ok (.dup, 1) := by decide +kernel
theorem dX10_made_46 : decode cX10_made 46 = .ok (.iload_n 1, 1) := by decide +kernel
theorem dX10_made_47 : decode cX10_made 47 = .ok (.iload_n 2, 1) := by decide +kernel
theorem dX10_made_48 : decode cX10_made 48 = .ok (.invokespecial 23, 3) := by decide +kernel
theorem dX10_made_51 : decode cX10_made 51 = .ok (.areturn, 1) := by decide +kernel
theorem dX10_made_52 : decode cX10_made 52 = .ok (.new 24, 3) := by decide +kernel
theorem dX10_made_55 : decode cX10_made 55 = .ok (.dup, 1) := by decide +kernel
theorem dX10_made_56 : decode cX10_made 56 = .ok (.iload_n 1, 1) := by decide +kernel
theorem dX10_made_57 : decode cX10_made 57 = .ok (.iload_n 2, 1) := by decide +kernel
theorem dX10_made_58 : decode cX10_made 58 = .ok (.invokespecial 26, 3) := by decide +kernel
theorem dX10_made_61 : decode cX10_made 61 = .ok (.areturn, 1) := by decide +kernel
theorem dX10_made_62 : decode cX10_made 62 = .ok (.new 27, 3) := by decide +kernel
theorem dX10_made_65 : decode cX10_made 65 = .ok (.dup, 1) := by decide +kernel
theorem dX10_made_66 : decode cX10_made 66 = .ok (.iload_n 1, 1) := by decide +kernel
theorem dX10_made_67 : decode cX10_made 67 = .ok (.iload_n 2, 1) := by decide +kernel
theorem dX10_made_68 : decode cX10_made 68 = .ok (.invokespecial 29, 3) := by decide +kernel
theorem dX10_made_71 : decode cX10_made 71 = .ok (.areturn, 1) := by decide +kernel
theorem dX10_made_72 : decode cX10_made 72 = .ok (.new 30, 3) := by decide +kernel
theorem dX10_made_75 : decode cX10_made 75 = .ok (.dup, 1) := by decide +kernel
theorem dX10_made_76 : decode cX10_made 76 = .ok (.iload_n 1, 1) := by decide +kernel
theorem dX10_made_77 : decode cX10_made 77 = .ok (.iload_n 2, 1) := by decide +kernel
theorem dX10_made_78 : decode cX10_made 78 = .ok (.invokespecial 32, 3) := by decide +kernel
theorem dX10_made_81 : decode cX10_made 81 = .ok (.areturn, 1) := by decide +kernel
theorem dX10_isOfKind_0 : decode cX10_isOfKind 0 = .ok (.iload_n 1, 1) := by decide +kernel
theorem dX10_isOfKind_1 : decode cX10_isOfKind 1 = .ok (.tableswitch 65 0 4 #[35, 45, 50, 55, 60], 35) := by decide +kernel
theorem dX10_isOfKind_36 : decode cX10_isOfKind 36 = .ok (.aload_n 0, 1) := by decide +kernel
theorem dX10_isOfKind_37 : decode cX10_isOfKind 37 = .ok (.ifnull 7, 3) := by decide +kernel
theorem dX10_isOfKind_40 : decode cX10_isOfKind 40 = .ok (.iconst 1, 1) := by decide +kernel
theorem dX10_isOfKind_41 : decode cX10_isOfKind 41 = .ok (.goto 4, 3) := by decide +kernel
theorem dX10_isOfKind_44 : decode cX10_isOfKind 44 = .ok (.iconst 0, 1) := by decide +kernel
theorem dX10_isOfKind_45 : decode cX10_isOfKind 45 = .ok (.ireturn, 1) := by decide +kernel
theorem dX10_isOfKind_46 : decode cX10_isOfKind 46 = .ok (.aload_n 0, 1) := by decide +kernel
theorem dX10_isOfKind_47 : decode cX10_isOfKind 47 = .ok (.instanceof 16, 3) := by decide +kernel
theorem dX10_isOfKind_50 : decode cX10_isOfKind 50 = .ok (.ireturn, 1) := by decide +kernel
theorem dX10_isOfKind_51 : decode cX10_isOfKind 51 = .ok (.aload_n 0, 1) := by decide +kernel
theorem dX10_isOfKind_52 : decode cX10_isOfKind 52 = .ok (.instanceof 21, 3) := by decide +kernel
theorem dX10_isOfKind_55 : decode cX10_isOfKind 55 = .ok (.ireturn, 1) := by decide +kernel
theorem dX10_isOfKind_56 : decode cX10_isOfKind 56 = .ok (.aload_n 0, 1) := by decide +kernel
theorem dX10_isOfKind_57 : decode cX10_isOfKind 57 = .ok (.instanceof 24, 3) := by decide +kernel
theorem dX10_isOfKind_60 : decode cX10_isOfKind 60 = .ok (.ireturn, 1) := by decide +kernel
theorem dX10_isOfKind_61 : decode cX10_isOfKind 61 = .ok (.aload_n 0, 1) := by decide +kernel
theorem dX10_isOfKind_62 : decode cX10_isOfKind 62 = .ok (.instanceof 27, 3) := by decide +kernel
theorem dX10_isOfKind_65 : decode cX10_isOfKind 65 = .ok (.ireturn, 1) := by decide +kernel
theorem dX10_isOfKind_66 : decode cX10_isOfKind 66 = .ok (.aload_n 0, 1) := by decide +kernel
theorem dX10_isOfKind_67 : decode cX10_isOfKind 67 = .ok (.instanceof 30, 3) := by decide +kernel
theorem dX10_isOfKind_70 : decode cX10_isOfKind 70 = .ok (.ireturn, 1) := by decide +kernel
theorem dX10_size_0 : decode cX10_size 0 = .ok (.aload_n 1, 1) := by decide +kernel
theorem dX10_size_1 : decode cX10_size 1 = .ok (.bipush 10, 2) := by decide +kernel
theorem dX10_size_3 : decode cX10_size 3 = .ok (.invokevirtual 33, 3) := by decide +kernel
theorem dX10_size_6 : decode cX10_size 6 = .ok (.aload_n 0, 1) := by decide +kernel
theorem dX10_size_7 : decode cX10_size 7 = .ok (.getfield 13, 3) := by decide +kernel
theorem dX10_size_10 : decode cX10_size 10 = .ok (.ireturn, 1) := by decide +kernel
theorem dX10_mark_0 : decode cX10_mark 0 = .ok (.aload_n 1, 1) := by decide +kernel
theorem dX10_mark_1 : decode cX10_mark 1 = .ok (.bipush 20, 2) := by decide +kernel
theorem dX10_mark_3 : decode cX10_mark 3 = .ok (.invokevirtual 33, 3) := by decide +kernel
theorem dX10_mark_6 : decode cX10_mark 6 = .ok (.aload_n 0, 1) := by decide +kernel
theorem dX10_mark_7 : decode cX10_mark 7 = .ok (.getfield 7, 3) := by decide +kernel
theorem dX10_mark_10 : decode cX10_mark 10 = .ok (.ireturn, 1) := by decide +kernel
theorem dJ6_bitCount_0f7a4_0 : decode cJ6_bitCount_0f7a4 0 = .ok (.iload_n 0, 1) := by decide +kernel
theorem dJ6_bitCount_0f7a4_1 : decode cJ6_bitCount_0f7a4 1 = .ok (.iload_n 0, 1) := by decide +kernel
theorem dJ6_bitCount_0f7a4_2 : decode cJ6_bitCount_0f7a4 2 = .ok (.iconst 1, 1) := by decide +kernel
theorem dJ6_bitCount_0f7a4_3 : decode cJ6_bitCount_0f7a4 3 = .ok (.iushr, 1) := by decide +kernel
theorem dJ6_bitCount_0f7a4_4 : decode cJ6_bitCount_0f7a4 4 = .ok (.ldc_w 265, 3) := by decide +kernel
theorem dJ6_bitCount_0f7a4_7 : decode cJ6_bitCount_0f7a4 7 = .ok (.iand, 1) := by decide +kernel
theorem dJ6_bitCount_0f7a4_8 : decode cJ6_bitCount_0f7a4 8 = .ok (.isub, 1) := by decide +kernel
theorem dJ6_bitCount_0f7a4_9 : decode cJ6_bitCount_0f7a4 9 = .ok (.istore_n 0, 1) := by decide +kernel
theorem dJ6_bitCount_0f7a4_10 : decode cJ6_bitCount_0f7a4 10 = .ok (.iload_n 0, 1) := by decide +kernel
theorem dJ6_bitCount_0f7a4_11 : decode cJ6_bitCount_0f7a4 11 = .ok (.ldc_w 266, 3) := by decide +kernel
theorem dJ6_bitCount_0f7a4_14 : decode cJ6_bitCount_0f7a4 14 = .ok (.iand, 1) := by decide +kernel
theorem dJ6_bitCount_0f7a4_15 : decode cJ6_bitCount_0f7a4 15 = .ok (.iload_n 0, 1) := by decide +kernel
theorem dJ6_bitCount_0f7a4_16 : decode cJ6_bitCount_0f7a4 16 = .ok (.iconst 2, 1) := by decide +kernel
theorem dJ6_bitCount_0f7a4_17 : decode cJ6_bitCount_0f7a4 17 = .ok (.iushr, 1) := by decide +kernel
theorem dJ6_bitCount_0f7a4_18 : decode cJ6_bitCount_0f7a4 18 = .ok (.ldc_w 266, 3) := by decide +kernel
theorem dJ6_bitCount_0f7a4_21 : decode cJ6_bitCount_0f7a4 21 = .ok (.iand, 1) := by decide +kernel
theorem dJ6_bitCount_0f7a4_22 : decode cJ6_bitCount_0f7a4 22 = .ok (.iadd, 1) := by decide +kernel
theorem dJ6_bitCount_0f7a4_23 : decode cJ6_bitCount_0f7a4 23 = .ok (.istore_n 0, 1) := by decide +kernel
theorem dJ6_bitCount_0f7a4_24 : decode cJ6_bitCount_0f7a4 24 = .ok (.iload_n 0, 1) := by decide +kernel
theorem dJ6_bitCount_0f7a4_25 : decode cJ6_bitCount_0f7a4 25 = .ok (.iload_n 0, 1) := by decide +kernel
theorem dJ6_bitCount_0f7a4_26 : decode cJ6_bitCount_0f7a4 26 = .ok (.iconst 4, 1) := by decide +kernel
theorem dJ6_bitCount_0f7a4_27 : decode cJ6_bitCount_0f7a4 27 = .ok (.iushr, 1) := by decide +kernel
theorem dJ6_bitCount_0f7a4_28 : decode cJ6_bitCount_0f7a4 28 = .ok (.iadd, 1) := by decide +kernel
theorem dJ6_bitCount_0f7a4_29 : decode cJ6_bitCount_0f7a4 29 = .ok (.ldc_w 267, 3) := by decide +kernel
theorem dJ6_bitCount_0f7a4_32 : decode cJ6_bitCount_0f7a4 32 = .ok (.iand, 1) := by decide +kernel
theorem dJ6_bitCount_0f7a4_33 : decode cJ6_bitCount_0f7a4 33 = .ok (.istore_n 0, 1) := by decide +kernel
theorem dJ6_bitCount_0f7a4_34 : decode cJ6_bitCount_0f7a4 34 = .ok (.iload_n 0, 1) := by decide +kernel
theorem dJ6_bitCount_0f7a4_35 : decode cJ6_bitCount_0f7a4 35 = .ok (.iload_n 0, 1) := by decide +kernel
theorem dJ6_bitCount_0f7a4_36 : decode cJ6_bitCount_0f7a4 36 = .ok (.bipush 8, 2) := by decide +kernel
theorem dJ6_bitCount_0f7a4_38 : decode cJ6_bitCount_0f7a4 38 = .ok (.iushr, 1) := by decide +kernel
theorem dJ6_bitCount_0f7a4_39 : decode cJ6_bitCount_0f7a4 39 = .ok (.iadd, 1) := by decide +kernel
theorem dJ6_bitCount_0f7a4_40 : decode cJ6_bitCount_0f7a4 40 = .ok (.istore_n 0, 1) := by decide +kernel
theorem dJ6_bitCount_0f7a4_41 : decode cJ6_bitCount_0f7a4 41 = .ok (.iload_n 0, 1) := by decide +kernel
theorem dJ6_bitCount_0f7a4_42 : decode cJ6_bitCount_0f7a4 42 = .ok (.iload_n 0, 1) := by decide +kernel
theorem dJ6_bitCount_0f7a4_43 : decode cJ6_bitCount_0f7a4 43 = .ok (.bipush 16, 2) := by decide +kernel
theorem dJ6_bitCount_0f7a4_45 : decode cJ6_bitCount_0f7a4 45 = .ok (.iushr, 1) := by decide +kernel
theorem dJ6_bitCount_0f7a4_46 : decode cJ6_bitCount_0f7a4 46 = .ok (.iadd, 1) := by decide +kernel
theorem dJ6_bitCount_0f7a4_47 : decode cJ6_bitCount_0f7a4 47 = .ok (.istore_n 0, 1) := by decide +kernel
theorem dJ6_bitCount_0f7a4_48 : decode cJ6_bitCount_0f7a4 48 = .ok (.iload_n 0, 1) := by decide +kernel
theorem dJ6_bitCount_0f7a4_49 : decode cJ6_bitCount_0f7a4 49 = .ok (.bipush 63, 2) := by decide +kernel
theorem dJ6_bitCount_0f7a4_51 : decode cJ6_bitCount_0f7a4 51 = .ok (.iand, 1) := by decide +kernel
theorem dJ6_bitCount_0f7a4_52 : decode cJ6_bitCount_0f7a4 52 = .ok (.ireturn, 1) := by decide +kernel
theorem dJ9_max_7cf53_0 : decode cJ9_max_7cf53 0 = .ok (.iload_n 0, 1) := by decide +kernel
theorem dJ9_max_7cf53_1 : decode cJ9_max_7cf53 1 = .ok (.iload_n 1, 1) := by decide +kernel
theorem dJ9_max_7cf53_2 : decode cJ9_max_7cf53 2 = .ok (.if_icmp .lt 7, 3) := by decide +kernel
theorem dJ9_max_7cf53_5 : decode cJ9_max_7cf53 5 = .ok (.iload_n 0, 1) := by decide +kernel
theorem dJ9_max_7cf53_6 : decode cJ9_max_7cf53 6 = .ok (.goto 4, 3) := by decide +kernel
theorem dJ9_max_7cf53_9 : decode cJ9_max_7cf53 9 = .ok (.iload_n 1, 1) := by decide +kernel
theorem dJ9_max_7cf53_10 : decode cJ9_max_7cf53 10 = .ok (.ireturn, 1) := by decide +kernel
theorem dJ9_min_7cf53_0 : decode cJ9_min_7cf53 0 = .ok (.iload_n 0, 1) := by decide +kernel
theorem dJ9_min_7cf53_1 : decode cJ9_min_7cf53 1 = .ok (.iload_n 1, 1) := by decide +kernel
theorem dJ9_min_7cf53_2 : decode cJ9_min_7cf53 2 = .ok (.if_icmp .gt 7, 3) := by decide +kernel
theorem dJ9_min_7cf53_5 : decode cJ9_min_7cf53 5 = .ok (.iload_n 0, 1) := by decide +kernel
theorem dJ9_min_7cf53_6 : decode cJ9_min_7cf53 6 = .ok (.goto 4, 3) := by decide +kernel
theorem dJ9_min_7cf53_9 : decode cJ9_min_7cf53 9 = .ok (.iload_n 1, 1) := by decide +kernel
theorem dJ9_min_7cf53_10 : decode cJ9_min_7cf53 10 = .ok (.ireturn, 1) := by decide +kernel
theorem dJ7_fill_d0a16_0 : decode cJ7_fill_d0a16 0 = .ok (.iconst 0, 1) := by decide +kernel
theorem dJ7_fill_d0a16_1 : decode cJ7_fill_d0a16 1 = .ok (.istore_n 3, 1) := by decide +kernel
theorem dJ7_fill_d0a16_2 : decode cJ7_fill_d0a16 2 = .ok (.aload_n 0, 1) := by decide +kernel
theorem dJ7_fill_d0a16_3 : decode cJ7_fill_d0a16 3 = .ok (.arraylength, 1) := by decide +kernel
theorem dJ7_fill_d0a16_4 : decode cJ7_fill_d0a16 4 = .ok (.istore 4, 2) := by decide +kernel
theorem dJ7_fill_d0a16_6 : decode cJ7_fill_d0a16 6 = .ok (.iload_n 3, 1) := by decide +kernel
theorem dJ7_fill_d0a16_7 : decode cJ7_fill_d0a16 7 = .ok (.iload 4, 2) := by decide +kernel
theorem dJ7_fill_d0a16_9 : decode cJ7_fill_d0a16 9 = .ok (.if_icmp .ge 13, 3) := by decide +kernel
theorem dJ7_fill_d0a16_12 : decode cJ7_fill_d0a16 12 = .ok (.aload_n 0, 1) := by decide +kernel
theorem dJ7_fill_d0a16_13 : decode cJ7_fill_d0a16 13 = .ok (.iload_n 3, 1) := by decide +kernel
theorem dJ7_fill_d0a16_14 : decode cJ7_fill_d0a16 14 = .ok (.lload_n 1, 1) := by decide +kernel
theorem dJ7_fill_d0a16_15 : decode cJ7_fill_d0a16 15 = .ok (.lastore, 1) := by decide +kernel
theorem dJ7_fill_d0a16_16 : decode cJ7_fill_d0a16 16 = .ok (.iinc 3 1, 3) := by decide +kernel
theorem dJ7_fill_d0a16_19 : decode cJ7_fill_d0a16 19 = .ok (.goto (-13), 3) := by decide +kernel
theorem dJ7_fill_d0a16_22 : decode cJ7_fill_d0a16 22 = .ok (.return_, 1) := by decide +kernel
theorem dJ7_fill_53178_0 : decode cJ7_fill_53178 0 = .ok (.iconst 0, 1) := by decide +kernel
theorem dJ7_fill_53178_1 : decode cJ7_fill_53178 1 = .ok (.istore_n 2, 1) := by decide +kernel
theorem dJ7_fill_53178_2 : decode cJ7_fill_53178 2 = .ok (.aload_n 0, 1) := by decide +kernel
theorem dJ7_fill_53178_3 : decode cJ7_fill_53178 3 = .ok (.arraylength, 1) := by decide +kernel
theorem dJ7_fill_53178_4 : decode cJ7_fill_53178 4 = .ok (.istore_n 3, 1) := by decide +kernel
theorem dJ7_fill_53178_5 : decode cJ7_fill_53178 5 = .ok (.iload_n 2, 1) := by decide +kernel
theorem dJ7_fill_53178_6 : decode cJ7_fill_53178 6 = .ok (.iload_n 3, 1) := by decide +kernel
theorem dJ7_fill_53178_7 : decode cJ7_fill_53178 7 = .ok (.if_icmp .ge 13, 3) := by decide +kernel
theorem dJ7_fill_53178_10 : decode cJ7_fill_53178 10 = .ok (.aload_n 0, 1) := by decide +kernel
theorem dJ7_fill_53178_11 : decode cJ7_fill_53178 11 = .ok (.iload_n 2, 1) := by decide +kernel
theorem dJ7_fill_53178_12 : decode cJ7_fill_53178 12 = .ok (.iload_n 1, 1) := by decide +kernel
theorem dJ7_fill_53178_13 : decode cJ7_fill_53178 13 = .ok (.iastore, 1) := by decide +kernel
theorem dJ7_fill_53178_14 : decode cJ7_fill_53178 14 = .ok (.iinc 2 1, 3) := by decide +kernel
theorem dJ7_fill_53178_17 : decode cJ7_fill_53178 17 = .ok (.goto (-12), 3) := by decide +kernel
theorem dJ7_fill_53178_20 : decode cJ7_fill_53178 20 = .ok (.return_, 1) := by decide +kernel
