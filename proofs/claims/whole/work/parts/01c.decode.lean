theorem dX2_closeByLags_29 : decode cX2_closeByLags 29 = .ok (.iaload, 1) := by decide +kernel
theorem dX2_closeByLags_30 : decode cX2_closeByLags 30 = .ok (.istore_n 3, 1) := by decide +kernel
theorem dX2_closeByLags_31 : decode cX2_closeByLags 31 = .ok (.iload_n 3, 1) := by decide +kernel
theorem dX2_closeByLags_32 : decode cX2_closeByLags 32 = .ok (.bipush (-10), 2) := by decide +kernel
theorem dX2_closeByLags_34 : decode cX2_closeByLags 34 = .ok (.if_icmp .eq 70, 3) := by decide +kernel
theorem dX2_closeByLags_37 : decode cX2_closeByLags 37 = .ok (.aload_n 0, 1) := by decide +kernel
theorem dX2_closeByLags_38 : decode cX2_closeByLags 38 = .ok (.getfield 15, 3) := by decide +kernel
theorem dX2_closeByLags_41 : decode cX2_closeByLags 41 = .ok (.iload_n 2, 1) := by decide +kernel
theorem dX2_closeByLags_42 : decode cX2_closeByLags 42 = .ok (.iaload, 1) := by decide +kernel
theorem dX2_closeByLags_43 : decode cX2_closeByLags 43 = .ok (.iload_n 3, 1) := by decide +kernel
theorem dX2_closeByLags_44 : decode cX2_closeByLags 44 = .ok (.iadd, 1) := by decide +kernel
theorem dX2_closeByLags_45 : decode cX2_closeByLags 45 = .ok (.istore 4, 2) := by decide +kernel
theorem dX2_closeByLags_47 : decode cX2_closeByLags 47 = .ok (.aload_n 0, 1) := by decide +kernel
theorem dX2_closeByLags_48 : decode cX2_closeByLags 48 = .ok (.getfield 30, 3) := by decide +kernel
theorem dX2_closeByLags_51 : decode cX2_closeByLags 51 = .ok (.iload_n 1, 1) := by decide +kernel
theorem dX2_closeByLags_52 : decode cX2_closeByLags 52 = .ok (.dup2, 1) := by decide +kernel
theorem dX2_closeByLags_53 : decode cX2_closeByLags 53 = .ok (.iaload, 1) := by decide +kernel
theorem dX2_closeByLags_54 : decode cX2_closeByLags 54 = .ok (.aload_n 0, 1) := by decide +kernel
theorem dX2_closeByLags_55 : decode cX2_closeByLags 55 = .ok (.getfield 30, 3) := by decide +kernel
theorem dX2_closeByLags_58 : decode cX2_closeByLags 58 = .ok (.iload_n 2, 1) := by decide +kernel
theorem dX2_closeByLags_59 : decode cX2_closeByLags 59 = .ok (.iaload, 1) := by decide +kernel
theorem dX2_closeByLags_60 : decode cX2_closeByLags 60 = .ok (.invokestatic 111, 3) := by decide +kernel
theorem dX2_closeByLags_63 : decode cX2_closeByLags 63 = .ok (.iload 4, 2) := by decide +kernel
theorem dX2_closeByLags_65 : decode cX2_closeByLags 65 = .ok (.iadd, 1) := by decide +kernel
theorem dX2_closeByLags_66 : decode cX2_closeByLags 66 = .ok (.bipush 9, 2) := by decide +kernel
theorem dX2_closeByLags_68 : decode cX2_closeByLags 68 = .ok (.invokestatic 50, 3) := by decide +kernel
theorem dX2_closeByLags_71 : decode cX2_closeByLags 71 = .ok (.invokestatic 108, 3) := by decide +kernel
theorem dX2_closeByLags_74 : decode cX2_closeByLags 74 = .ok (.iand, 1) := by decide +kernel
theorem dX2_closeByLags_75 : decode cX2_closeByLags 75 = .ok (.iastore, 1) := by decide +kernel
theorem dX2_closeByLags_76 : decode cX2_closeByLags 76 = .ok (.aload_n 0, 1) := by decide +kernel
theorem dX2_closeByLags_77 : decode cX2_closeByLags 77 = .ok (.getfield 30, 3) := by decide +kernel
theorem dX2_closeByLags_80 : decode cX2_closeByLags 80 = .ok (.iload_n 2, 1) := by decide +kernel
theorem dX2_closeByLags_81 : decode cX2_closeByLags 81 = .ok (.dup2, 1) := by decide +kernel
theorem dX2_closeByLags_82 : decode cX2_closeByLags 82 = .ok (.iaload, 1) := by decide +kernel
theorem dX2_closeByLags_83 : decode cX2_closeByLags 83 = .ok (.iconst 0, 1) := by decide +kernel
theorem dX2_closeByLags_84 : decode cX2_closeByLags 84 = .ok (.aload_n 0, 1) := by decide +kernel
theorem dX2_closeByLags_85 : decode cX2_closeByLags 85 = .ok (.getfield 30, 3) := by decide +kernel
theorem dX2_closeByLags_88 : decode cX2_closeByLags 88 = .ok (.iload_n 1, 1) := by decide +kernel
theorem dX2_closeByLags_89 : decode cX2_closeByLags 89 = .ok (.iaload, 1) := by decide +kernel
theorem dX2_closeByLags_90 : decode cX2_closeByLags 90 = .ok (.invokestatic 114, 3) := by decide +kernel
theorem dX2_closeByLags_93 : decode cX2_closeByLags 93 = .ok (.iload 4, 2) := by decide +kernel
theorem dX2_closeByLags_95 : decode cX2_closeByLags 95 = .ok (.isub, 1) := by decide +kernel
theorem dX2_closeByLags_96 : decode cX2_closeByLags 96 = .ok (.invokestatic 50, 3) := by decide +kernel
theorem dX2_closeByLags_99 : decode cX2_closeByLags 99 = .ok (.invokestatic 108, 3) := by decide +kernel
theorem dX2_closeByLags_102 : decode cX2_closeByLags 102 = .ok (.iand, 1) := by decide +kernel
theorem dX2_closeByLags_103 : decode cX2_closeByLags 103 = .ok (.iastore, 1) := by decide +kernel
theorem dX2_closeByLags_104 : decode cX2_closeByLags 104 = .ok (.iinc 2 1, 3) := by decide +kernel
theorem dX2_closeByLags_107 : decode cX2_closeByLags 107 = .ok (.goto (-95), 3) := by decide +kernel
theorem dX2_closeByLags_110 : decode cX2_closeByLags 110 = .ok (.iinc 1 1, 3) := by decide +kernel
theorem dX2_closeByLags_113 : decode cX2_closeByLags 113 = .ok (.goto (-111), 3) := by decide +kernel
theorem dX2_closeByLags_116 : decode cX2_closeByLags 116 = .ok (.return_, 1) := by decide +kernel
theorem dX2_firstStart_0 : decode cX2_firstStart 0 = .ok (.iload_n 0, 1) := by decide +kernel
theorem dX2_firstStart_1 : decode cX2_firstStart 1 = .ok (.invokestatic 117, 3) := by decide +kernel
theorem dX2_firstStart_4 : decode cX2_firstStart 4 = .ok (.invokestatic 120, 3) := by decide +kernel
theorem dX2_firstStart_7 : decode cX2_firstStart 7 = .ok (.ireturn, 1) := by decide +kernel
theorem dX2_startsIn_0 : decode cX2_startsIn 0 = .ok (.iload_n 0, 1) := by decide +kernel
theorem dX2_startsIn_1 : decode cX2_startsIn 1 = .ok (.iload_n 0, 1) := by decide +kernel
theorem dX2_startsIn_2 : decode cX2_startsIn 2 = .ok (.bipush 10, 2) := by decide +kernel
theorem dX2_startsIn_4 : decode cX2_startsIn 4 = .ok (.ishr, 1) := by decide +kernel
theorem dX2_startsIn_5 : decode cX2_startsIn 5 = .ok (.ior, 1) := by decide +kernel
theorem dX2_startsIn_6 : decode cX2_startsIn 6 = .ok (.iload_n 0, 1) := by decide +kernel
theorem dX2_startsIn_7 : decode cX2_startsIn 7 = .ok (.bipush 20, 2) := by decide +kernel
theorem dX2_startsIn_9 : decode cX2_startsIn 9 = .ok (.ishr, 1) := by decide +kernel
theorem dX2_startsIn_10 : decode cX2_startsIn 10 = .ok (.ior, 1) := by decide +kernel
theorem dX2_startsIn_11 : decode cX2_startsIn 11 = .ok (.sipush 1023, 3) := by decide +kernel
theorem dX2_startsIn_14 : decode cX2_startsIn 14 = .ok (.iand, 1) := by decide +kernel
theorem dX2_startsIn_15 : decode cX2_startsIn 15 = .ok (.ireturn, 1) := by decide +kernel
theorem dJ6_numberOfTrailingZeros_0 : decode cJ6_numberOfTrailingZeros 0 = .ok (.iload_n 0, 1) := by decide +kernel
theorem dJ6_numberOfTrailingZeros_1 : decode cJ6_numberOfTrailingZeros 1 = .ok (.iconst (-1), 1) := by decide +kernel
theorem dJ6_numberOfTrailingZeros_2 : decode cJ6_numberOfTrailingZeros 2 = .ok (.ixor, 1) := by decide +kernel
theorem dJ6_numberOfTrailingZeros_3 : decode cJ6_numberOfTrailingZeros 3 = .ok (.iload_n 0, 1) := by decide +kernel
theorem dJ6_numberOfTrailingZeros_4 : decode cJ6_numberOfTrailingZeros 4 = .ok (.iconst 1, 1) := by decide +kernel
theorem dJ6_numberOfTrailingZeros_5 : decode cJ6_numberOfTrailingZeros 5 = .ok (.isub, 1) := by decide +kernel
theorem dJ6_numberOfTrailingZeros_6 : decode cJ6_numberOfTrailingZeros 6 = .ok (.iand, 1) := by decide +kernel
theorem dJ6_numberOfTrailingZeros_7 : decode cJ6_numberOfTrailingZeros 7 = .ok (.istore_n 0, 1) := by decide +kernel
theorem dJ6_numberOfTrailingZeros_8 : decode cJ6_numberOfTrailingZeros 8 = .ok (.iload_n 0, 1) := by decide +kernel
theorem dJ6_numberOfTrailingZeros_9 : decode cJ6_numberOfTrailingZeros 9 = .ok (.ifCond .gt 8, 3) := by decide +kernel
theorem dJ6_numberOfTrailingZeros_12 : decode cJ6_numberOfTrailingZeros 12 = .ok (.iload_n 0, 1) := by decide +kernel
theorem dJ6_numberOfTrailingZeros_13 : decode cJ6_numberOfTrailingZeros 13 = .ok (.bipush 32, 2) := by decide +kernel
theorem dJ6_numberOfTrailingZeros_15 : decode cJ6_numberOfTrailingZeros 15 = .ok (.iand, 1) := by decide +kernel
theorem dJ6_numberOfTrailingZeros_16 : decode cJ6_numberOfTrailingZeros 16 = .ok (.ireturn, 1) := by decide +kernel
theorem dJ6_numberOfTrailingZeros_17 : decode cJ6_numberOfTrailingZeros 17 = .ok (.iconst 1, 1) := by decide +kernel
theorem dJ6_numberOfTrailingZeros_18 : decode cJ6_numberOfTrailingZeros 18 = .ok (.istore_n 1, 1) := by decide +kernel
theorem dJ6_numberOfTrailingZeros_19 : decode cJ6_numberOfTrailingZeros 19 = .ok (.iload_n 0, 1) := by decide +kernel
theorem dJ6_numberOfTrailingZeros_20 : decode cJ6_numberOfTrailingZeros 20 = .ok (.ldc_w 264, 3) := by decide +kernel
theorem dJ6_numberOfTrailingZeros_23 : decode cJ6_numberOfTrailingZeros 23 = .ok (.if_icmp .le 11, 3) := by decide +kernel
theorem dJ6_numberOfTrailingZeros_26 : decode cJ6_numberOfTrailingZeros 26 = .ok (.iinc 1 16, 3) := by decide +kernel
theorem dJ6_numberOfTrailingZeros_29 : decode cJ6_numberOfTrailingZeros 29 = .ok (.iload_n 0, 1) := by decide +kernel
theorem dJ6_numberOfTrailingZeros_30 : decode cJ6_numberOfTrailingZeros 30 = .ok (.bipush 16, 2) := by decide +kernel
theorem dJ6_numberOfTrailingZeros_32 : decode cJ6_numberOfTrailingZeros 32 = .ok (.iushr, 1) := by decide +kernel
theorem dJ6_numberOfTrailingZeros_33 : decode cJ6_numberOfTrailingZeros 33 = .ok (.istore_n 0, 1) := by decide +kernel
theorem dJ6_numberOfTrailingZeros_34 : decode cJ6_numberOfTrailingZeros 34 = .ok (.iload_n 0, 1) := by decide +kernel
theorem dJ6_numberOfTrailingZeros_35 : decode cJ6_numberOfTrailingZeros 35 = .ok (.sipush 256, 3) := by decide +kernel
theorem dJ6_numberOfTrailingZeros_38 : decode cJ6_numberOfTrailingZeros 38 = .ok (.if_icmp .le 11, 3) := by decide +kernel
theorem dJ6_numberOfTrailingZeros_41 : decode cJ6_numberOfTrailingZeros 41 = .ok (.iinc 1 8, 3) := by decide +kernel
theorem dJ6_numberOfTrailingZeros_44 : decode cJ6_numberOfTrailingZeros 44 = .ok (.iload_n 0, 1) := by decide +kernel
theorem dJ6_numberOfTrailingZeros_45 : decode cJ6_numberOfTrailingZeros 45 = .ok (.bipush 8, 2) := by decide +kernel
theorem dJ6_numberOfTrailingZeros_47 : decode cJ6_numberOfTrailingZeros 47 = .ok (.iushr, 1) := by decide +kernel
theorem dJ6_numberOfTrailingZeros_48 : decode cJ6_numberOfTrailingZeros 48 = .ok (.istore_n 0, 1) := by decide +kernel
theorem dJ6_numberOfTrailingZeros_49 : decode cJ6_numberOfTrailingZeros 49 = .ok (.iload_n 0, 1) := by decide +kernel
theorem dJ6_numberOfTrailingZeros_50 : decode cJ6_numberOfTrailingZeros 50 = .ok (.bipush 16, 2) := by decide +kernel
theorem dJ6_numberOfTrailingZeros_52 : decode cJ6_numberOfTrailingZeros 52 = .ok (.if_icmp .le 10, 3) := by decide +kernel
theorem dJ6_numberOfTrailingZeros_55 : decode cJ6_numberOfTrailingZeros 55 = .ok (.iinc 1 4, 3) := by decide +kernel
theorem dJ6_numberOfTrailingZeros_58 : decode cJ6_numberOfTrailingZeros 58 = .ok (.iload_n 0, 1) := by decide +kernel
theorem dJ6_numberOfTrailingZeros_59 : decode cJ6_numberOfTrailingZeros 59 = .ok (.iconst 4, 1) := by decide +kernel
theorem dJ6_numberOfTrailingZeros_60 : decode cJ6_numberOfTrailingZeros 60 = .ok (.iushr, 1) := by decide +kernel
theorem dJ6_numberOfTrailingZeros_61 : decode cJ6_numberOfTrailingZeros 61 = .ok (.istore_n 0, 1) := by decide +kernel
theorem dJ6_numberOfTrailingZeros_62 : decode cJ6_numberOfTrailingZeros 62 = .ok (.iload_n 0, 1) := by decide +kernel
theorem dJ6_numberOfTrailingZeros_63 : decode cJ6_numberOfTrailingZeros 63 = .ok (.iconst 4, 1) := by decide +kernel
theorem dJ6_numberOfTrailingZeros_64 : decode cJ6_numberOfTrailingZeros 64 = .ok (.if_icmp .le 10, 3) := by decide +kernel
theorem dJ6_numberOfTrailingZeros_67 : decode cJ6_numberOfTrailingZeros 67 = .ok (.iinc 1 2, 3) := by decide +kernel
theorem dJ6_numberOfTrailingZeros_70 : decode cJ6_numberOfTrailingZeros 70 = .ok (.iload_n 0, 1) := by decide +kernel
theorem dJ6_numberOfTrailingZeros_71 : decode cJ6_numberOfTrailingZeros 71 = .ok (.iconst 2, 1) := by decide +kernel
theorem dJ6_numberOfTrailingZeros_72 : decode cJ6_numberOfTrailingZeros 72 = .ok (.iushr, 1) := by decide +kernel
theorem dJ6_numberOfTrailingZeros_73 : decode cJ6_numberOfTrailingZeros 73 = .ok (.istore_n 0, 1) := by decide +kernel
theorem dJ6_numberOfTrailingZeros_74 : decode cJ6_numberOfTrailingZeros 74 = .ok (.iload_n 1, 1) := by decide +kernel
theorem dJ6_numberOfTrailingZeros_75 : decode cJ6_numberOfTrailingZeros 75 = .ok (.iload_n 0, 1) := by decide +kernel
theorem dJ6_numberOfTrailingZeros_76 : decode cJ6_numberOfTrailingZeros 76 = .ok (.iconst 1, 1) := by decide +kernel
theorem dJ6_numberOfTrailingZeros_77 : decode cJ6_numberOfTrailingZeros 77 = .ok (.iushr, 1) := by decide +kernel
theorem dJ6_numberOfTrailingZeros_78 : decode cJ6_numberOfTrailingZeros 78 = .ok (.iadd, 1) := by decide +kernel
theorem dJ6_numberOfTrailingZeros_79 : decode cJ6_numberOfTrailingZeros 79 = .ok (.ireturn, 1) := by decide +kernel
theorem dX2_lastStart_0 : decode cX2_lastStart 0 = .ok (.bipush 31, 2) := by decide +kernel
theorem dX2_lastStart_2 : decode cX2_lastStart 2 = .ok (.iload_n 0, 1) := by decide +kernel
theorem dX2_lastStart_3 : decode cX2_lastStart 3 = .ok (.invokestatic 117, 3) := by decide +kernel
theorem dX2_lastStart_6 : decode cX2_lastStart 6 = .ok (.invokestatic 125, 3) := by decide +kernel
theorem dX2_lastStart_9 : decode cX2_lastStart 9 = .ok (.isub, 1) := by decide +kernel
theorem dX2_lastStart_10 : decode cX2_lastStart 10 = .ok (.ireturn, 1) := by decide +kernel
theorem dJ6_numberOfLeadingZeros_0 : decode cJ6_numberOfLeadingZeros 0 = .ok (.iload_n 0, 1) := by decide +kernel
theorem dJ6_numberOfLeadingZeros_1 : decode cJ6_numberOfLeadingZeros 1 = .ok (.ifCond .gt 14, 3) := by decide +kernel
theorem dJ6_numberOfLeadingZeros_4 : decode cJ6_numberOfLeadingZeros 4 = .ok (.iload_n 0, 1) := by decide +kernel
theorem dJ6_numberOfLeadingZeros_5 : decode cJ6_numberOfLeadingZeros 5 = .ok (.ifCond .ne 8, 3) := by decide +kernel
theorem dJ6_numberOfLeadingZeros_8 : decode cJ6_numberOfLeadingZeros 8 = .ok (.bipush 32, 2) := by decide +kernel
theorem dJ6_numberOfLeadingZeros_10 : decode cJ6_numberOfLeadingZeros 10 = .ok (.goto 4, 3) := by decide +kernel
theorem dJ6_numberOfLeadingZeros_13 : decode cJ6_numberOfLeadingZeros 13 = .ok (.iconst 0, 1) := by decide +kernel
theorem dJ6_numberOfLeadingZeros_14 : decode cJ6_numberOfLeadingZeros 14 = .ok (.ireturn, 1) := by decide +kernel
theorem dJ6_numberOfLeadingZeros_15 : decode cJ6_numberOfLeadingZeros 15 = .ok (.bipush 31, 2) := by decide +kernel
theorem dJ6_numberOfLeadingZeros_17 : decode cJ6_numberOfLeadingZeros 17 = .ok (.istore_n 1, 1) := by decide +kernel
theorem dJ6_numberOfLeadingZeros_18 : decode cJ6_numberOfLeadingZeros 18 = .ok (.iload_n 0, 1) := by decide +kernel
theorem dJ6_numberOfLeadingZeros_19 : decode cJ6_numberOfLeadingZeros 19 = .ok (.ldc_w 264, 3) := by decide +kernel
theorem dJ6_numberOfLeadingZeros_22 : decode cJ6_numberOfLeadingZeros 22 = .ok (.if_icmp .lt 11, 3) := by decide +kernel
theorem dJ6_numberOfLeadingZeros_25 : decode cJ6_numberOfLeadingZeros 25 = .ok (.iinc 1 (-16), 3) := by decide +kernel
theorem dJ6_numberOfLeadingZeros_28 : decode cJ6_numberOfLeadingZeros 28 = .ok (.iload_n 0, 1) := by decide +kernel
theorem dJ6_numberOfLeadingZeros_29 : decode cJ6_numberOfLeadingZeros 29 = .ok (.bipush 16, 2) := by decide +kernel
theorem dJ6_numberOfLeadingZeros_31 : decode cJ6_numberOfLeadingZeros 31 = .ok (.iushr, 1) := by decide +kernel
theorem dJ6_numberOfLeadingZeros_32 : decode cJ6_numberOfLeadingZeros 32 = .ok (.istore_n 0, 1) := by decide +kernel
theorem dJ6_numberOfLeadingZeros_33 : decode cJ6_numberOfLeadingZeros 33 = .ok (.iload_n 0, 1) := by decide +kernel
theorem dJ6_numberOfLeadingZeros_34 : decode cJ6_numberOfLeadingZeros 34 = .ok (.sipush 256, 3) := by decide +kernel
theorem dJ6_numberOfLeadingZeros_37 : decode cJ6_numberOfLeadingZeros 37 = .ok (.if_icmp .lt 11, 3) := by decide +kernel
theorem dJ6_numberOfLeadingZeros_40 : decode cJ6_numberOfLeadingZeros 40 = .ok (.iinc 1 (-8), 3) := by decide +kernel
theorem dJ6_numberOfLeadingZeros_43 : decode cJ6_numberOfLeadingZeros 43 = .ok (.iload_n 0, 1) := by decide +kernel
theorem dJ6_numberOfLeadingZeros_44 : decode cJ6_numberOfLeadingZeros 44 = .ok (.bipush 8, 2) := by decide +kernel
theorem dJ6_numberOfLeadingZeros_46 : decode cJ6_numberOfLeadingZeros 46 = .ok (.iushr, 1) := by decide +kernel
theorem dJ6_numberOfLeadingZeros_47 : decode cJ6_numberOfLeadingZeros 47 = .ok (.istore_n 0, 1) := by decide +kernel
theorem dJ6_numberOfLeadingZeros_48 : decode cJ6_numberOfLeadingZeros 48 = .ok (.iload_n 0, 1) := by decide +kernel
theorem dJ6_numberOfLeadingZeros_49 : decode cJ6_numberOfLeadingZeros 49 = .ok (.bipush 16, 2) := by decide +kernel
theorem dJ6_numberOfLeadingZeros_51 : decode cJ6_numberOfLeadingZeros 51 = .ok (.if_icmp .lt 10, 3) := by decide +kernel
theorem dJ6_numberOfLeadingZeros_54 : decode cJ6_numberOfLeadingZeros 54 = .ok (.iinc 1 (-4), 3) := by decide +kernel
theorem dJ6_numberOfLeadingZeros_57 : decode cJ6_numberOfLeadingZeros 57 = .ok (.iload_n 0, 1) := by decide +kernel
theorem dJ6_numberOfLeadingZeros_58 : decode cJ6_numberOfLeadingZeros 58 = .ok (.iconst 4, 1) := by decide +kernel
theorem dJ6_numberOfLeadingZeros_59 : decode cJ6_numberOfLeadingZeros 59 = .ok (.iushr, 1) := by decide +kernel
theorem dJ6_numberOfLeadingZeros_60 : decode cJ6_numberOfLeadingZeros 60 = .ok (.istore_n 0, 1) := by decide +kernel
theorem dJ6_numberOfLeadingZeros_61 : decode cJ6_numberOfLeadingZeros 61 = .ok (.iload_n 0, 1) := by decide +kernel
theorem dJ6_numberOfLeadingZeros_62 : decode cJ6_numberOfLeadingZeros 62 = .ok (.iconst 4, 1) := by decide +kernel
theorem dJ6_numberOfLeadingZeros_63 : decode cJ6_numberOfLeadingZeros 63 = .ok (.if_icmp .lt 10, 3) := by decide +kernel
theorem dJ6_numberOfLeadingZeros_66 : decode cJ6_numberOfLeadingZeros 66 = .ok (.iinc 1 (-2), 3) := by decide +kernel
theorem dJ6_numberOfLeadingZeros_69 : decode cJ6_numberOfLeadingZeros 69 = .ok (.iload_n 0, 1) := by decide +kernel
theorem dJ6_numberOfLeadingZeros_70 : decode cJ6_numberOfLeadingZeros 70 = .ok (.iconst 2, 1) := by decide +kernel
theorem dJ6_numberOfLeadingZeros_71 : decode cJ6_numberOfLeadingZeros 71 = .ok (.iushr, 1) := by decide +kernel
theorem dJ6_numberOfLeadingZeros_72 : decode cJ6_numberOfLeadingZeros 72 = .ok (.istore_n 0, 1) := by decide +kernel
theorem dJ6_numberOfLeadingZeros_73 : decode cJ6_numberOfLeadingZeros 73 = .ok (.iload_n 1, 1) := by decide +kernel
theorem dJ6_numberOfLeadingZeros_74 : decode cJ6_numberOfLeadingZeros 74 = .ok (.iload_n 0, 1) := by decide +kernel
theorem dJ6_numberOfLeadingZeros_75 : decode cJ6_numberOfLeadingZeros 75 = .ok (.iconst 1, 1) := by decide +kernel
theorem dJ6_numberOfLeadingZeros_76 : decode cJ6_numberOfLeadingZeros 76 = .ok (.iushr, 1) := by decide +kernel
theorem dJ6_numberOfLeadingZeros_77 : decode cJ6_numberOfLeadingZeros 77 = .ok (.isub, 1) := by decide +kernel
theorem dJ6_numberOfLeadingZeros_78 : decode cJ6_numberOfLeadingZeros 78 = .ok (.ireturn, 1) := by decide +kernel
theorem dX2_findsAny_0 : decode cX2_findsAny 0 = .ok (.aload_n 0, 1) := by decide +kernel
theorem dX2_findsAny_1 : decode cX2_findsAny 1 = .ok (.iconst 0, 1) := by decide +kernel
theorem dX2_findsAny_2 : decode cX2_findsAny 2 = .ok (.invokevirtual 128, 3) := by decide +kernel
theorem dX2_findsAny_5 : decode cX2_findsAny 5 = .ok (.ireturn, 1) := by decide +kernel
theorem dX2_canPutFrom_0 : decode cX2_canPutFrom 0 = .ok (.iload_n 1, 1) := by decide +kernel
theorem dX2_canPutFrom_1 : decode cX2_canPutFrom 1 = .ok (.aload_n 0, 1) := by decide +kernel
theorem dX2_canPutFrom_2 : decode cX2_canPutFrom 2 = .ok (.getfield 45, 3) := by decide +kernel
theorem dX2_canPutFrom_5 : decode cX2_canPutFrom 5 = .ok (.if_icmp .lt 5, 3) := by decide +kernel
theorem dX2_canPutFrom_8 : decode cX2_canPutFrom 8 = .ok (.iconst 1, 1) := by decide +kernel
theorem dX2_canPutFrom_9 : decode cX2_canPutFrom 9 = .ok (.ireturn, 1) := by decide +kernel
theorem dX2_canPutFrom_10 : decode cX2_canPutFrom 10 = .ok (.aload_n 0, 1) := by decide +kernel
theorem dX2_canPutFrom_11 : decode cX2_canPutFrom 11 = .ok (.getfield 30, 3) := by decide +kernel
theorem dX2_canPutFrom_14 : decode cX2_canPutFrom 14 = .ok (.iload_n 1, 1) := by decide +kernel
theorem dX2_canPutFrom_15 : decode cX2_canPutFrom 15 = .ok (.iconst 4, 1) := by decide +kernel
theorem dX2_canPutFrom_16 : decode cX2_canPutFrom 16 = .ok (.imul, 1) := by decide +kernel
theorem dX2_canPutFrom_17 : decode cX2_canPutFrom 17 = .ok (.iload_n 1, 1) := by decide +kernel
theorem dX2_canPutFrom_18 : decode cX2_canPutFrom 18 = .ok (.iadd, 1) := by decide +kernel
theorem dX2_canPutFrom_19 : decode cX2_canPutFrom 19 = .ok (.iaload, 1) := by decide +kernel
theorem dX2_canPutFrom_20 : decode cX2_canPutFrom 20 = .ok (.istore_n 2, 1) := by decide +kernel
theorem dX2_canPutFrom_21 : decode cX2_canPutFrom 21 = .ok (.iconst 0, 1) := by decide +kernel
theorem dX2_canPutFrom_22 : decode cX2_canPutFrom 22 = .ok (.istore_n 3, 1) := by decide +kernel
theorem dX2_canPutFrom_23 : decode cX2_canPutFrom 23 = .ok (.iload_n 3, 1) := by decide +kernel
theorem dX2_canPutFrom_24 : decode cX2_canPutFrom 24 = .ok (.bipush 30, 2) := by decide +kernel
theorem dX2_canPutFrom_26 : decode cX2_canPutFrom 26 = .ok (.if_icmp .ge 50, 3) := by decide +kernel
theorem dX2_canPutFrom_29 : decode cX2_canPutFrom 29 = .ok (.iload_n 2, 1) := by decide +kernel
theorem dX2_canPutFrom_30 : decode cX2_canPutFrom 30 = .ok (.iload_n 3, 1) := by decide +kernel
theorem dX2_canPutFrom_31 : decode cX2_canPutFrom 31 = .ok (.ishr, 1) := by decide +kernel
theorem dX2_canPutFrom_32 : decode cX2_canPutFrom 32 = .ok (.iconst 1, 1) := by decide +kernel
theorem dX2_canPutFrom_33 : decode cX2_canPutFrom 33 = .ok (.iand, 1) := by decide +kernel
theorem dX2_canPutFrom_34 : decode cX2_canPutFrom 34 = .ok (.ifCond .eq 7, 3) := by decide +kernel
theorem dX2_canPutFrom_37 : decode cX2_canPutFrom 37 = .ok (.iconst 1, 1) := by decide +kernel
theorem dX2_canPutFrom_38 : decode cX2_canPutFrom 38 = .ok (.goto 4, 3) := by decide +kernel
theorem dX2_canPutFrom_41 : decode cX2_canPutFrom 41 = .ok (.iconst 0, 1) := by decide +kernel
theorem dX2_canPutFrom_42 : decode cX2_canPutFrom 42 = .ok (.istore 4, 2) := by decide +kernel
theorem dX2_canPutFrom_44 : decode cX2_canPutFrom 44 = .ok (.iload 4, 2) := by decide +kernel
theorem dX2_canPutFrom_46 : decode cX2_canPutFrom 46 = .ok (.ifCond .eq 24, 3) := by decide +kernel
theorem dX2_canPutFrom_49 : decode cX2_canPutFrom 49 = .ok (.aload_n 0, 1) := by decide +kernel
theorem dX2_canPutFrom_50 : decode cX2_canPutFrom 50 = .ok (.iload_n 1, 1) := by decide +kernel
theorem dX2_canPutFrom_51 : decode cX2_canPutFrom 51 = .ok (.iload_n 3, 1) := by decide +kernel
theorem dX2_canPutFrom_52 : decode cX2_canPutFrom 52 = .ok (.invokevirtual 136, 3) := by decide +kernel
theorem dX2_canPutFrom_55 : decode cX2_canPutFrom 55 = .ok (.ifCond .eq 15, 3) := by decide +kernel
theorem dX2_canPutFrom_58 : decode cX2_canPutFrom 58 = .ok (.aload_n 0, 1) := by decide +kernel
theorem dX2_canPutFrom_59 : decode cX2_canPutFrom 59 = .ok (.iload_n 1, 1) := by decide +kernel
theorem dX2_canPutFrom_60 : decode cX2_canPutFrom 60 = .ok (.iconst 1, 1) := by decide +kernel
theorem dX2_canPutFrom_61 : decode cX2_canPutFrom 61 = .ok (.iadd, 1) := by decide +kernel
theorem dX2_canPutFrom_62 : decode cX2_canPutFrom 62 = .ok (.invokevirtual 128, 3) := by decide +kernel
theorem dX2_canPutFrom_65 : decode cX2_canPutFrom 65 = .ok (.ifCond .eq 5, 3) := by decide +kernel
theorem dX2_canPutFrom_68 : decode cX2_canPutFrom 68 = .ok (.iconst 1, 1) := by decide +kernel
theorem dX2_canPutFrom_69 : decode cX2_canPutFrom 69 = .ok (.ireturn, 1) := by decide +kernel
theorem dX2_canPutFrom_70 : decode cX2_canPutFrom 70 = .ok (.iinc 3 1, 3) := by decide +kernel
theorem dX2_canPutFrom_73 : decode cX2_canPutFrom 73 = .ok (.goto (-50), 3) := by decide +kernel
theorem dX2_canPutFrom_76 : decode cX2_canPutFrom 76 = .ok (.iconst 0, 1) := by decide +kernel
theorem dX2_canPutFrom_77 : decode cX2_canPutFrom 77 = .ok (.ireturn, 1) := by decide +kernel
theorem dX2_leavesRoom_0 : decode cX2_leavesRoom 0 = .ok (.iload_n 1, 1) := by decide +kernel
theorem dX2_leavesRoom_1 : decode cX2_leavesRoom 1 = .ok (.iconst 4, 1) := by decide +kernel
theorem dX2_leavesRoom_2 : decode cX2_leavesRoom 2 = .ok (.imul, 1) := by decide +kernel
theorem dX2_leavesRoom_3 : decode cX2_leavesRoom 3 = .ok (.istore_n 3, 1) := by decide +kernel
theorem dX2_leavesRoom_4 : decode cX2_leavesRoom 4 = .ok (.iload_n 1, 1) := by decide +kernel
theorem dX2_leavesRoom_5 : decode cX2_leavesRoom 5 = .ok (.iconst 1, 1) := by decide +kernel
theorem dX2_leavesRoom_6 : decode cX2_leavesRoom 6 = .ok (.iadd, 1) := by decide +kernel
theorem dX2_leavesRoom_7 : decode cX2_leavesRoom 7 = .ok (.istore 4, 2) := by decide +kernel
theorem dX2_leavesRoom_9 : decode cX2_leavesRoom 9 = .ok (.iload 4, 2) := by decide +kernel
theorem dX2_leavesRoom_11 : decode cX2_leavesRoom 11 = .ok (.aload_n 0, 1) := by decide +kernel
theorem dX2_leavesRoom_12 : decode cX2_leavesRoom 12 = .ok (.getfield 45, 3) := by decide +kernel
theorem dX2_leavesRoom_15 : decode cX2_leavesRoom 15 = .ok (.if_icmp .ge 49, 3) := by decide +kernel
theorem dX2_leavesRoom_18 : decode cX2_leavesRoom 18 = .ok (.aload_n 0, 1) := by decide +kernel
theorem dX2_leavesRoom_19 : decode cX2_leavesRoom 19 = .ok (.getfield 30, 3) := by decide +kernel
theorem dX2_leavesRoom_22 : decode cX2_leavesRoom 22 = .ok (.iload_n 3, 1) := by decide +kernel
theorem dX2_leavesRoom_23 : decode cX2_leavesRoom 23 = .ok (.iload 4, 2) := by decide +kernel
theorem dX2_leavesRoom_25 : decode cX2_leavesRoom 25 = .ok (.iadd, 1) := by decide +kernel
theorem dX2_leavesRoom_26 : decode cX2_leavesRoom 26 = .ok (.iaload, 1) := by decide +kernel
theorem dX2_leavesRoom_27 : decode cX2_leavesRoom 27 = .ok (.aload_n 0, 1) := by decide +kernel
theorem dX2_leavesRoom_28 : decode cX2_leavesRoom 28 = .ok (.iload_n 1, 1) := by decide +kernel
theorem dX2_leavesRoom_29 : decode cX2_leavesRoom 29 = .ok (.iload_n 2, 1) := by decide +kernel
theorem dX2_leavesRoom_30 : decode cX2_leavesRoom 30 = .ok (.iload 4, 2) := by decide +kernel
theorem dX2_leavesRoom_32 : decode cX2_leavesRoom 32 = .ok (.invokevirtual 152, 3) := by decide +kernel
theorem dX2_leavesRoom_35 : decode cX2_leavesRoom 35 = .ok (.iand, 1) := by decide +kernel
theorem dX2_leavesRoom_36 : decode cX2_leavesRoom 36 = .ok (.istore 5, 2) := by decide +kernel
theorem dX2_leavesRoom_38 : decode cX2_leavesRoom 38 = .ok (.iload 5, 2) := by decide +kernel
theorem dX2_leavesRoom_40 : decode cX2_leavesRoom 40 = .ok (.ifCond .ne 5, 3) := by decide +kernel
theorem dX2_leavesRoom_43 : decode cX2_leavesRoom 43 = .ok (.iconst 0, 1) := by decide +kernel
theorem dX2_leavesRoom_44 : decode cX2_leavesRoom 44 = .ok (.ireturn, 1) := by decide +kernel
theorem dX2_leavesRoom_45 : decode cX2_leavesRoom 45 = .ok (.aload_n 0, 1) := by decide +kernel
theorem dX2_leavesRoom_46 : decode cX2_leavesRoom 46 = .ok (.getfield 30, 3) := by decide +kernel
theorem dX2_leavesRoom_49 : decode cX2_leavesRoom 49 = .ok (.iload_n 3, 1) := by decide +kernel
theorem dX2_leavesRoom_50 : decode cX2_leavesRoom 50 = .ok (.iconst 4, 1) := by decide +kernel
theorem dX2_leavesRoom_51 : decode cX2_leavesRoom 51 = .ok (.iadd, 1) := by decide +kernel
theorem dX2_leavesRoom_52 : decode cX2_leavesRoom 52 = .ok (.iload 4, 2) := by decide +kernel
theorem dX2_leavesRoom_54 : decode cX2_leavesRoom 54 = .ok (.iadd, 1) := by decide +kernel
theorem dX2_leavesRoom_55 : decode cX2_leavesRoom 55 = .ok (.iload 5, 2) := by decide +kernel
theorem dX2_leavesRoom_57 : decode cX2_leavesRoom 57 = .ok (.iastore, 1) := by decide +kernel
theorem dX2_leavesRoom_58 : decode cX2_leavesRoom 58 = .ok (.iinc 4 1, 3) := by decide +kernel
theorem dX2_leavesRoom_61 : decode cX2_leavesRoom 61 = .ok (.goto (-52), 3) := by decide +kernel
theorem dX2_leavesRoom_64 : decode cX2_leavesRoom 64 = .ok (.iconst 1, 1) := by decide +kernel
theorem dX2_leavesRoom_65 : decode cX2_leavesRoom 65 = .ok (.ireturn, 1) := by decide +kernel
theorem dX2_openBeside_0 : decode cX2_openBeside 0 = .ok (.iload_n 2, 1) := by decide +kernel
theorem dX2_openBeside_1 : decode cX2_openBeside 1 = .ok (.invokestatic 65, 3) := by decide +kernel
theorem dX2_openBeside_4 : decode cX2_openBeside 4 = .ok (.istore 4, 2) := by decide +kernel
theorem dX2_openBeside_6 : decode cX2_openBeside 6 = .ok (.iload 4, 2) := by decide +kernel
theorem dX2_openBeside_8 : decode cX2_openBeside 8 = .ok (.aload_n 0, 1) := by decide +kernel
theorem dX2_openBeside_9 : decode cX2_openBeside 9 = .ok (.getfield 15, 3) := by decide +kernel
theorem dX2_openBeside_12 : decode cX2_openBeside 12 = .ok (.iload_n 1, 1) := by decide +kernel
theorem dX2_openBeside_13 : decode cX2_openBeside 13 = .ok (.iaload, 1) := by decide +kernel
theorem dX2_openBeside_14 : decode cX2_openBeside 14 = .ok (.iadd, 1) := by decide +kernel
theorem dX2_openBeside_15 : decode cX2_openBeside 15 = .ok (.istore 5, 2) := by decide +kernel
theorem dX2_openBeside_17 : decode cX2_openBeside 17 = .ok (.iload 5, 2) := by decide +kernel
theorem dX2_openBeside_19 : decode cX2_openBeside 19 = .ok (.aload_n 0, 1) := by decide +kernel
theorem dX2_openBeside_20 : decode cX2_openBeside 20 = .ok (.getfield 24, 3) := by decide +kernel
theorem dX2_openBeside_23 : decode cX2_openBeside 23 = .ok (.iload_n 3, 1) := by decide +kernel
theorem dX2_openBeside_24 : decode cX2_openBeside 24 = .ok (.iconst 4, 1) := by decide +kernel
theorem dX2_openBeside_25 : decode cX2_openBeside 25 = .ok (.imul, 1) := by decide +kernel
theorem dX2_openBeside_26 : decode cX2_openBeside 26 = .ok (.iload_n 1, 1) := by decide +kernel
theorem dX2_openBeside_27 : decode cX2_openBeside 27 = .ok (.iadd, 1) := by decide +kernel
theorem dX2_openBeside_28 : decode cX2_openBeside 28 = .ok (.iaload, 1) := by decide +kernel
theorem dX2_openBeside_29 : decode cX2_openBeside 29 = .ok (.iadd, 1) := by decide +kernel
theorem dX2_openBeside_30 : decode cX2_openBeside 30 = .ok (.istore 6, 2) := by decide +kernel
theorem dX2_openBeside_32 : decode cX2_openBeside 32 = .ok (.iload 4, 2) := by decide +kernel
theorem dX2_openBeside_34 : decode cX2_openBeside 34 = .ok (.aload_n 0, 1) := by decide +kernel
theorem dX2_openBeside_35 : decode cX2_openBeside 35 = .ok (.getfield 24, 3) := by decide +kernel
theorem dX2_openBeside_38 : decode cX2_openBeside 38 = .ok (.iload_n 1, 1) := by decide +kernel
theorem dX2_openBeside_39 : decode cX2_openBeside 39 = .ok (.iconst 4, 1) := by decide +kernel
theorem dX2_openBeside_40 : decode cX2_openBeside 40 = .ok (.imul, 1) := by decide +kernel
theorem dX2_openBeside_41 : decode cX2_openBeside 41 = .ok (.iload_n 3, 1) := by decide +kernel
theorem dX2_openBeside_42 : decode cX2_openBeside 42 = .ok (.iadd, 1) := by decide +kernel
theorem dX2_openBeside_43 : decode cX2_openBeside 43 = .ok (.iaload, 1) := by decide +kernel
theorem dX2_openBeside_44 : decode cX2_openBeside 44 = .ok (.isub, 1) := by decide +kernel
theorem dX2_openBeside_45 : decode cX2_openBeside 45 = .ok (.aload_n 0, 1) := by decide +kernel
theorem dX2_openBeside_46 : decode cX2_openBeside 46 = .ok (.getfield 15, 3) := by decide +kernel
theorem dX2_openBeside_49 : decode cX2_openBeside 49 = .ok (.iload_n 3, 1) := by decide +kernel
theorem dX2_openBeside_50 : decode cX2_openBeside 50 = .ok (.iaload, 1) := by decide +kernel
theorem dX2_openBeside_51 : decode cX2_openBeside 51 = .ok (.isub, 1) := by decide +kernel
theorem dX2_openBeside_52 : decode cX2_openBeside 52 = .ok (.istore 7, 2) := by decide +kernel
theorem dX2_openBeside_54 : decode cX2_openBeside 54 = .ok (.aload_n 0, 1) := by decide +kernel
theorem dX2_openBeside_55 : decode cX2_openBeside 55 = .ok (.getfield 27, 3) := by decide +kernel
theorem dX2_openBeside_58 : decode cX2_openBeside 58 = .ok (.iload_n 1, 1) := by decide +kernel
theorem dX2_openBeside_59 : decode cX2_openBeside 59 = .ok (.iaload, 1) := by decide +kernel
theorem dX2_openBeside_60 : decode cX2_openBeside 60 = .ok (.iload_n 3, 1) := by decide +kernel
theorem dX2_openBeside_61 : decode cX2_openBeside 61 = .ok (.ishr, 1) := by decide +kernel
theorem dX2_openBeside_62 : decode cX2_openBeside 62 = .ok (.iconst 1, 1) := by decide +kernel
theorem dX2_openBeside_63 : decode cX2_openBeside 63 = .ok (.iand, 1) := by decide +kernel
theorem dX2_openBeside_64 : decode cX2_openBeside 64 = .ok (.ifCond .ne 7, 3) := by decide +kernel
theorem dX2_openBeside_67 : decode cX2_openBeside 67 = .ok (.iconst 1, 1) := by decide +kernel
theorem dX2_openBeside_68 : decode cX2_openBeside 68 = .ok (.goto 4, 3) := by decide +kernel
theorem dX2_openBeside_71 : decode cX2_openBeside 71 = .ok (.iconst 0, 1) := by decide +kernel
theorem dX2_openBeside_72 : decode cX2_openBeside 72 = .ok (.istore 8, 2) := by decide +kernel
theorem dX2_openBeside_74 : decode cX2_openBeside 74 = .ok (.iload 8, 2) := by decide +kernel
theorem dX2_openBeside_76 : decode cX2_openBeside 76 = .ok (.ifCond .eq 24, 3) := by decide +kernel
theorem dX2_openBeside_79 : decode cX2_openBeside 79 = .ok (.iload 4, 2) := by decide +kernel
theorem dX2_openBeside_81 : decode cX2_openBeside 81 = .ok (.aload_n 0, 1) := by decide +kernel
theorem dX2_openBeside_82 : decode cX2_openBeside 82 = .ok (.getfield 15, 3) := by decide +kernel
theorem dX2_openBeside_85 : decode cX2_openBeside 85 = .ok (.iload_n 3, 1) := by decide +kernel
theorem dX2_openBeside_86 : decode cX2_openBeside 86 = .ok (.iaload, 1) := by decide +kernel
theorem dX2_openBeside_87 : decode cX2_openBeside 87 = .ok (.isub, 1) := by decide +kernel
theorem dX2_openBeside_88 : decode cX2_openBeside 88 = .ok (.iconst 1, 1) := by decide +kernel
theorem dX2_openBeside_89 : decode cX2_openBeside 89 = .ok (.iadd, 1) := by decide +kernel
theorem dX2_openBeside_90 : decode cX2_openBeside 90 = .ok (.iload 5, 2) := by decide +kernel
theorem dX2_openBeside_92 : decode cX2_openBeside 92 = .ok (.iconst 1, 1) := by decide +kernel
theorem dX2_openBeside_93 : decode cX2_openBeside 93 = .ok (.isub, 1) := by decide +kernel
theorem dX2_openBeside_94 : decode cX2_openBeside 94 = .ok (.invokestatic 50, 3) := by decide +kernel
theorem dX2_openBeside_97 : decode cX2_openBeside 97 = .ok (.goto 6, 3) := by decide +kernel
theorem dX2_openBeside_100 : decode cX2_openBeside 100 = .ok (.sipush 1023, 3) := by decide +kernel
theorem dX2_openBeside_103 : decode cX2_openBeside 103 = .ok (.istore 9, 2) := by decide +kernel
theorem dX2_openBeside_105 : decode cX2_openBeside 105 = .ok (.iload 6, 2) := by decide +kernel
theorem dX2_openBeside_107 : decode cX2_openBeside 107 = .ok (.iload 7, 2) := by decide +kernel
theorem dX2_openBeside_109 : decode cX2_openBeside 109 = .ok (.invokestatic 50, 3) := by decide +kernel
theorem dX2_openBeside_112 : decode cX2_openBeside 112 = .ok (.invokestatic 108, 3) := by decide +kernel
theorem dX2_openBeside_115 : decode cX2_openBeside 115 = .ok (.iload 9, 2) := by decide +kernel
theorem dX2_openBeside_117 : decode cX2_openBeside 117 = .ok (.iload_n 2, 1) := by decide +kernel
theorem dX2_openBeside_118 : decode cX2_openBeside 118 = .ok (.invokestatic 149, 3) := by decide +kernel
theorem dX2_openBeside_121 : decode cX2_openBeside 121 = .ok (.bipush 10, 2) := by decide +kernel
theorem dX2_openBeside_123 : decode cX2_openBeside 123 = .ok (.imul, 1) := by decide +kernel
theorem dX2_openBeside_124 : decode cX2_openBeside 124 = .ok (.ishl, 1) := by decide +kernel
theorem dX2_openBeside_125 : decode cX2_openBeside 125 = .ok (.iconst (-1), 1) := by decide +kernel
theorem dX2_openBeside_126 : decode cX2_openBeside 126 = .ok (.ixor, 1) := by decide +kernel
theorem dX2_openBeside_127 : decode cX2_openBeside 127 = .ok (.iand, 1) := by decide +kernel
theorem dX2_openBeside_128 : decode cX2_openBeside 128 = .ok (.ireturn, 1) := by decide +kernel
theorem dX4_tankOfPlace_0 : decode cX4_tankOfPlace 0 = .ok (.iload_n 0, 1) := by decide +kernel
theorem dX4_tankOfPlace_1 : decode cX4_tankOfPlace 1 = .ok (.bipush 10, 2) := by decide +kernel
theorem dX4_tankOfPlace_3 : decode cX4_tankOfPlace 3 = .ok (.idiv, 1) := by decide +kernel
theorem dX4_tankOfPlace_4 : decode cX4_tankOfPlace 4 = .ok (.ireturn, 1) := by decide +kernel
theorem dX4_firstBar_0 : decode cX4_firstBar 0 = .ok (.iconst 0, 1) := by decide +kernel
theorem dX4_firstBar_1 : decode cX4_firstBar 1 = .ok (.istore_n 1, 1) := by decide +kernel
theorem dX4_firstBar_2 : decode cX4_firstBar 2 = .ok (.iload_n 1, 1) := by decide +kernel
theorem dX4_firstBar_3 : decode cX4_firstBar 3 = .ok (.aload_n 0, 1) := by decide +kernel
theorem dX4_firstBar_4 : decode cX4_firstBar 4 = .ok (.getfield 19, 3) := by decide +kernel
theorem dX4_firstBar_7 : decode cX4_firstBar 7 = .ok (.getfield 167, 3) := by decide +kernel
theorem dX4_firstBar_10 : decode cX4_firstBar 10 = .ok (.if_icmp .ge 33, 3) := by decide +kernel
theorem dX4_firstBar_13 : decode cX4_firstBar 13 = .ok (.aload_n 0, 1) := by decide +kernel
theorem dX4_firstBar_14 : decode cX4_firstBar 14 = .ok (.getfield 26, 3) := by decide +kernel
theorem dX4_firstBar_17 : decode cX4_firstBar 17 = .ok (.aload_n 0, 1) := by decide +kernel
theorem dX4_firstBar_18 : decode cX4_firstBar 18 = .ok (.getfield 19, 3) := by decide +kernel
theorem dX4_firstBar_21 : decode cX4_firstBar 21 = .ok (.iload_n 1, 1) := by decide +kernel
theorem dX4_firstBar_22 : decode cX4_firstBar 22 = .ok (.invokevirtual 117, 3) := by decide +kernel
theorem dX4_firstBar_25 : decode cX4_firstBar 25 = .ok (.aload_n 0, 1) := by decide +kernel
theorem dX4_firstBar_26 : decode cX4_firstBar 26 = .ok (.getfield 26, 3) := by decide +kernel
theorem dX4_firstBar_29 : decode cX4_firstBar 29 = .ok (.invokevirtual 121, 3) := by decide +kernel
theorem dX4_firstBar_32 : decode cX4_firstBar 32 = .ok (.ifCond .eq 5, 3) := by decide +kernel
theorem dX4_firstBar_35 : decode cX4_firstBar 35 = .ok (.iload_n 1, 1) := by decide +kernel
theorem dX4_firstBar_36 : decode cX4_firstBar 36 = .ok (.ireturn, 1) := by decide +kernel
theorem dX4_firstBar_37 : decode cX4_firstBar 37 = .ok (.iinc 1 1, 3) := by decide +kernel
theorem dX4_firstBar_40 : decode cX4_firstBar 40 = .ok (.goto (-38), 3) := by decide +kernel
theorem dX4_firstBar_43 : decode cX4_firstBar 43 = .ok (.aload_n 0, 1) := by decide +kernel
theorem dX4_firstBar_44 : decode cX4_firstBar 44 = .ok (.getfield 19, 3) := by decide +kernel
theorem dX4_firstBar_47 : decode cX4_firstBar 47 = .ok (.getfield 167, 3) := by decide +kernel
theorem dX4_firstBar_50 : decode cX4_firstBar 50 = .ok (.ireturn, 1) := by decide +kernel
theorem dX2_findsBest_0 : decode cX2_findsBest 0 = .ok (.iconst 0, 1) := by decide +kernel
theorem dX2_findsBest_1 : decode cX2_findsBest 1 = .ok (.istore_n 2, 1) := by decide +kernel
theorem dX2_findsBest_2 : decode cX2_findsBest 2 = .ok (.iload_n 2, 1) := by decide +kernel
theorem dX2_findsBest_3 : decode cX2_findsBest 3 = .ok (.iload_n 1, 1) := by decide +kernel
theorem dX2_findsBest_4 : decode cX2_findsBest 4 = .ok (.if_icmp .gt 37, 3) := by decide +kernel
theorem dX2_findsBest_7 : decode cX2_findsBest 7 = .ok (.iload_n 2, 1) := by decide +kernel
theorem dX2_findsBest_8 : decode cX2_findsBest 8 = .ok (.iconst 1, 1) := by decide +kernel
theorem dX2_findsBest_9 : decode cX2_findsBest 9 = .ok (.iadd, 1) := by decide +kernel
theorem dX2_findsBest_10 : decode cX2_findsBest 10 = .ok (.bipush 64, 2) := by decide +kernel
theorem dX2_findsBest_12 : decode cX2_findsBest 12 = .ok (.imul, 1) := by decide +kernel
theorem dX2_findsBest_13 : decode cX2_findsBest 13 = .ok (.istore_n 3, 1) := by decide +kernel
theorem dX2_findsBest_14 : decode cX2_findsBest 14 = .ok (.aload_n 0, 1) := by decide +kernel
theorem dX2_findsBest_15 : decode cX2_findsBest 15 = .ok (.iload_n 3, 1) := by decide +kernel
theorem dX2_findsBest_16 : decode cX2_findsBest 16 = .ok (.putfield 36, 3) := by decide +kernel
theorem dX2_findsBest_19 : decode cX2_findsBest 19 = .ok (.aload_n 0, 1) := by decide +kernel
theorem dX2_findsBest_20 : decode cX2_findsBest 20 = .ok (.iconst 0, 1) := by decide +kernel
theorem dX2_findsBest_21 : decode cX2_findsBest 21 = .ok (.iconst 0, 1) := by decide +kernel
theorem dX2_findsBest_22 : decode cX2_findsBest 22 = .ok (.invokevirtual 132, 3) := by decide +kernel
theorem dX2_findsBest_25 : decode cX2_findsBest 25 = .ok (.aload_n 0, 1) := by decide +kernel
theorem dX2_findsBest_26 : decode cX2_findsBest 26 = .ok (.getfield 36, 3) := by decide +kernel
theorem dX2_findsBest_29 : decode cX2_findsBest 29 = .ok (.iload_n 3, 1) := by decide +kernel
theorem dX2_findsBest_30 : decode cX2_findsBest 30 = .ok (.if_icmp .ge 5, 3) := by decide +kernel
theorem dX2_findsBest_33 : decode cX2_findsBest 33 = .ok (.iconst 1, 1) := by decide +kernel
theorem dX2_findsBest_34 : decode cX2_findsBest 34 = .ok (.ireturn, 1) := by decide +kernel
theorem dX2_findsBest_35 : decode cX2_findsBest 35 = .ok (.iinc 2 1, 3) := by decide +kernel
theorem dX2_findsBest_38 : decode cX2_findsBest 38 = .ok (.goto (-36), 3) := by decide +kernel
theorem dX2_findsBest_41 : decode cX2_findsBest 41 = .ok (.iconst 0, 1) := by decide +kernel
theorem dX2_findsBest_42 : decode cX2_findsBest 42 = .ok (.ireturn, 1) := by decide +kernel
theorem dX2_putBetter_0 : decode cX2_putBetter 0 = .ok (.iload_n 2, 1) := by decide +kernel
theorem dX2_putBetter_1 : decode cX2_putBetter 1 = .ok (.aload_n 0, 1) := by decide +kernel
theorem dX2_putBetter_2 : decode cX2_putBetter 2 = .ok (.iload_n 1, 1) := by decide +kernel
theorem dX2_putBetter_3 : decode cX2_putBetter 3 = .ok (.invokevirtual 140, 3) := by decide +kernel
theorem dX2_putBetter_6 : decode cX2_putBetter 6 = .ok (.iadd, 1) := by decide +kernel
theorem dX2_putBetter_7 : decode cX2_putBetter 7 = .ok (.aload_n 0, 1) := by decide +kernel
theorem dX2_putBetter_8 : decode cX2_putBetter 8 = .ok (.getfield 36, 3) := by decide +kernel
theorem dX2_putBetter_11 : decode cX2_putBetter 11 = .ok (.if_icmp .lt 4, 3) := by decide +kernel
theorem dX2_putBetter_14 : decode cX2_putBetter 14 = .ok (.return_, 1) := by decide +kernel
theorem dX2_putBetter_15 : decode cX2_putBetter 15 = .ok (.iload_n 1, 1) := by decide +kernel
theorem dX2_putBetter_16 : decode cX2_putBetter 16 = .ok (.aload_n 0, 1) := by decide +kernel
theorem dX2_putBetter_17 : decode cX2_putBetter 17 = .ok (.getfield 45, 3) := by decide +kernel
theorem dX2_putBetter_20 : decode cX2_putBetter 20 = .ok (.if_icmp .lt 26, 3) := by decide +kernel
theorem dX2_putBetter_23 : decode cX2_putBetter 23 = .ok (.aload_n 0, 1) := by decide +kernel
theorem dX2_putBetter_24 : decode cX2_putBetter 24 = .ok (.iload_n 2, 1) := by decide +kernel
theorem dX2_putBetter_25 : decode cX2_putBetter 25 = .ok (.putfield 36, 3) := by decide +kernel
theorem dX2_putBetter_28 : decode cX2_putBetter 28 = .ok (.aload_n 0, 1) := by decide +kernel
theorem dX2_putBetter_29 : decode cX2_putBetter 29 = .ok (.getfield 33, 3) := by decide +kernel
theorem dX2_putBetter_32 : decode cX2_putBetter 32 = .ok (.iconst 0, 1) := by decide +kernel
theorem dX2_putBetter_33 : decode cX2_putBetter 33 = .ok (.aload_n 0, 1) := by decide +kernel
theorem dX2_putBetter_34 : decode cX2_putBetter 34 = .ok (.getfield 9, 3) := by decide +kernel
theorem dX2_putBetter_37 : decode cX2_putBetter 37 = .ok (.iconst 0, 1) := by decide +kernel
theorem dX2_putBetter_38 : decode cX2_putBetter 38 = .ok (.aload_n 0, 1) := by decide +kernel
theorem dX2_putBetter_39 : decode cX2_putBetter 39 = .ok (.getfield 45, 3) := by decide +kernel
theorem dX2_putBetter_42 : decode cX2_putBetter 42 = .ok (.invokestatic 75, 3) := by decide +kernel
theorem dX2_putBetter_45 : decode cX2_putBetter 45 = .ok (.return_, 1) := by decide +kernel
theorem dX2_putBetter_46 : decode cX2_putBetter 46 = .ok (.aload_n 0, 1) := by decide +kernel
theorem dX2_putBetter_47 : decode cX2_putBetter 47 = .ok (.getfield 30, 3) := by decide +kernel
theorem dX2_putBetter_50 : decode cX2_putBetter 50 = .ok (.iload_n 1, 1) := by decide +kernel
theorem dX2_putBetter_51 : decode cX2_putBetter 51 = .ok (.iconst 4, 1) := by decide +kernel
theorem dX2_putBetter_52 : decode cX2_putBetter 52 = .ok (.imul, 1) := by decide +kernel
theorem dX2_putBetter_53 : decode cX2_putBetter 53 = .ok (.iload_n 1, 1) := by decide +kernel
theorem dX2_putBetter_54 : decode cX2_putBetter 54 = .ok (.iadd, 1) := by decide +kernel
theorem dX2_putBetter_55 : decode cX2_putBetter 55 = .ok (.iaload, 1) := by decide +kernel
theorem dX2_putBetter_56 : decode cX2_putBetter 56 = .ok (.istore_n 3, 1) := by decide +kernel
theorem dX2_putBetter_57 : decode cX2_putBetter 57 = .ok (.iconst 0, 1) := by decide +kernel
theorem dX2_putBetter_58 : decode cX2_putBetter 58 = .ok (.istore 4, 2) := by decide +kernel
theorem dX2_putBetter_60 : decode cX2_putBetter 60 = .ok (.iload 4, 2) := by decide +kernel
theorem dX2_putBetter_62 : decode cX2_putBetter 62 = .ok (.bipush 30, 2) := by decide +kernel
theorem dX2_putBetter_64 : decode cX2_putBetter 64 = .ok (.if_icmp .ge 65, 3) := by decide +kernel
theorem dX2_putBetter_67 : decode cX2_putBetter 67 = .ok (.iload_n 3, 1) := by decide +kernel
theorem dX2_putBetter_68 : decode cX2_putBetter 68 = .ok (.iload 4, 2) := by decide +kernel
theorem dX2_putBetter_70 : decode cX2_putBetter 70 = .ok (.ishr, 1) := by decide +kernel
theorem dX2_putBetter_71 : decode cX2_putBetter 71 = .ok (.iconst 1, 1) := by decide +kernel
theorem dX2_putBetter_72 : decode cX2_putBetter 72 = .ok (.iand, 1) := by decide +kernel
theorem dX2_putBetter_73 : decode cX2_putBetter 73 = .ok (.ifCond .eq 50, 3) := by decide +kernel
theorem dX2_putBetter_76 : decode cX2_putBetter 76 = .ok (.iload_n 2, 1) := by decide +kernel
theorem dX2_putBetter_77 : decode cX2_putBetter 77 = .ok (.aload_n 0, 1) := by decide +kernel
theorem dX2_putBetter_78 : decode cX2_putBetter 78 = .ok (.iload_n 1, 1) := by decide +kernel
theorem dX2_putBetter_79 : decode cX2_putBetter 79 = .ok (.iload 4, 2) := by decide +kernel
theorem dX2_putBetter_81 : decode cX2_putBetter 81 = .ok (.invokevirtual 143, 3) := by decide +kernel
theorem dX2_putBetter_84 : decode cX2_putBetter 84 = .ok (.iadd, 1) := by decide +kernel
theorem dX2_putBetter_85 : decode cX2_putBetter 85 = .ok (.istore 5, 2) := by decide +kernel
theorem dX2_putBetter_87 : decode cX2_putBetter 87 = .ok (.iload 5, 2) := by decide +kernel
theorem dX2_putBetter_89 : decode cX2_putBetter 89 = .ok (.aload_n 0, 1) := by decide +kernel
theorem dX2_putBetter_90 : decode cX2_putBetter 90 = .ok (.getfield 36, 3) := by decide +kernel
theorem dX2_putBetter_93 : decode cX2_putBetter 93 = .ok (.if_icmp .ge 30, 3) := by decide +kernel
theorem dX2_putBetter_96 : decode cX2_putBetter 96 = .ok (.aload_n 0, 1) := by decide +kernel
theorem dX2_putBetter_97 : decode cX2_putBetter 97 = .ok (.iload_n 1, 1) := by decide +kernel
theorem dX2_putBetter_98 : decode cX2_putBetter 98 = .ok (.iload 4, 2) := by decide +kernel
theorem dX2_putBetter_100 : decode cX2_putBetter 100 = .ok (.invokevirtual 136, 3) := by decide +kernel
theorem dX2_putBetter_103 : decode cX2_putBetter 103 = .ok (.ifCond .eq 20, 3) := by decide +kernel
theorem dX2_putBetter_106 : decode cX2_putBetter 106 = .ok (.aload_n 0, 1) := by decide +kernel
theorem dX2_putBetter_107 : decode cX2_putBetter 107 = .ok (.getfield 33, 3) := by decide +kernel
theorem dX2_putBetter_110 : decode cX2_putBetter 110 = .ok (.iload_n 1, 1) := by decide +kernel
theorem dX2_putBetter_111 : decode cX2_putBetter 111 = .ok (.iload 4, 2) := by decide +kernel
theorem dX2_putBetter_113 : decode cX2_putBetter 113 = .ok (.iastore, 1) := by decide +kernel
theorem dX2_putBetter_114 : decode cX2_putBetter 114 = .ok (.aload_n 0, 1) := by decide +kernel
theorem dX2_putBetter_115 : decode cX2_putBetter 115 = .ok (.iload_n 1, 1) := by decide +kernel
theorem dX2_putBetter_116 : decode cX2_putBetter 116 = .ok (.iconst 1, 1) := by decide +kernel
theorem dX2_putBetter_117 : decode cX2_putBetter 117 = .ok (.iadd, 1) := by decide +kernel
theorem dX2_putBetter_118 : decode cX2_putBetter 118 = .ok (.iload 5, 2) := by decide +kernel
theorem dX2_putBetter_120 : decode cX2_putBetter 120 = .ok (.invokevirtual 132, 3) := by decide +kernel
theorem dX2_putBetter_123 : decode cX2_putBetter 123 = .ok (.iinc 4 1, 3) := by decide +kernel
theorem dX2_putBetter_126 : decode cX2_putBetter 126 = .ok (.goto (-66), 3) := by decide +kernel
theorem dX2_putBetter_129 : decode cX2_putBetter 129 = .ok (.return_, 1) := by decide +kernel
theorem dX2_leastWeightFrom_0 : decode cX2_leastWeightFrom 0 = .ok (.iconst 0, 1) := by decide +kernel
theorem dX2_leastWeightFrom_1 : decode cX2_leastWeightFrom 1 = .ok (.istore_n 2, 1) := by decide +kernel
theorem dX2_leastWeightFrom_2 : decode cX2_leastWeightFrom 2 = .ok (.iload_n 1, 1) := by decide +kernel
theorem dX2_leastWeightFrom_3 : decode cX2_leastWeightFrom 3 = .ok (.istore_n 3, 1) := by decide +kernel
theorem dX2_leastWeightFrom_4 : decode cX2_leastWeightFrom 4 = .ok (.iload_n 3, 1) := by decide +kernel
theorem dX2_leastWeightFrom_5 : decode cX2_leastWeightFrom 5 = .ok (.aload_n 0, 1) := by decide +kernel
theorem dX2_leastWeightFrom_6 : decode cX2_leastWeightFrom 6 = .ok (.getfield 45, 3) := by decide +kernel
theorem dX2_leastWeightFrom_9 : decode cX2_leastWeightFrom 9 = .ok (.if_icmp .ge 34, 3) := by decide +kernel
theorem dX2_leastWeightFrom_12 : decode cX2_leastWeightFrom 12 = .ok (.aload_n 0, 1) := by decide +kernel
theorem dX2_leastWeightFrom_13 : decode cX2_leastWeightFrom 13 = .ok (.getfield 30, 3) := by decide +kernel
theorem dX2_leastWeightFrom_16 : decode cX2_leastWeightFrom 16 = .ok (.iload_n 1, 1) := by decide +kernel
theorem dX2_leastWeightFrom_17 : decode cX2_leastWeightFrom 17 = .ok (.iconst 4, 1) := by decide +kernel
theorem dX2_leastWeightFrom_18 : decode cX2_leastWeightFrom 18 = .ok (.imul, 1) := by decide +kernel
theorem dX2_leastWeightFrom_19 : decode cX2_leastWeightFrom 19 = .ok (.iload_n 3, 1) := by decide +kernel
theorem dX2_leastWeightFrom_20 : decode cX2_leastWeightFrom 20 = .ok (.iadd, 1) := by decide +kernel
theorem dX2_leastWeightFrom_21 : decode cX2_leastWeightFrom 21 = .ok (.iaload, 1) := by decide +kernel
theorem dX2_leastWeightFrom_22 : decode cX2_leastWeightFrom 22 = .ok (.aload_n 0, 1) := by decide +kernel
theorem dX2_leastWeightFrom_23 : decode cX2_leastWeightFrom 23 = .ok (.getfield 18, 3) := by decide +kernel
theorem dX2_leastWeightFrom_26 : decode cX2_leastWeightFrom 26 = .ok (.iload_n 3, 1) := by decide +kernel
theorem dX2_leastWeightFrom_27 : decode cX2_leastWeightFrom 27 = .ok (.iaload, 1) := by decide +kernel
theorem dX2_leastWeightFrom_28 : decode cX2_leastWeightFrom 28 = .ok (.ishr, 1) := by decide +kernel
theorem dX2_leastWeightFrom_29 : decode cX2_leastWeightFrom 29 = .ok (.iconst 1, 1) := by decide +kernel
theorem dX2_leastWeightFrom_30 : decode cX2_leastWeightFrom 30 = .ok (.iand, 1) := by decide +kernel
theorem dX2_leastWeightFrom_31 : decode cX2_leastWeightFrom 31 = .ok (.ifCond .ne 6, 3) := by decide +kernel
theorem dX2_leastWeightFrom_34 : decode cX2_leastWeightFrom 34 = .ok (.iinc 2 65, 3) := by decide +kernel
theorem dX2_leastWeightFrom_37 : decode cX2_leastWeightFrom 37 = .ok (.iinc 3 1, 3) := by decide +kernel
theorem dX2_leastWeightFrom_40 : decode cX2_leastWeightFrom 40 = .ok (.goto (-36), 3) := by decide +kernel
theorem dX2_leastWeightFrom_43 : decode cX2_leastWeightFrom 43 = .ok (.iload_n 2, 1) := by decide +kernel
theorem dX2_leastWeightFrom_44 : decode cX2_leastWeightFrom 44 = .ok (.ireturn, 1) := by decide +kernel
theorem dX2_weightAt_0 : decode cX2_weightAt 0 = .ok (.aload_n 0, 1) := by decide +kernel
theorem dX2_weightAt_1 : decode cX2_weightAt 1 = .ok (.getfield 18, 3) := by decide +kernel
theorem dX2_weightAt_4 : decode cX2_weightAt 4 = .ok (.iload_n 1, 1) := by decide +kernel
theorem dX2_weightAt_5 : decode cX2_weightAt 5 = .ok (.iaload, 1) := by decide +kernel
theorem dX2_weightAt_6 : decode cX2_weightAt 6 = .ok (.istore_n 3, 1) := by decide +kernel
theorem dX2_weightAt_7 : decode cX2_weightAt 7 = .ok (.iload_n 2, 1) := by decide +kernel
theorem dX2_weightAt_8 : decode cX2_weightAt 8 = .ok (.iload_n 3, 1) := by decide +kernel
theorem dX2_weightAt_9 : decode cX2_weightAt 9 = .ok (.if_icmp .ne 5, 3) := by decide +kernel
theorem dX2_weightAt_12 : decode cX2_weightAt 12 = .ok (.iconst 0, 1) := by decide +kernel
theorem dX2_weightAt_13 : decode cX2_weightAt 13 = .ok (.ireturn, 1) := by decide +kernel
theorem dX2_weightAt_14 : decode cX2_weightAt 14 = .ok (.iload_n 2, 1) := by decide +kernel
theorem dX2_weightAt_15 : decode cX2_weightAt 15 = .ok (.invokestatic 65, 3) := by decide +kernel
theorem dX2_weightAt_18 : decode cX2_weightAt 18 = .ok (.iload_n 3, 1) := by decide +kernel
theorem dX2_weightAt_19 : decode cX2_weightAt 19 = .ok (.invokestatic 65, 3) := by decide +kernel
theorem dX2_weightAt_22 : decode cX2_weightAt 22 = .ok (.isub, 1) := by decide +kernel
theorem dX2_weightAt_23 : decode cX2_weightAt 23 = .ok (.invokestatic 146, 3) := by decide +kernel
theorem dX2_weightAt_26 : decode cX2_weightAt 26 = .ok (.istore 4, 2) := by decide +kernel
theorem dX2_weightAt_28 : decode cX2_weightAt 28 = .ok (.bipush 64, 2) := by decide +kernel
theorem dX2_weightAt_30 : decode cX2_weightAt 30 = .ok (.iload 4, 2) := by decide +kernel
theorem dX2_weightAt_32 : decode cX2_weightAt 32 = .ok (.iadd, 1) := by decide +kernel
theorem dX2_weightAt_33 : decode cX2_weightAt 33 = .ok (.iload_n 2, 1) := by decide +kernel
theorem dX2_weightAt_34 : decode cX2_weightAt 34 = .ok (.invokestatic 149, 3) := by decide +kernel
theorem dX2_weightAt_37 : decode cX2_weightAt 37 = .ok (.iload_n 3, 1) := by decide +kernel
theorem dX2_weightAt_38 : decode cX2_weightAt 38 = .ok (.invokestatic 149, 3) := by decide +kernel
theorem dX2_weightAt_41 : decode cX2_weightAt 41 = .ok (.if_icmp .ne 7, 3) := by decide +kernel
theorem dX2_weightAt_44 : decode cX2_weightAt 44 = .ok (.iconst 0, 1) := by decide +kernel
theorem dX2_weightAt_45 : decode cX2_weightAt 45 = .ok (.goto 4, 3) := by decide +kernel
theorem dX2_weightAt_48 : decode cX2_weightAt 48 = .ok (.iconst 3, 1) := by decide +kernel
theorem dX2_weightAt_49 : decode cX2_weightAt 49 = .ok (.iadd, 1) := by decide +kernel
theorem dX2_weightAt_50 : decode cX2_weightAt 50 = .ok (.ireturn, 1) := by decide +kernel
theorem dX4_adoptFound_0 : decode cX4_adoptFound 0 = .ok (.aload_n 0, 1) := by decide +kernel
theorem dX4_adoptFound_1 : decode cX4_adoptFound 1 = .ok (.getfield 35, 3) := by decide +kernel
theorem dX4_adoptFound_4 : decode cX4_adoptFound 4 = .ok (.invokevirtual 153, 3) := by decide +kernel
theorem dX4_adoptFound_7 : decode cX4_adoptFound 7 = .ok (.ifCond .eq 10, 3) := by decide +kernel
theorem dX4_adoptFound_10 : decode cX4_adoptFound 10 = .ok (.aload_n 0, 1) := by decide +kernel
theorem dX4_adoptFound_11 : decode cX4_adoptFound 11 = .ok (.getfield 35, 3) := by decide +kernel
theorem dX4_adoptFound_14 : decode cX4_adoptFound 14 = .ok (.invokevirtual 170, 3) := by decide +kernel
theorem dX4_adoptFound_17 : decode cX4_adoptFound 17 = .ok (.aload_n 0, 1) := by decide +kernel
theorem dX4_adoptFound_18 : decode cX4_adoptFound 18 = .ok (.getfield 35, 3) := by decide +kernel
theorem dX4_adoptFound_21 : decode cX4_adoptFound 21 = .ok (.aload_n 0, 1) := by decide +kernel
theorem dX4_adoptFound_22 : decode cX4_adoptFound 22 = .ok (.getfield 12, 3) := by decide +kernel
theorem dX4_adoptFound_25 : decode cX4_adoptFound 25 = .ok (.invokevirtual 154, 3) := by decide +kernel
theorem dX4_adoptFound_28 : decode cX4_adoptFound 28 = .ok (.istore_n 1, 1) := by decide +kernel
theorem dX4_adoptFound_29 : decode cX4_adoptFound 29 = .ok (.aload_n 0, 1) := by decide +kernel
theorem dX4_adoptFound_30 : decode cX4_adoptFound 30 = .ok (.getfield 12, 3) := by decide +kernel
theorem dX4_adoptFound_33 : decode cX4_adoptFound 33 = .ok (.aload_n 0, 1) := by decide +kernel
theorem dX4_adoptFound_34 : decode cX4_adoptFound 34 = .ok (.getfield 26, 3) := by decide +kernel
theorem dX4_adoptFound_37 : decode cX4_adoptFound 37 = .ok (.getfield 173, 3) := by decide +kernel
theorem dX4_adoptFound_40 : decode cX4_adoptFound 40 = .ok (.invokevirtual 176, 3) := by decide +kernel
theorem dX4_adoptFound_43 : decode cX4_adoptFound 43 = .ok (.aload_n 0, 1) := by decide +kernel
theorem dX4_adoptFound_44 : decode cX4_adoptFound 44 = .ok (.aload_n 0, 1) := by decide +kernel
theorem dX4_adoptFound_45 : decode cX4_adoptFound 45 = .ok (.getfield 35, 3) := by decide +kernel
theorem dX4_adoptFound_48 : decode cX4_adoptFound 48 = .ok (.iload_n 1, 1) := by decide +kernel
theorem dX4_adoptFound_49 : decode cX4_adoptFound 49 = .ok (.aload_n 0, 1) := by decide +kernel
theorem dX4_adoptFound_50 : decode cX4_adoptFound 50 = .ok (.getfield 12, 3) := by decide +kernel
theorem dX4_adoptFound_53 : decode cX4_adoptFound 53 = .ok (.invokevirtual 159, 3) := by decide +kernel
theorem dX4_adoptFound_56 : decode cX4_adoptFound 56 = .ok (.putfield 140, 3) := by decide +kernel
theorem dX4_adoptFound_59 : decode cX4_adoptFound 59 = .ok (.aload_n 0, 1) := by decide +kernel
theorem dX4_adoptFound_60 : decode cX4_adoptFound 60 = .ok (.aload_n 0, 1) := by decide +kernel
theorem dX4_adoptFound_61 : decode cX4_adoptFound 61 = .ok (.getfield 26, 3) := by decide +kernel
theorem dX4_adoptFound_64 : decode cX4_adoptFound 64 = .ok (.invokevirtual 180, 3) := by decide +kernel
theorem dX4_adoptFound_67 : decode cX4_adoptFound 67 = .ok (.putfield 124, 3) := by decide +kernel
theorem dX4_adoptFound_70 : decode cX4_adoptFound 70 = .ok (.aload_n 0, 1) := by decide +kernel
theorem dX4_adoptFound_71 : decode cX4_adoptFound 71 = .ok (.aload_n 0, 1) := by decide +kernel
theorem dX4_adoptFound_72 : decode cX4_adoptFound 72 = .ok (.getfield 26, 3) := by decide +kernel
theorem dX4_adoptFound_75 : decode cX4_adoptFound 75 = .ok (.invokevirtual 183, 3) := by decide +kernel
theorem dX4_adoptFound_78 : decode cX4_adoptFound 78 = .ok (.i2l, 1) := by decide +kernel
theorem dX4_adoptFound_79 : decode cX4_adoptFound 79 = .ok (.putfield 163, 3) := by decide +kernel
theorem dX4_adoptFound_82 : decode cX4_adoptFound 82 = .ok (.return_, 1) := by decide +kernel
theorem dX3_isFull_0 : decode cX3_isFull 0 = .ok (.aload_n 0, 1) := by decide +kernel
theorem dX3_isFull_1 : decode cX3_isFull 1 = .ok (.getfield 28, 3) := by decide +kernel
theorem dX3_isFull_4 : decode cX3_isFull 4 = .ok (.aload_n 0, 1) := by decide +kernel
theorem dX3_isFull_5 : decode cX3_isFull 5 = .ok (.getfield 15, 3) := by decide +kernel
theorem dX3_isFull_8 : decode cX3_isFull 8 = .ok (.if_icmp .lt 7, 3) := by decide +kernel
theorem dX3_isFull_11 : decode cX3_isFull 11 = .ok (.iconst 1, 1) := by decide +kernel
theorem dX3_isFull_12 : decode cX3_isFull 12 = .ok (.goto 4, 3) := by decide +kernel
theorem dX3_isFull_15 : decode cX3_isFull 15 = .ok (.iconst 0, 1) := by decide +kernel
theorem dX3_isFull_16 : decode cX3_isFull 16 = .ok (.ireturn, 1) := by decide +kernel
theorem dX3_dropOldest_0 : decode cX3_dropOldest 0 = .ok (.aload_n 0, 1) := by decide +kernel
theorem dX3_dropOldest_1 : decode cX3_dropOldest 1 = .ok (.dup, 1) := by decide +kernel
theorem dX3_dropOldest_2 : decode cX3_dropOldest 2 = .ok (.getfield 28, 3) := by decide +kernel
theorem dX3_dropOldest_5 : decode cX3_dropOldest 5 = .ok (.iconst 1, 1) := by decide +kernel
theorem dX3_dropOldest_6 : decode cX3_dropOldest 6 = .ok (.isub, 1) := by decide +kernel
theorem dX3_dropOldest_7 : decode cX3_dropOldest 7 = .ok (.putfield 28, 3) := by decide +kernel
theorem dX3_dropOldest_10 : decode cX3_dropOldest 10 = .ok (.aload_n 0, 1) := by decide +kernel
theorem dX3_dropOldest_11 : decode cX3_dropOldest 11 = .ok (.getfield 21, 3) := by decide +kernel
theorem dX3_dropOldest_14 : decode cX3_dropOldest 14 = .ok (.iconst 1, 1) := by decide +kernel
theorem dX3_dropOldest_15 : decode cX3_dropOldest 15 = .ok (.aload_n 0, 1) := by decide +kernel
theorem dX3_dropOldest_16 : decode cX3_dropOldest 16 = .ok (.getfield 21, 3) := by decide +kernel
theorem dX3_dropOldest_19 : decode cX3_dropOldest 19 = .ok (.iconst 0, 1) := by decide +kernel
theorem dX3_dropOldest_20 : decode cX3_dropOldest 20 = .ok (.aload_n 0, 1) := by decide +kernel
theorem dX3_dropOldest_21 : decode cX3_dropOldest 21 = .ok (.getfield 28, 3) := by decide +kernel
theorem dX3_dropOldest_24 : decode cX3_dropOldest 24 = .ok (.invokestatic 35, 3) := by decide +kernel
theorem dX3_dropOldest_27 : decode cX3_dropOldest 27 = .ok (.aload_n 0, 1) := by decide +kernel
theorem dX3_dropOldest_28 : decode cX3_dropOldest 28 = .ok (.getfield 25, 3) := by decide +kernel
theorem dX3_dropOldest_31 : decode cX3_dropOldest 31 = .ok (.iconst 4, 1) := by decide +kernel
theorem dX3_dropOldest_32 : decode cX3_dropOldest 32 = .ok (.aload_n 0, 1) := by decide +kernel
theorem dX3_dropOldest_33 : decode cX3_dropOldest 33 = .ok (.getfield 25, 3) := by decide +kernel
theorem dX3_dropOldest_36 : decode cX3_dropOldest 36 = .ok (.iconst 0, 1) := by decide +kernel
theorem dX3_dropOldest_37 : decode cX3_dropOldest 37 = .ok (.aload_n 0, 1) := by decide +kernel
theorem dX3_dropOldest_38 : decode cX3_dropOldest 38 = .ok (.getfield 28, 3) := by decide +kernel
theorem dX3_dropOldest_41 : decode cX3_dropOldest 41 = .ok (.iconst 4, 1) := by decide +kernel
theorem dX3_dropOldest_42 : decode cX3_dropOldest 42 = .ok (.imul, 1) := by decide +kernel
theorem dX3_dropOldest_43 : decode cX3_dropOldest 43 = .ok (.invokestatic 35, 3) := by decide +kernel
theorem dX3_dropOldest_46 : decode cX3_dropOldest 46 = .ok (.return_, 1) := by decide +kernel
theorem dX3_put_0 : decode cX3_put 0 = .ok (.aload_n 0, 1) := by decide +kernel
theorem dX3_put_1 : decode cX3_put 1 = .ok (.getfield 21, 3) := by decide +kernel
theorem dX3_put_4 : decode cX3_put 4 = .ok (.aload_n 0, 1) := by decide +kernel
theorem dX3_put_5 : decode cX3_put 5 = .ok (.getfield 28, 3) := by decide +kernel
theorem dX3_put_8 : decode cX3_put 8 = .ok (.aload_n 1, 1) := by decide +kernel
theorem dX3_put_9 : decode cX3_put 9 = .ok (.getfield 31, 3) := by decide +kernel
theorem dX3_put_12 : decode cX3_put 12 = .ok (.iastore, 1) := by decide +kernel
theorem dX3_put_13 : decode cX3_put 13 = .ok (.aload_n 1, 1) := by decide +kernel
theorem dX3_put_14 : decode cX3_put 14 = .ok (.getfield 34, 3) := by decide +kernel
theorem dX3_put_17 : decode cX3_put 17 = .ok (.iconst 0, 1) := by decide +kernel
theorem dX3_put_18 : decode cX3_put 18 = .ok (.aload_n 0, 1) := by decide +kernel
theorem dX3_put_19 : decode cX3_put 19 = .ok (.getfield 25, 3) := by decide +kernel
theorem dX3_put_22 : decode cX3_put 22 = .ok (.aload_n 0, 1) := by decide +kernel
theorem dX3_put_23 : decode cX3_put 23 = .ok (.getfield 28, 3) := by decide +kernel
theorem dX3_put_26 : decode cX3_put 26 = .ok (.iconst 4, 1) := by decide +kernel
theorem dX3_put_27 : decode cX3_put 27 = .ok (.imul, 1) := by decide +kernel
theorem dX3_put_28 : decode cX3_put 28 = .ok (.aload_n 1, 1) := by decide +kernel
theorem dX3_put_29 : decode cX3_put 29 = .ok (.getfield 31, 3) := by decide +kernel
theorem dX3_put_32 : decode cX3_put 32 = .ok (.invokestatic 35, 3) := by decide +kernel
theorem dX3_put_35 : decode cX3_put 35 = .ok (.aload_n 0, 1) := by decide +kernel
theorem dX3_put_36 : decode cX3_put 36 = .ok (.dup, 1) := by decide +kernel
theorem dX3_put_37 : decode cX3_put 37 = .ok (.getfield 28, 3) := by decide +kernel
theorem dX3_put_40 : decode cX3_put 40 = .ok (.iconst 1, 1) := by decide +kernel
theorem dX3_put_41 : decode cX3_put 41 = .ok (.iadd, 1) := by decide +kernel
theorem dX3_put_42 : decode cX3_put 42 = .ok (.putfield 28, 3) := by decide +kernel
theorem dX3_put_45 : decode cX3_put 45 = .ok (.aload_n 0, 1) := by decide +kernel
theorem dX3_put_46 : decode cX3_put 46 = .ok (.getfield 28, 3) := by decide +kernel
theorem dX3_put_49 : decode cX3_put 49 = .ok (.iconst 1, 1) := by decide +kernel
theorem dX3_put_50 : decode cX3_put 50 = .ok (.isub, 1) := by decide +kernel
theorem dX3_put_51 : decode cX3_put 51 = .ok (.ireturn, 1) := by decide +kernel
theorem dX0_setPlaces_0 : decode cX0_setPlaces 0 = .ok (.aload_n 1, 1) := by decide +kernel
theorem dX0_setPlaces_1 : decode cX0_setPlaces 1 = .ok (.iconst 0, 1) := by decide +kernel
theorem dX0_setPlaces_2 : decode cX0_setPlaces 2 = .ok (.aload_n 0, 1) := by decide +kernel
theorem dX0_setPlaces_3 : decode cX0_setPlaces 3 = .ok (.getfield 15, 3) := by decide +kernel
theorem dX0_setPlaces_6 : decode cX0_setPlaces 6 = .ok (.iconst 0, 1) := by decide +kernel
theorem dX0_setPlaces_7 : decode cX0_setPlaces 7 = .ok (.aload_n 0, 1) := by decide +kernel
theorem dX0_setPlaces_8 : decode cX0_setPlaces 8 = .ok (.getfield 25, 3) := by decide +kernel
theorem dX0_setPlaces_11 : decode cX0_setPlaces 11 = .ok (.invokestatic 29, 3) := by decide +kernel
theorem dX0_setPlaces_14 : decode cX0_setPlaces 14 = .ok (.return_, 1) := by decide +kernel
theorem dX3_otherPlaces_0 : decode cX3_otherPlaces 0 = .ok (.iconst 0, 1) := by decide +kernel
theorem dX3_otherPlaces_1 : decode cX3_otherPlaces 1 = .ok (.istore_n 3, 1) := by decide +kernel
theorem dX3_otherPlaces_2 : decode cX3_otherPlaces 2 = .ok (.iconst 0, 1) := by decide +kernel
theorem dX3_otherPlaces_3 : decode cX3_otherPlaces 3 = .ok (.istore 4, 2) := by decide +kernel
theorem dX3_otherPlaces_5 : decode cX3_otherPlaces 5 = .ok (.iload 4, 2) := by decide +kernel
theorem dX3_otherPlaces_7 : decode cX3_otherPlaces 7 = .ok (.aload_n 2, 1) := by decide +kernel
theorem dX3_otherPlaces_8 : decode cX3_otherPlaces 8 = .ok (.getfield 31, 3) := by decide +kernel
theorem dX3_otherPlaces_11 : decode cX3_otherPlaces 11 = .ok (.if_icmp .ge 60, 3) := by decide +kernel
theorem dX3_otherPlaces_14 : decode cX3_otherPlaces 14 = .ok (.iload 4, 2) := by decide +kernel
theorem dX3_otherPlaces_16 : decode cX3_otherPlaces 16 = .ok (.aload_n 0, 1) := by decide +kernel
theorem dX3_otherPlaces_17 : decode cX3_otherPlaces 17 = .ok (.getfield 21, 3) := by decide +kernel
theorem dX3_otherPlaces_20 : decode cX3_otherPlaces 20 = .ok (.iload_n 1, 1) := by decide +kernel
theorem dX3_otherPlaces_21 : decode cX3_otherPlaces 21 = .ok (.iaload, 1) := by decide +kernel
theorem dX3_otherPlaces_22 : decode cX3_otherPlaces 22 = .ok (.if_icmp .ge 7, 3) := by decide +kernel
theorem dX3_otherPlaces_25 : decode cX3_otherPlaces 25 = .ok (.iconst 1, 1) := by decide +kernel
theorem dX3_otherPlaces_26 : decode cX3_otherPlaces 26 = .ok (.goto 4, 3) := by decide +kernel
theorem dX3_otherPlaces_29 : decode cX3_otherPlaces 29 = .ok (.iconst 0, 1) := by decide +kernel
theorem dX3_otherPlaces_30 : decode cX3_otherPlaces 30 = .ok (.istore 5, 2) := by decide +kernel
theorem dX3_otherPlaces_32 : decode cX3_otherPlaces 32 = .ok (.iload 5, 2) := by decide +kernel
theorem dX3_otherPlaces_34 : decode cX3_otherPlaces 34 = .ok (.ifCond .eq 24, 3) := by decide +kernel
theorem dX3_otherPlaces_37 : decode cX3_otherPlaces 37 = .ok (.aload_n 0, 1) := by decide +kernel
theorem dX3_otherPlaces_38 : decode cX3_otherPlaces 38 = .ok (.getfield 25, 3) := by decide +kernel
theorem dX3_otherPlaces_41 : decode cX3_otherPlaces 41 = .ok (.iload_n 1, 1) := by decide +kernel
theorem dX3_otherPlaces_42 : decode cX3_otherPlaces 42 = .ok (.iconst 4, 1) := by decide +kernel
theorem dX3_otherPlaces_43 : decode cX3_otherPlaces 43 = .ok (.imul, 1) := by decide +kernel
theorem dX3_otherPlaces_44 : decode cX3_otherPlaces 44 = .ok (.iload 4, 2) := by decide +kernel
theorem dX3_otherPlaces_46 : decode cX3_otherPlaces 46 = .ok (.iadd, 1) := by decide +kernel
theorem dX3_otherPlaces_47 : decode cX3_otherPlaces 47 = .ok (.iaload, 1) := by decide +kernel
theorem dX3_otherPlaces_48 : decode cX3_otherPlaces 48 = .ok (.aload_n 2, 1) := by decide +kernel
theorem dX3_otherPlaces_49 : decode cX3_otherPlaces 49 = .ok (.getfield 34, 3) := by decide +kernel
theorem dX3_otherPlaces_52 : decode cX3_otherPlaces 52 = .ok (.iload 4, 2) := by decide +kernel
theorem dX3_otherPlaces_54 : decode cX3_otherPlaces 54 = .ok (.iaload, 1) := by decide +kernel
theorem dX3_otherPlaces_55 : decode cX3_otherPlaces 55 = .ok (.if_icmp .eq 10, 3) := by decide +kernel
theorem dX3_otherPlaces_58 : decode cX3_otherPlaces 58 = .ok (.iload_n 3, 1) := by decide +kernel
theorem dX3_otherPlaces_59 : decode cX3_otherPlaces 59 = .ok (.iconst 1, 1) := by decide +kernel
theorem dX3_otherPlaces_60 : decode cX3_otherPlaces 60 = .ok (.iload 4, 2) := by decide +kernel
theorem dX3_otherPlaces_62 : decode cX3_otherPlaces 62 = .ok (.ishl, 1) := by decide +kernel
theorem dX3_otherPlaces_63 : decode cX3_otherPlaces 63 = .ok (.ior, 1) := by decide +kernel
theorem dX3_otherPlaces_64 : decode cX3_otherPlaces 64 = .ok (.istore_n 3, 1) := by decide +kernel
theorem dX3_otherPlaces_65 : decode cX3_otherPlaces 65 = .ok (.iinc 4 1, 3) := by decide +kernel
theorem dX3_otherPlaces_68 : decode cX3_otherPlaces 68 = .ok (.goto (-63), 3) := by decide +kernel
theorem dX3_otherPlaces_71 : decode cX3_otherPlaces 71 = .ok (.iload_n 3, 1) := by decide +kernel
theorem dX3_otherPlaces_72 : decode cX3_otherPlaces 72 = .ok (.ireturn, 1) := by decide +kernel
theorem dX2_bestChanges_0 : decode cX2_bestChanges 0 = .ok (.aload_n 0, 1) := by decide +kernel
theorem dX2_bestChanges_1 : decode cX2_bestChanges 1 = .ok (.getfield 36, 3) := by decide +kernel
theorem dX2_bestChanges_4 : decode cX2_bestChanges 4 = .ok (.bipush 64, 2) := by decide +kernel
theorem dX2_bestChanges_6 : decode cX2_bestChanges 6 = .ok (.idiv, 1) := by decide +kernel
theorem dX2_bestChanges_7 : decode cX2_bestChanges 7 = .ok (.ireturn, 1) := by decide +kernel
theorem dX2_bestCost_0 : decode cX2_bestCost 0 = .ok (.aload_n 0, 1) := by decide +kernel
theorem dX2_bestCost_1 : decode cX2_bestCost 1 = .ok (.getfield 36, 3) := by decide +kernel
theorem dX2_bestCost_4 : decode cX2_bestCost 4 = .ok (.bipush 64, 2) := by decide +kernel
theorem dX2_bestCost_6 : decode cX2_bestCost 6 = .ok (.irem, 1) := by decide +kernel
theorem dX2_bestCost_7 : decode cX2_bestCost 7 = .ok (.ireturn, 1) := by decide +kernel
theorem dX4_tankOf_0 : decode cX4_tankOf 0 = .ok (.aload_n 0, 1) := by decide +kernel
theorem dX4_tankOf_1 : decode cX4_tankOf 1 = .ok (.getfield 12, 3) := by decide +kernel
theorem dX4_tankOf_4 : decode cX4_tankOf 4 = .ok (.iload_n 1, 1) := by decide +kernel
theorem dX4_tankOf_5 : decode cX4_tankOf 5 = .ok (.invokevirtual 81, 3) := by decide +kernel
theorem dX4_tankOf_8 : decode cX4_tankOf 8 = .ok (.ifCond .eq 18, 3) := by decide +kernel
theorem dX4_tankOf_11 : decode cX4_tankOf 11 = .ok (.aload_n 0, 1) := by decide +kernel
theorem dX4_tankOf_12 : decode cX4_tankOf 12 = .ok (.getfield 12, 3) := by decide +kernel
theorem dX4_tankOf_15 : decode cX4_tankOf 15 = .ok (.getfield 104, 3) := by decide +kernel
theorem dX4_tankOf_18 : decode cX4_tankOf 18 = .ok (.iload_n 1, 1) := by decide +kernel
theorem dX4_tankOf_19 : decode cX4_tankOf 19 = .ok (.iaload, 1) := by decide +kernel
theorem dX4_tankOf_20 : decode cX4_tankOf 20 = .ok (.invokestatic 137, 3) := by decide +kernel
theorem dX4_tankOf_23 : decode cX4_tankOf 23 = .ok (.goto 4, 3) := by decide +kernel
theorem dX4_tankOf_26 : decode cX4_tankOf 26 = .ok (.iconst (-1), 1) := by decide +kernel
theorem dX4_tankOf_27 : decode cX4_tankOf 27 = .ok (.ireturn, 1) := by decide +kernel
theorem dX4_start_0 : decode cX4_start 0 = .ok (.aload_n 0, 1) := by decide +kernel
theorem dX4_start_1 : decode cX4_start 1 = .ok (.getfield 12, 3) := by decide +kernel
theorem dX4_start_4 : decode cX4_start 4 = .ok (.iload_n 1, 1) := by decide +kernel
theorem dX4_start_5 : decode cX4_start 5 = .ok (.invokevirtual 81, 3) := by decide +kernel
theorem dX4_start_8 : decode cX4_start 8 = .ok (.ifCond .eq 18, 3) := by decide +kernel
theorem dX4_start_11 : decode cX4_start 11 = .ok (.aload_n 0, 1) := by decide +kernel
theorem dX4_start_12 : decode cX4_start 12 = .ok (.getfield 12, 3) := by decide +kernel
theorem dX4_start_15 : decode cX4_start 15 = .ok (.getfield 104, 3) := by decide +kernel
theorem dX4_start_18 : decode cX4_start 18 = .ok (.iload_n 1, 1) := by decide +kernel
theorem dX4_start_19 : decode cX4_start 19 = .ok (.iaload, 1) := by decide +kernel
theorem dX4_start_20 : decode cX4_start 20 = .ok (.invokestatic 107, 3) := by decide +kernel
theorem dX4_start_23 : decode cX4_start 23 = .ok (.goto 4, 3) := by decide +kernel
theorem dX4_start_26 : decode cX4_start 26 = .ok (.iconst (-1), 1) := by decide +kernel
theorem dX4_start_27 : decode cX4_start 27 = .ok (.ireturn, 1) := by decide +kernel
theorem dX4_changed_0 : decode cX4_changed 0 = .ok (.aload_n 0, 1) := by decide +kernel
theorem dX4_changed_1 : decode cX4_changed 1 = .ok (.getfield 140, 3) := by decide +kernel
theorem dX4_changed_4 : decode cX4_changed 4 = .ok (.iload_n 1, 1) := by decide +kernel
theorem dX4_changed_5 : decode cX4_changed 5 = .ok (.invokestatic 143, 3) := by decide +kernel
theorem dX4_changed_8 : decode cX4_changed 8 = .ok (.ireturn, 1) := by decide +kernel
theorem dX4_memberAt_0 : decode cX4_memberAt 0 = .ok (.iconst 0, 1) := by decide +kernel
theorem dX4_memberAt_1 : decode cX4_memberAt 1 = .ok (.istore_n 2, 1) := by decide +kernel
theorem dX4_memberAt_2 : decode cX4_memberAt 2 = .ok (.iconst 0, 1) := by decide +kernel
theorem dX4_memberAt_3 : decode cX4_memberAt 3 = .ok (.istore_n 3, 1) := by decide +kernel
theorem dX4_memberAt_4 : decode cX4_memberAt 4 = .ok (.iload_n 3, 1) := by decide +kernel
theorem dX4_memberAt_5 : decode cX4_memberAt 5 = .ok (.iconst 4, 1) := by decide +kernel
theorem dX4_memberAt_6 : decode cX4_memberAt 6 = .ok (.if_icmp .ge 27, 3) := by decide +kernel
theorem dX4_memberAt_9 : decode cX4_memberAt 9 = .ok (.iload_n 0, 1) := by decide +kernel
theorem dX4_memberAt_10 : decode cX4_memberAt 10 = .ok (.iload_n 3, 1) := by decide +kernel
theorem dX4_memberAt_11 : decode cX4_memberAt 11 = .ok (.ishr, 1) := by decide +kernel
theorem dX4_memberAt_12 : decode cX4_memberAt 12 = .ok (.iconst 1, 1) := by decide +kernel
theorem dX4_memberAt_13 : decode cX4_memberAt 13 = .ok (.iand, 1) := by decide +kernel
theorem dX4_memberAt_14 : decode cX4_memberAt 14 = .ok (.ifCond .eq 13, 3) := by decide +kernel
theorem dX4_memberAt_17 : decode cX4_memberAt 17 = .ok (.iload_n 2, 1) := by decide +kernel
theorem dX4_memberAt_18 : decode cX4_memberAt 18 = .ok (.iload_n 1, 1) := by decide +kernel
theorem dX4_memberAt_19 : decode cX4_memberAt 19 = .ok (.if_icmp .ne 5, 3) := by decide +kernel
theorem dX4_memberAt_22 : decode cX4_memberAt 22 = .ok (.iload_n 3, 1) := by decide +kernel
theorem dX4_memberAt_23 : decode cX4_memberAt 23 = .ok (.ireturn, 1) := by decide +kernel
theorem dX4_memberAt_24 : decode cX4_memberAt 24 = .ok (.iinc 2 1, 3) := by decide +kernel
theorem dX4_memberAt_27 : decode cX4_memberAt 27 = .ok (.iinc 3 1, 3) := by decide +kernel
theorem dX4_memberAt_30 : decode cX4_memberAt 30 = .ok (.goto (-26), 3) := by decide +kernel
theorem dX4_memberAt_33 : decode cX4_memberAt 33 = .ok (.iconst (-1), 1) := by decide +kernel
theorem dX4_memberAt_34 : decode cX4_memberAt 34 = .ok (.ireturn, 1) := by decide +kernel
theorem dX4_bound_0 : decode cX4_bound 0 = .ok (.aload_n 0, 1) := by decide +kernel
theorem dX4_bound_1 : decode cX4_bound 1 = .ok (.getfield 124, 3) := by decide +kernel
theorem dX4_bound_4 : decode cX4_bound 4 = .ok (.ireturn, 1) := by decide +kernel
theorem dX4_undo_0 : decode cX4_undo 0 = .ok (.aload_n 0, 1) := by decide +kernel
theorem dX4_undo_1 : decode cX4_undo 1 = .ok (.getfield 35, 3) := by decide +kernel
theorem dX4_undo_4 : decode cX4_undo 4 = .ok (.invokevirtual 146, 3) := by decide +kernel
theorem dX4_undo_7 : decode cX4_undo 7 = .ok (.ifCond .eq 5, 3) := by decide +kernel
theorem dX4_undo_10 : decode cX4_undo 10 = .ok (.iconst 0, 1) := by decide +kernel
theorem dX4_undo_11 : decode cX4_undo 11 = .ok (.ireturn, 1) := by decide +kernel
theorem dX4_undo_12 : decode cX4_undo 12 = .ok (.aload_n 0, 1) := by decide +kernel
theorem dX4_undo_13 : decode cX4_undo 13 = .ok (.getfield 35, 3) := by decide +kernel
theorem dX4_undo_16 : decode cX4_undo 16 = .ok (.aload_n 0, 1) := by decide +kernel
theorem dX4_undo_17 : decode cX4_undo 17 = .ok (.getfield 12, 3) := by decide +kernel
theorem dX4_undo_20 : decode cX4_undo 20 = .ok (.invokevirtual 149, 3) := by decide +kernel
theorem dX4_undo_23 : decode cX4_undo 23 = .ok (.iconst 1, 1) := by decide +kernel
theorem dX4_undo_24 : decode cX4_undo 24 = .ok (.ireturn, 1) := by decide +kernel
theorem dX3_isEmpty_0 : decode cX3_isEmpty 0 = .ok (.aload_n 0, 1) := by decide +kernel
theorem dX3_isEmpty_1 : decode cX3_isEmpty 1 = .ok (.getfield 28, 3) := by decide +kernel
theorem dX3_isEmpty_4 : decode cX3_isEmpty 4 = .ok (.ifCond .ne 7, 3) := by decide +kernel
theorem dX3_isEmpty_7 : decode cX3_isEmpty 7 = .ok (.iconst 1, 1) := by decide +kernel
theorem dX3_isEmpty_8 : decode cX3_isEmpty 8 = .ok (.goto 4, 3) := by decide +kernel
theorem dX3_isEmpty_11 : decode cX3_isEmpty 11 = .ok (.iconst 0, 1) := by decide +kernel
theorem dX3_isEmpty_12 : decode cX3_isEmpty 12 = .ok (.ireturn, 1) := by decide +kernel
theorem dX3_takeNewestInto_0 : decode cX3_takeNewestInto 0 = .ok (.aload_n 0, 1) := by decide +kernel
theorem dX3_takeNewestInto_1 : decode cX3_takeNewestInto 1 = .ok (.dup, 1) := by decide +kernel
theorem dX3_takeNewestInto_2 : decode cX3_takeNewestInto 2 = .ok (.getfield 28, 3) := by decide +kernel
theorem dX3_takeNewestInto_5 : decode cX3_takeNewestInto 5 = .ok (.iconst 1, 1) := by decide +kernel
theorem dX3_takeNewestInto_6 : decode cX3_takeNewestInto 6 = .ok (.isub, 1) := by decide +kernel
theorem dX3_takeNewestInto_7 : decode cX3_takeNewestInto 7 = .ok (.putfield 28, 3) := by decide +kernel
theorem dX3_takeNewestInto_10 : decode cX3_takeNewestInto 10 = .ok (.aload_n 0, 1) := by decide +kernel
theorem dX3_takeNewestInto_11 : decode cX3_takeNewestInto 11 = .ok (.getfield 25, 3) := by decide +kernel
theorem dX3_takeNewestInto_14 : decode cX3_takeNewestInto 14 = .ok (.aload_n 0, 1) := by decide +kernel
theorem dX3_takeNewestInto_15 : decode cX3_takeNewestInto 15 = .ok (.getfield 28, 3) := by decide +kernel
theorem dX3_takeNewestInto_18 : decode cX3_takeNewestInto 18 = .ok (.iconst 4, 1) := by decide +kernel
