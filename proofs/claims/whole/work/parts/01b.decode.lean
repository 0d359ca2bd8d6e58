theorem dX4_init_0 : decode cX4_init 0 = .ok (.aload_n 0, 1) := by decide +kernel
theorem dX4_init_1 : decode cX4_init 1 = .ok (.invokespecial 3, 3) := by decide +kernel
theorem dX4_init_4 : decode cX4_init 4 = .ok (.aload_n 0, 1) := by decide +kernel
theorem dX4_init_5 : decode cX4_init 5 = .ok (.new 9, 3) := by decide +kernel
theorem dX4_init_8 : decode cX4_init 8 = .ok (.dup, 1) := by decide +kernel
theorem dX4_init_9 : decode cX4_init 9 = .ok (.invokespecial 11, 3) := by decide +kernel
theorem dX4_init_12 : decode cX4_init 12 = .ok (.putfield 12, 3) := by decide +kernel
theorem dX4_init_15 : decode cX4_init 15 = .ok (.aload_n 0, 1) := by decide +kernel
theorem dX4_init_16 : decode cX4_init 16 = .ok (.new 16, 3) := by decide +kernel
theorem dX4_init_19 : decode cX4_init 19 = .ok (.dup, 1) := by decide +kernel
theorem dX4_init_20 : decode cX4_init 20 = .ok (.invokespecial 18, 3) := by decide +kernel
theorem dX4_init_23 : decode cX4_init 23 = .ok (.putfield 19, 3) := by decide +kernel
theorem dX4_init_26 : decode cX4_init 26 = .ok (.aload_n 0, 1) := by decide +kernel
theorem dX4_init_27 : decode cX4_init 27 = .ok (.new 23, 3) := by decide +kernel
theorem dX4_init_30 : decode cX4_init 30 = .ok (.dup, 1) := by decide +kernel
theorem dX4_init_31 : decode cX4_init 31 = .ok (.invokespecial 25, 3) := by decide +kernel
theorem dX4_init_34 : decode cX4_init 34 = .ok (.putfield 26, 3) := by decide +kernel
theorem dX4_init_37 : decode cX4_init 37 = .ok (.aload_n 0, 1) := by decide +kernel
theorem dX4_init_38 : decode cX4_init 38 = .ok (.new 30, 3) := by decide +kernel
theorem dX4_init_41 : decode cX4_init 41 = .ok (.dup, 1) := by decide +kernel
theorem dX4_init_42 : decode cX4_init 42 = .ok (.bipush 16, 2) := by decide +kernel
theorem dX4_init_44 : decode cX4_init 44 = .ok (.invokespecial 32, 3) := by decide +kernel
theorem dX4_init_47 : decode cX4_init 47 = .ok (.putfield 35, 3) := by decide +kernel
theorem dX4_init_50 : decode cX4_init 50 = .ok (.aload_n 0, 1) := by decide +kernel
theorem dX4_init_51 : decode cX4_init 51 = .ok (.new 30, 3) := by decide +kernel
theorem dX4_init_54 : decode cX4_init 54 = .ok (.dup, 1) := by decide +kernel
theorem dX4_init_55 : decode cX4_init 55 = .ok (.bipush 8, 2) := by decide +kernel
theorem dX4_init_57 : decode cX4_init 57 = .ok (.invokespecial 32, 3) := by decide +kernel
theorem dX4_init_60 : decode cX4_init 60 = .ok (.putfield 39, 3) := by decide +kernel
theorem dX4_init_63 : decode cX4_init 63 = .ok (.aload_n 0, 1) := by decide +kernel
theorem dX4_init_64 : decode cX4_init 64 = .ok (.iconst 1, 1) := by decide +kernel
theorem dX4_init_65 : decode cX4_init 65 = .ok (.iload_n 1, 1) := by decide +kernel
theorem dX4_init_66 : decode cX4_init 66 = .ok (.iconst 3, 1) := by decide +kernel
theorem dX4_init_67 : decode cX4_init 67 = .ok (.invokestatic 42, 3) := by decide +kernel
theorem dX4_init_70 : decode cX4_init 70 = .ok (.invokestatic 48, 3) := by decide +kernel
theorem dX4_init_73 : decode cX4_init 73 = .ok (.putfield 51, 3) := by decide +kernel
theorem dX4_init_76 : decode cX4_init 76 = .ok (.aload_n 0, 1) := by decide +kernel
theorem dX4_init_77 : decode cX4_init 77 = .ok (.iconst 1, 1) := by decide +kernel
theorem dX4_init_78 : decode cX4_init 78 = .ok (.iload_n 2, 1) := by decide +kernel
theorem dX4_init_79 : decode cX4_init 79 = .ok (.bipush 10, 2) := by decide +kernel
theorem dX4_init_81 : decode cX4_init 81 = .ok (.invokestatic 42, 3) := by decide +kernel
theorem dX4_init_84 : decode cX4_init 84 = .ok (.invokestatic 48, 3) := by decide +kernel
theorem dX4_init_87 : decode cX4_init 87 = .ok (.putfield 55, 3) := by decide +kernel
theorem dX4_init_90 : decode cX4_init 90 = .ok (.return_, 1) := by decide +kernel
theorem dX0_init_0 : decode cX0_init 0 = .ok (.aload_n 0, 1) := by decide +kernel
theorem dX0_init_1 : decode cX0_init 1 = .ok (.invokespecial 3, 3) := by decide +kernel
theorem dX0_init_4 : decode cX0_init 4 = .ok (.aload_n 0, 1) := by decide +kernel
theorem dX0_init_5 : decode cX0_init 5 = .ok (.iconst 4, 1) := by decide +kernel
theorem dX0_init_6 : decode cX0_init 6 = .ok (.newarray .int, 2) := by decide +kernel
theorem dX0_init_8 : decode cX0_init 8 = .ok (.putfield 9, 3) := by decide +kernel
theorem dX0_init_11 : decode cX0_init 11 = .ok (.aload_n 0, 1) := by decide +kernel
theorem dX0_init_12 : decode cX0_init 12 = .ok (.iconst 4, 1) := by decide +kernel
theorem dX0_init_13 : decode cX0_init 13 = .ok (.newarray .int, 2) := by decide +kernel
theorem dX0_init_15 : decode cX0_init 15 = .ok (.putfield 15, 3) := by decide +kernel
theorem dX0_init_18 : decode cX0_init 18 = .ok (.aload_n 0, 1) := by decide +kernel
theorem dX0_init_19 : decode cX0_init 19 = .ok (.iconst 4, 1) := by decide +kernel
theorem dX0_init_20 : decode cX0_init 20 = .ok (.newarray .int, 2) := by decide +kernel
theorem dX0_init_22 : decode cX0_init 22 = .ok (.putfield 18, 3) := by decide +kernel
theorem dX0_init_25 : decode cX0_init 25 = .ok (.aload_n 0, 1) := by decide +kernel
theorem dX0_init_26 : decode cX0_init 26 = .ok (.iconst 4, 1) := by decide +kernel
theorem dX0_init_27 : decode cX0_init 27 = .ok (.newarray .boolean, 2) := by decide +kernel
theorem dX0_init_29 : decode cX0_init 29 = .ok (.putfield 21, 3) := by decide +kernel
theorem dX0_init_32 : decode cX0_init 32 = .ok (.return_, 1) := by decide +kernel
theorem dX1_init_0 : decode cX1_init 0 = .ok (.aload_n 0, 1) := by decide +kernel
theorem dX1_init_1 : decode cX1_init 1 = .ok (.invokespecial 3, 3) := by decide +kernel
theorem dX1_init_4 : decode cX1_init 4 = .ok (.aload_n 0, 1) := by decide +kernel
theorem dX1_init_5 : decode cX1_init 5 = .ok (.bipush 8, 2) := by decide +kernel
theorem dX1_init_7 : decode cX1_init 7 = .ok (.newarray .int, 2) := by decide +kernel
theorem dX1_init_9 : decode cX1_init 9 = .ok (.putfield 9, 3) := by decide +kernel
theorem dX1_init_12 : decode cX1_init 12 = .ok (.aload_n 0, 1) := by decide +kernel
theorem dX1_init_13 : decode cX1_init 13 = .ok (.bipush 8, 2) := by decide +kernel
theorem dX1_init_15 : decode cX1_init 15 = .ok (.newarray .int, 2) := by decide +kernel
theorem dX1_init_17 : decode cX1_init 17 = .ok (.putfield 15, 3) := by decide +kernel
theorem dX1_init_20 : decode cX1_init 20 = .ok (.aload_n 0, 1) := by decide +kernel
theorem dX1_init_21 : decode cX1_init 21 = .ok (.bipush 8, 2) := by decide +kernel
theorem dX1_init_23 : decode cX1_init 23 = .ok (.newarray .int, 2) := by decide +kernel
theorem dX1_init_25 : decode cX1_init 25 = .ok (.putfield 18, 3) := by decide +kernel
theorem dX1_init_28 : decode cX1_init 28 = .ok (.aload_n 0, 1) := by decide +kernel
theorem dX1_init_29 : decode cX1_init 29 = .ok (.bipush 8, 2) := by decide +kernel
theorem dX1_init_31 : decode cX1_init 31 = .ok (.newarray .int, 2) := by decide +kernel
theorem dX1_init_33 : decode cX1_init 33 = .ok (.putfield 21, 3) := by decide +kernel
theorem dX1_init_36 : decode cX1_init 36 = .ok (.return_, 1) := by decide +kernel
theorem dX2_init_0 : decode cX2_init 0 = .ok (.aload_n 0, 1) := by decide +kernel
theorem dX2_init_1 : decode cX2_init 1 = .ok (.invokespecial 3, 3) := by decide +kernel
theorem dX2_init_4 : decode cX2_init 4 = .ok (.aload_n 0, 1) := by decide +kernel
theorem dX2_init_5 : decode cX2_init 5 = .ok (.iconst 4, 1) := by decide +kernel
theorem dX2_init_6 : decode cX2_init 6 = .ok (.newarray .int, 2) := by decide +kernel
theorem dX2_init_8 : decode cX2_init 8 = .ok (.putfield 9, 3) := by decide +kernel
theorem dX2_init_11 : decode cX2_init 11 = .ok (.aload_n 0, 1) := by decide +kernel
theorem dX2_init_12 : decode cX2_init 12 = .ok (.iconst 4, 1) := by decide +kernel
theorem dX2_init_13 : decode cX2_init 13 = .ok (.newarray .int, 2) := by decide +kernel
theorem dX2_init_15 : decode cX2_init 15 = .ok (.putfield 15, 3) := by decide +kernel
theorem dX2_init_18 : decode cX2_init 18 = .ok (.aload_n 0, 1) := by decide +kernel
theorem dX2_init_19 : decode cX2_init 19 = .ok (.iconst 4, 1) := by decide +kernel
theorem dX2_init_20 : decode cX2_init 20 = .ok (.newarray .int, 2) := by decide +kernel
theorem dX2_init_22 : decode cX2_init 22 = .ok (.putfield 18, 3) := by decide +kernel
theorem dX2_init_25 : decode cX2_init 25 = .ok (.aload_n 0, 1) := by decide +kernel
theorem dX2_init_26 : decode cX2_init 26 = .ok (.iconst 4, 1) := by decide +kernel
theorem dX2_init_27 : decode cX2_init 27 = .ok (.newarray .int, 2) := by decide +kernel
theorem dX2_init_29 : decode cX2_init 29 = .ok (.putfield 21, 3) := by decide +kernel
theorem dX2_init_32 : decode cX2_init 32 = .ok (.aload_n 0, 1) := by decide +kernel
theorem dX2_init_33 : decode cX2_init 33 = .ok (.bipush 16, 2) := by decide +kernel
theorem dX2_init_35 : decode cX2_init 35 = .ok (.newarray .int, 2) := by decide +kernel
theorem dX2_init_37 : decode cX2_init 37 = .ok (.putfield 24, 3) := by decide +kernel
theorem dX2_init_40 : decode cX2_init 40 = .ok (.aload_n 0, 1) := by decide +kernel
theorem dX2_init_41 : decode cX2_init 41 = .ok (.iconst 4, 1) := by decide +kernel
theorem dX2_init_42 : decode cX2_init 42 = .ok (.newarray .int, 2) := by decide +kernel
theorem dX2_init_44 : decode cX2_init 44 = .ok (.putfield 27, 3) := by decide +kernel
theorem dX2_init_47 : decode cX2_init 47 = .ok (.aload_n 0, 1) := by decide +kernel
theorem dX2_init_48 : decode cX2_init 48 = .ok (.bipush 16, 2) := by decide +kernel
theorem dX2_init_50 : decode cX2_init 50 = .ok (.newarray .int, 2) := by decide +kernel
theorem dX2_init_52 : decode cX2_init 52 = .ok (.putfield 30, 3) := by decide +kernel
theorem dX2_init_55 : decode cX2_init 55 = .ok (.aload_n 0, 1) := by decide +kernel
theorem dX2_init_56 : decode cX2_init 56 = .ok (.iconst 4, 1) := by decide +kernel
theorem dX2_init_57 : decode cX2_init 57 = .ok (.newarray .int, 2) := by decide +kernel
theorem dX2_init_59 : decode cX2_init 59 = .ok (.putfield 33, 3) := by decide +kernel
theorem dX2_init_62 : decode cX2_init 62 = .ok (.return_, 1) := by decide +kernel
theorem dX3_init_0 : decode cX3_init 0 = .ok (.aload_n 0, 1) := by decide +kernel
theorem dX3_init_1 : decode cX3_init 1 = .ok (.invokespecial 3, 3) := by decide +kernel
theorem dX3_init_4 : decode cX3_init 4 = .ok (.aload_n 0, 1) := by decide +kernel
theorem dX3_init_5 : decode cX3_init 5 = .ok (.iload_n 1, 1) := by decide +kernel
theorem dX3_init_6 : decode cX3_init 6 = .ok (.iconst 1, 1) := by decide +kernel
theorem dX3_init_7 : decode cX3_init 7 = .ok (.invokestatic 9, 3) := by decide +kernel
theorem dX3_init_10 : decode cX3_init 10 = .ok (.putfield 15, 3) := by decide +kernel
theorem dX3_init_13 : decode cX3_init 13 = .ok (.aload_n 0, 1) := by decide +kernel
theorem dX3_init_14 : decode cX3_init 14 = .ok (.aload_n 0, 1) := by decide +kernel
theorem dX3_init_15 : decode cX3_init 15 = .ok (.getfield 15, 3) := by decide +kernel
theorem dX3_init_18 : decode cX3_init 18 = .ok (.newarray .int, 2) := by decide +kernel
theorem dX3_init_20 : decode cX3_init 20 = .ok (.putfield 21, 3) := by decide +kernel
theorem dX3_init_23 : decode cX3_init 23 = .ok (.aload_n 0, 1) := by decide +kernel
theorem dX3_init_24 : decode cX3_init 24 = .ok (.aload_n 0, 1) := by decide +kernel
theorem dX3_init_25 : decode cX3_init 25 = .ok (.getfield 15, 3) := by decide +kernel
theorem dX3_init_28 : decode cX3_init 28 = .ok (.iconst 4, 1) := by decide +kernel
theorem dX3_init_29 : decode cX3_init 29 = .ok (.imul, 1) := by decide +kernel
theorem dX3_init_30 : decode cX3_init 30 = .ok (.newarray .int, 2) := by decide +kernel
theorem dX3_init_32 : decode cX3_init 32 = .ok (.putfield 25, 3) := by decide +kernel
theorem dX3_init_35 : decode cX3_init 35 = .ok (.return_, 1) := by decide +kernel
theorem dX4_batch_0 : decode cX4_batch 0 = .ok (.aload_n 0, 1) := by decide +kernel
theorem dX4_batch_1 : decode cX4_batch 1 = .ok (.iload_n 1, 1) := by decide +kernel
theorem dX4_batch_2 : decode cX4_batch 2 = .ok (.invokevirtual 58, 3) := by decide +kernel
theorem dX4_batch_5 : decode cX4_batch 5 = .ok (.ifCond .eq 12, 3) := by decide +kernel
theorem dX4_batch_8 : decode cX4_batch 8 = .ok (.aload_n 0, 1) := by decide +kernel
theorem dX4_batch_9 : decode cX4_batch 9 = .ok (.iload_n 2, 1) := by decide +kernel
theorem dX4_batch_10 : decode cX4_batch 10 = .ok (.iload_n 3, 1) := by decide +kernel
theorem dX4_batch_11 : decode cX4_batch 11 = .ok (.invokevirtual 62, 3) := by decide +kernel
theorem dX4_batch_14 : decode cX4_batch 14 = .ok (.ifCond .ne 5, 3) := by decide +kernel
theorem dX4_batch_17 : decode cX4_batch 17 = .ok (.iconst (-1), 1) := by decide +kernel
theorem dX4_batch_18 : decode cX4_batch 18 = .ok (.ireturn, 1) := by decide +kernel
theorem dX4_batch_19 : decode cX4_batch 19 = .ok (.aload_n 0, 1) := by decide +kernel
theorem dX4_batch_20 : decode cX4_batch 20 = .ok (.getfield 12, 3) := by decide +kernel
theorem dX4_batch_23 : decode cX4_batch 23 = .ok (.invokevirtual 66, 3) := by decide +kernel
theorem dX4_batch_26 : decode cX4_batch 26 = .ok (.ifCond .eq 8, 3) := by decide +kernel
theorem dX4_batch_29 : decode cX4_batch 29 = .ok (.bipush (-2), 2) := by decide +kernel
theorem dX4_batch_31 : decode cX4_batch 31 = .ok (.goto 17, 3) := by decide +kernel
theorem dX4_batch_34 : decode cX4_batch 34 = .ok (.aload_n 0, 1) := by decide +kernel
theorem dX4_batch_35 : decode cX4_batch 35 = .ok (.getfield 12, 3) := by decide +kernel
theorem dX4_batch_38 : decode cX4_batch 38 = .ok (.iload_n 1, 1) := by decide +kernel
theorem dX4_batch_39 : decode cX4_batch 39 = .ok (.bipush 10, 2) := by decide +kernel
theorem dX4_batch_41 : decode cX4_batch 41 = .ok (.imul, 1) := by decide +kernel
theorem dX4_batch_42 : decode cX4_batch 42 = .ok (.iload_n 2, 1) := by decide +kernel
theorem dX4_batch_43 : decode cX4_batch 43 = .ok (.iadd, 1) := by decide +kernel
theorem dX4_batch_44 : decode cX4_batch 44 = .ok (.iload_n 3, 1) := by decide +kernel
theorem dX4_batch_45 : decode cX4_batch 45 = .ok (.invokevirtual 70, 3) := by decide +kernel
theorem dX4_batch_48 : decode cX4_batch 48 = .ok (.ireturn, 1) := by decide +kernel
theorem dX4_isTank_0 : decode cX4_isTank 0 = .ok (.iload_n 1, 1) := by decide +kernel
theorem dX4_isTank_1 : decode cX4_isTank 1 = .ok (.ifCond .lt 15, 3) := by decide +kernel
theorem dX4_isTank_4 : decode cX4_isTank 4 = .ok (.iload_n 1, 1) := by decide +kernel
theorem dX4_isTank_5 : decode cX4_isTank 5 = .ok (.aload_n 0, 1) := by decide +kernel
theorem dX4_isTank_6 : decode cX4_isTank 6 = .ok (.getfield 51, 3) := by decide +kernel
theorem dX4_isTank_9 : decode cX4_isTank 9 = .ok (.if_icmp .ge 7, 3) := by decide +kernel
theorem dX4_isTank_12 : decode cX4_isTank 12 = .ok (.iconst 1, 1) := by decide +kernel
theorem dX4_isTank_13 : decode cX4_isTank 13 = .ok (.goto 4, 3) := by decide +kernel
theorem dX4_isTank_16 : decode cX4_isTank 16 = .ok (.iconst 0, 1) := by decide +kernel
theorem dX4_isTank_17 : decode cX4_isTank 17 = .ok (.ireturn, 1) := by decide +kernel
theorem dX4_isWithinDays_0 : decode cX4_isWithinDays 0 = .ok (.iload_n 1, 1) := by decide +kernel
theorem dX4_isWithinDays_1 : decode cX4_isWithinDays 1 = .ok (.ifCond .lt 30, 3) := by decide +kernel
theorem dX4_isWithinDays_4 : decode cX4_isWithinDays 4 = .ok (.iload_n 1, 1) := by decide +kernel
theorem dX4_isWithinDays_5 : decode cX4_isWithinDays 5 = .ok (.aload_n 0, 1) := by decide +kernel
theorem dX4_isWithinDays_6 : decode cX4_isWithinDays 6 = .ok (.getfield 55, 3) := by decide +kernel
theorem dX4_isWithinDays_9 : decode cX4_isWithinDays 9 = .ok (.if_icmp .ge 22, 3) := by decide +kernel
theorem dX4_isWithinDays_12 : decode cX4_isWithinDays 12 = .ok (.iload_n 2, 1) := by decide +kernel
theorem dX4_isWithinDays_13 : decode cX4_isWithinDays 13 = .ok (.iconst 1, 1) := by decide +kernel
theorem dX4_isWithinDays_14 : decode cX4_isWithinDays 14 = .ok (.if_icmp .lt 17, 3) := by decide +kernel
theorem dX4_isWithinDays_17 : decode cX4_isWithinDays 17 = .ok (.iload_n 2, 1) := by decide +kernel
theorem dX4_isWithinDays_18 : decode cX4_isWithinDays 18 = .ok (.aload_n 0, 1) := by decide +kernel
theorem dX4_isWithinDays_19 : decode cX4_isWithinDays 19 = .ok (.getfield 55, 3) := by decide +kernel
theorem dX4_isWithinDays_22 : decode cX4_isWithinDays 22 = .ok (.iload_n 1, 1) := by decide +kernel
theorem dX4_isWithinDays_23 : decode cX4_isWithinDays 23 = .ok (.isub, 1) := by decide +kernel
theorem dX4_isWithinDays_24 : decode cX4_isWithinDays 24 = .ok (.if_icmp .gt 7, 3) := by decide +kernel
theorem dX4_isWithinDays_27 : decode cX4_isWithinDays 27 = .ok (.iconst 1, 1) := by decide +kernel
theorem dX4_isWithinDays_28 : decode cX4_isWithinDays 28 = .ok (.goto 4, 3) := by decide +kernel
theorem dX4_isWithinDays_31 : decode cX4_isWithinDays 31 = .ok (.iconst 0, 1) := by decide +kernel
theorem dX4_isWithinDays_32 : decode cX4_isWithinDays 32 = .ok (.ireturn, 1) := by decide +kernel
theorem dX0_isFull_0 : decode cX0_isFull 0 = .ok (.aload_n 0, 1) := by decide +kernel
theorem dX0_isFull_1 : decode cX0_isFull 1 = .ok (.getfield 25, 3) := by decide +kernel
theorem dX0_isFull_4 : decode cX0_isFull 4 = .ok (.iconst 4, 1) := by decide +kernel
theorem dX0_isFull_5 : decode cX0_isFull 5 = .ok (.if_icmp .lt 7, 3) := by decide +kernel
theorem dX0_isFull_8 : decode cX0_isFull 8 = .ok (.iconst 1, 1) := by decide +kernel
theorem dX0_isFull_9 : decode cX0_isFull 9 = .ok (.goto 4, 3) := by decide +kernel
theorem dX0_isFull_12 : decode cX0_isFull 12 = .ok (.iconst 0, 1) := by decide +kernel
theorem dX0_isFull_13 : decode cX0_isFull 13 = .ok (.ireturn, 1) := by decide +kernel
theorem dX0_add_0 : decode cX0_add 0 = .ok (.aload_n 0, 1) := by decide +kernel
theorem dX0_add_1 : decode cX0_add 1 = .ok (.getfield 9, 3) := by decide +kernel
theorem dX0_add_4 : decode cX0_add 4 = .ok (.aload_n 0, 1) := by decide +kernel
theorem dX0_add_5 : decode cX0_add 5 = .ok (.getfield 25, 3) := by decide +kernel
theorem dX0_add_8 : decode cX0_add 8 = .ok (.iload_n 2, 1) := by decide +kernel
theorem dX0_add_9 : decode cX0_add 9 = .ok (.iastore, 1) := by decide +kernel
theorem dX0_add_10 : decode cX0_add 10 = .ok (.aload_n 0, 1) := by decide +kernel
theorem dX0_add_11 : decode cX0_add 11 = .ok (.getfield 15, 3) := by decide +kernel
theorem dX0_add_14 : decode cX0_add 14 = .ok (.aload_n 0, 1) := by decide +kernel
theorem dX0_add_15 : decode cX0_add 15 = .ok (.getfield 25, 3) := by decide +kernel
theorem dX0_add_18 : decode cX0_add 18 = .ok (.iload_n 1, 1) := by decide +kernel
theorem dX0_add_19 : decode cX0_add 19 = .ok (.iastore, 1) := by decide +kernel
theorem dX0_add_20 : decode cX0_add 20 = .ok (.aload_n 0, 1) := by decide +kernel
theorem dX0_add_21 : decode cX0_add 21 = .ok (.dup, 1) := by decide +kernel
theorem dX0_add_22 : decode cX0_add 22 = .ok (.getfield 25, 3) := by decide +kernel
theorem dX0_add_25 : decode cX0_add 25 = .ok (.iconst 1, 1) := by decide +kernel
theorem dX0_add_26 : decode cX0_add 26 = .ok (.iadd, 1) := by decide +kernel
theorem dX0_add_27 : decode cX0_add 27 = .ok (.putfield 25, 3) := by decide +kernel
theorem dX0_add_30 : decode cX0_add 30 = .ok (.aload_n 0, 1) := by decide +kernel
theorem dX0_add_31 : decode cX0_add 31 = .ok (.getfield 25, 3) := by decide +kernel
theorem dX0_add_34 : decode cX0_add 34 = .ok (.iconst 1, 1) := by decide +kernel
theorem dX0_add_35 : decode cX0_add 35 = .ok (.isub, 1) := by decide +kernel
theorem dX0_add_36 : decode cX0_add 36 = .ok (.ireturn, 1) := by decide +kernel
theorem dX4_rule_0 : decode cX4_rule 0 = .ok (.aload_n 0, 1) := by decide +kernel
theorem dX4_rule_1 : decode cX4_rule 1 = .ok (.iload_n 1, 1) := by decide +kernel
theorem dX4_rule_2 : decode cX4_rule 2 = .ok (.iload_n 2, 1) := by decide +kernel
theorem dX4_rule_3 : decode cX4_rule 3 = .ok (.iload_n 3, 1) := by decide +kernel
theorem dX4_rule_4 : decode cX4_rule 4 = .ok (.iload 4, 2) := by decide +kernel
theorem dX4_rule_6 : decode cX4_rule 6 = .ok (.invokevirtual 73, 3) := by decide +kernel
theorem dX4_rule_9 : decode cX4_rule 9 = .ok (.ifCond .eq 13, 3) := by decide +kernel
theorem dX4_rule_12 : decode cX4_rule 12 = .ok (.aload_n 0, 1) := by decide +kernel
theorem dX4_rule_13 : decode cX4_rule 13 = .ok (.getfield 19, 3) := by decide +kernel
theorem dX4_rule_16 : decode cX4_rule 16 = .ok (.invokevirtual 77, 3) := by decide +kernel
theorem dX4_rule_19 : decode cX4_rule 19 = .ok (.ifCond .eq 5, 3) := by decide +kernel
theorem dX4_rule_22 : decode cX4_rule 22 = .ok (.iconst 0, 1) := by decide +kernel
theorem dX4_rule_23 : decode cX4_rule 23 = .ok (.ireturn, 1) := by decide +kernel
theorem dX4_rule_24 : decode cX4_rule 24 = .ok (.aload_n 0, 1) := by decide +kernel
theorem dX4_rule_25 : decode cX4_rule 25 = .ok (.getfield 19, 3) := by decide +kernel
theorem dX4_rule_28 : decode cX4_rule 28 = .ok (.iload_n 1, 1) := by decide +kernel
theorem dX4_rule_29 : decode cX4_rule 29 = .ok (.iload_n 2, 1) := by decide +kernel
theorem dX4_rule_30 : decode cX4_rule 30 = .ok (.iload_n 3, 1) := by decide +kernel
theorem dX4_rule_31 : decode cX4_rule 31 = .ok (.iload 4, 2) := by decide +kernel
theorem dX4_rule_33 : decode cX4_rule 33 = .ok (.invokevirtual 78, 3) := by decide +kernel
theorem dX4_rule_36 : decode cX4_rule 36 = .ok (.iconst 1, 1) := by decide +kernel
theorem dX4_rule_37 : decode cX4_rule 37 = .ok (.ireturn, 1) := by decide +kernel
theorem dX4_isRule_0 : decode cX4_isRule 0 = .ok (.iload_n 1, 1) := by decide +kernel
theorem dX4_isRule_1 : decode cX4_isRule 1 = .ok (.ifCond .lt 19, 3) := by decide +kernel
theorem dX4_isRule_4 : decode cX4_isRule 4 = .ok (.iload_n 1, 1) := by decide +kernel
theorem dX4_isRule_5 : decode cX4_isRule 5 = .ok (.iconst 3, 1) := by decide +kernel
theorem dX4_isRule_6 : decode cX4_isRule 6 = .ok (.if_icmp .gt 14, 3) := by decide +kernel
theorem dX4_isRule_9 : decode cX4_isRule 9 = .ok (.aload_n 0, 1) := by decide +kernel
theorem dX4_isRule_10 : decode cX4_isRule 10 = .ok (.getfield 12, 3) := by decide +kernel
theorem dX4_isRule_13 : decode cX4_isRule 13 = .ok (.iload_n 2, 1) := by decide +kernel
theorem dX4_isRule_14 : decode cX4_isRule 14 = .ok (.invokevirtual 81, 3) := by decide +kernel
theorem dX4_isRule_17 : decode cX4_isRule 17 = .ok (.ifCond .ne 5, 3) := by decide +kernel
theorem dX4_isRule_20 : decode cX4_isRule 20 = .ok (.iconst 0, 1) := by decide +kernel
theorem dX4_isRule_21 : decode cX4_isRule 21 = .ok (.ireturn, 1) := by decide +kernel
theorem dX4_isRule_22 : decode cX4_isRule 22 = .ok (.iload_n 1, 1) := by decide +kernel
theorem dX4_isRule_23 : decode cX4_isRule 23 = .ok (.ifCond .eq 8, 3) := by decide +kernel
theorem dX4_isRule_26 : decode cX4_isRule 26 = .ok (.iload_n 1, 1) := by decide +kernel
theorem dX4_isRule_27 : decode cX4_isRule 27 = .ok (.iconst 1, 1) := by decide +kernel
theorem dX4_isRule_28 : decode cX4_isRule 28 = .ok (.if_icmp .ne 7, 3) := by decide +kernel
theorem dX4_isRule_31 : decode cX4_isRule 31 = .ok (.iconst 1, 1) := by decide +kernel
theorem dX4_isRule_32 : decode cX4_isRule 32 = .ok (.goto 4, 3) := by decide +kernel
theorem dX4_isRule_35 : decode cX4_isRule 35 = .ok (.iconst 0, 1) := by decide +kernel
theorem dX4_isRule_36 : decode cX4_isRule 36 = .ok (.istore 5, 2) := by decide +kernel
theorem dX4_isRule_38 : decode cX4_isRule 38 = .ok (.iload 5, 2) := by decide +kernel
theorem dX4_isRule_40 : decode cX4_isRule 40 = .ok (.ifCond .eq 21, 3) := by decide +kernel
theorem dX4_isRule_43 : decode cX4_isRule 43 = .ok (.aload_n 0, 1) := by decide +kernel
theorem dX4_isRule_44 : decode cX4_isRule 44 = .ok (.getfield 12, 3) := by decide +kernel
theorem dX4_isRule_47 : decode cX4_isRule 47 = .ok (.iload_n 3, 1) := by decide +kernel
theorem dX4_isRule_48 : decode cX4_isRule 48 = .ok (.invokevirtual 81, 3) := by decide +kernel
theorem dX4_isRule_51 : decode cX4_isRule 51 = .ok (.ifCond .eq 8, 3) := by decide +kernel
theorem dX4_isRule_54 : decode cX4_isRule 54 = .ok (.iload_n 2, 1) := by decide +kernel
theorem dX4_isRule_55 : decode cX4_isRule 55 = .ok (.iload_n 3, 1) := by decide +kernel
theorem dX4_isRule_56 : decode cX4_isRule 56 = .ok (.if_icmp .ne 5, 3) := by decide +kernel
theorem dX4_isRule_59 : decode cX4_isRule 59 = .ok (.iconst 0, 1) := by decide +kernel
theorem dX4_isRule_60 : decode cX4_isRule 60 = .ok (.ireturn, 1) := by decide +kernel
theorem dX4_isRule_61 : decode cX4_isRule 61 = .ok (.iload_n 1, 1) := by decide +kernel
theorem dX4_isRule_62 : decode cX4_isRule 62 = .ok (.iconst 1, 1) := by decide +kernel
theorem dX4_isRule_63 : decode cX4_isRule 63 = .ok (.if_icmp .eq 11, 3) := by decide +kernel
theorem dX4_isRule_66 : decode cX4_isRule 66 = .ok (.iload 4, 2) := by decide +kernel
theorem dX4_isRule_68 : decode cX4_isRule 68 = .ok (.invokestatic 97, 3) := by decide +kernel
theorem dX4_isRule_71 : decode cX4_isRule 71 = .ok (.ifCond .eq 7, 3) := by decide +kernel
theorem dX4_isRule_74 : decode cX4_isRule 74 = .ok (.iconst 1, 1) := by decide +kernel
theorem dX4_isRule_75 : decode cX4_isRule 75 = .ok (.goto 4, 3) := by decide +kernel
theorem dX4_isRule_78 : decode cX4_isRule 78 = .ok (.iconst 0, 1) := by decide +kernel
theorem dX4_isRule_79 : decode cX4_isRule 79 = .ok (.ireturn, 1) := by decide +kernel
theorem dX0_has_0 : decode cX0_has 0 = .ok (.iload_n 1, 1) := by decide +kernel
theorem dX0_has_1 : decode cX0_has 1 = .ok (.ifCond .lt 15, 3) := by decide +kernel
theorem dX0_has_4 : decode cX0_has 4 = .ok (.iload_n 1, 1) := by decide +kernel
theorem dX0_has_5 : decode cX0_has 5 = .ok (.aload_n 0, 1) := by decide +kernel
theorem dX0_has_6 : decode cX0_has 6 = .ok (.getfield 25, 3) := by decide +kernel
theorem dX0_has_9 : decode cX0_has 9 = .ok (.if_icmp .ge 7, 3) := by decide +kernel
theorem dX0_has_12 : decode cX0_has 12 = .ok (.iconst 1, 1) := by decide +kernel
theorem dX0_has_13 : decode cX0_has 13 = .ok (.goto 4, 3) := by decide +kernel
theorem dX0_has_16 : decode cX0_has 16 = .ok (.iconst 0, 1) := by decide +kernel
theorem dX0_has_17 : decode cX0_has 17 = .ok (.ireturn, 1) := by decide +kernel
theorem dX4_isNumber_0 : decode cX4_isNumber 0 = .ok (.iload_n 0, 1) := by decide +kernel
theorem dX4_isNumber_1 : decode cX4_isNumber 1 = .ok (.ifCond .lt 13, 3) := by decide +kernel
theorem dX4_isNumber_4 : decode cX4_isNumber 4 = .ok (.iload_n 0, 1) := by decide +kernel
theorem dX4_isNumber_5 : decode cX4_isNumber 5 = .ok (.bipush 10, 2) := by decide +kernel
theorem dX4_isNumber_7 : decode cX4_isNumber 7 = .ok (.if_icmp .gt 7, 3) := by decide +kernel
theorem dX4_isNumber_10 : decode cX4_isNumber 10 = .ok (.iconst 1, 1) := by decide +kernel
theorem dX4_isNumber_11 : decode cX4_isNumber 11 = .ok (.goto 4, 3) := by decide +kernel
theorem dX4_isNumber_14 : decode cX4_isNumber 14 = .ok (.iconst 0, 1) := by decide +kernel
theorem dX4_isNumber_15 : decode cX4_isNumber 15 = .ok (.ireturn, 1) := by decide +kernel
theorem dX1_isFull_0 : decode cX1_isFull 0 = .ok (.aload_n 0, 1) := by decide +kernel
theorem dX1_isFull_1 : decode cX1_isFull 1 = .ok (.getfield 24, 3) := by decide +kernel
theorem dX1_isFull_4 : decode cX1_isFull 4 = .ok (.bipush 8, 2) := by decide +kernel
theorem dX1_isFull_6 : decode cX1_isFull 6 = .ok (.if_icmp .lt 7, 3) := by decide +kernel
theorem dX1_isFull_9 : decode cX1_isFull 9 = .ok (.iconst 1, 1) := by decide +kernel
theorem dX1_isFull_10 : decode cX1_isFull 10 = .ok (.goto 4, 3) := by decide +kernel
theorem dX1_isFull_13 : decode cX1_isFull 13 = .ok (.iconst 0, 1) := by decide +kernel
theorem dX1_isFull_14 : decode cX1_isFull 14 = .ok (.ireturn, 1) := by decide +kernel
theorem dX1_add_0 : decode cX1_add 0 = .ok (.aload_n 0, 1) := by decide +kernel
theorem dX1_add_1 : decode cX1_add 1 = .ok (.getfield 9, 3) := by decide +kernel
theorem dX1_add_4 : decode cX1_add 4 = .ok (.aload_n 0, 1) := by decide +kernel
theorem dX1_add_5 : decode cX1_add 5 = .ok (.getfield 24, 3) := by decide +kernel
theorem dX1_add_8 : decode cX1_add 8 = .ok (.iload_n 1, 1) := by decide +kernel
theorem dX1_add_9 : decode cX1_add 9 = .ok (.iastore, 1) := by decide +kernel
theorem dX1_add_10 : decode cX1_add 10 = .ok (.aload_n 0, 1) := by decide +kernel
theorem dX1_add_11 : decode cX1_add 11 = .ok (.getfield 15, 3) := by decide +kernel
theorem dX1_add_14 : decode cX1_add 14 = .ok (.aload_n 0, 1) := by decide +kernel
theorem dX1_add_15 : decode cX1_add 15 = .ok (.getfield 24, 3) := by decide +kernel
theorem dX1_add_18 : decode cX1_add 18 = .ok (.iload_n 2, 1) := by decide +kernel
theorem dX1_add_19 : decode cX1_add 19 = .ok (.iastore, 1) := by decide +kernel
theorem dX1_add_20 : decode cX1_add 20 = .ok (.aload_n 0, 1) := by decide +kernel
theorem dX1_add_21 : decode cX1_add 21 = .ok (.getfield 18, 3) := by decide +kernel
theorem dX1_add_24 : decode cX1_add 24 = .ok (.aload_n 0, 1) := by decide +kernel
theorem dX1_add_25 : decode cX1_add 25 = .ok (.getfield 24, 3) := by decide +kernel
theorem dX1_add_28 : decode cX1_add 28 = .ok (.iload_n 3, 1) := by decide +kernel
theorem dX1_add_29 : decode cX1_add 29 = .ok (.iastore, 1) := by decide +kernel
theorem dX1_add_30 : decode cX1_add 30 = .ok (.aload_n 0, 1) := by decide +kernel
theorem dX1_add_31 : decode cX1_add 31 = .ok (.getfield 21, 3) := by decide +kernel
theorem dX1_add_34 : decode cX1_add 34 = .ok (.aload_n 0, 1) := by decide +kernel
theorem dX1_add_35 : decode cX1_add 35 = .ok (.getfield 24, 3) := by decide +kernel
theorem dX1_add_38 : decode cX1_add 38 = .ok (.iload 4, 2) := by decide +kernel
theorem dX1_add_40 : decode cX1_add 40 = .ok (.iastore, 1) := by decide +kernel
theorem dX1_add_41 : decode cX1_add 41 = .ok (.aload_n 0, 1) := by decide +kernel
theorem dX1_add_42 : decode cX1_add 42 = .ok (.dup, 1) := by decide +kernel
theorem dX1_add_43 : decode cX1_add 43 = .ok (.getfield 24, 3) := by decide +kernel
theorem dX1_add_46 : decode cX1_add 46 = .ok (.iconst 1, 1) := by decide +kernel
theorem dX1_add_47 : decode cX1_add 47 = .ok (.iadd, 1) := by decide +kernel
theorem dX1_add_48 : decode cX1_add 48 = .ok (.putfield 24, 3) := by decide +kernel
theorem dX1_add_51 : decode cX1_add 51 = .ok (.return_, 1) := by decide +kernel
theorem dX4_freeze_0 : decode cX4_freeze 0 = .ok (.aload_n 0, 1) := by decide +kernel
theorem dX4_freeze_1 : decode cX4_freeze 1 = .ok (.getfield 12, 3) := by decide +kernel
theorem dX4_freeze_4 : decode cX4_freeze 4 = .ok (.iload_n 1, 1) := by decide +kernel
theorem dX4_freeze_5 : decode cX4_freeze 5 = .ok (.invokevirtual 81, 3) := by decide +kernel
theorem dX4_freeze_8 : decode cX4_freeze 8 = .ok (.ifCond .eq 15, 3) := by decide +kernel
theorem dX4_freeze_11 : decode cX4_freeze 11 = .ok (.aload_n 0, 1) := by decide +kernel
theorem dX4_freeze_12 : decode cX4_freeze 12 = .ok (.getfield 12, 3) := by decide +kernel
theorem dX4_freeze_15 : decode cX4_freeze 15 = .ok (.getfield 84, 3) := by decide +kernel
theorem dX4_freeze_18 : decode cX4_freeze 18 = .ok (.iload_n 1, 1) := by decide +kernel
theorem dX4_freeze_19 : decode cX4_freeze 19 = .ok (.baload, 1) := by decide +kernel
theorem dX4_freeze_20 : decode cX4_freeze 20 = .ok (.ifCond .eq 5, 3) := by decide +kernel
theorem dX4_freeze_23 : decode cX4_freeze 23 = .ok (.iconst 0, 1) := by decide +kernel
theorem dX4_freeze_24 : decode cX4_freeze 24 = .ok (.ireturn, 1) := by decide +kernel
theorem dX4_freeze_25 : decode cX4_freeze 25 = .ok (.aload_n 0, 1) := by decide +kernel
theorem dX4_freeze_26 : decode cX4_freeze 26 = .ok (.getfield 12, 3) := by decide +kernel
theorem dX4_freeze_29 : decode cX4_freeze 29 = .ok (.getfield 84, 3) := by decide +kernel
theorem dX4_freeze_32 : decode cX4_freeze 32 = .ok (.iload_n 1, 1) := by decide +kernel
theorem dX4_freeze_33 : decode cX4_freeze 33 = .ok (.iconst 1, 1) := by decide +kernel
theorem dX4_freeze_34 : decode cX4_freeze 34 = .ok (.bastore, 1) := by decide +kernel
theorem dX4_freeze_35 : decode cX4_freeze 35 = .ok (.iconst 1, 1) := by decide +kernel
theorem dX4_freeze_36 : decode cX4_freeze 36 = .ok (.ireturn, 1) := by decide +kernel
theorem dX4_out_0 : decode cX4_out 0 = .ok (.aload_n 0, 1) := by decide +kernel
theorem dX4_out_1 : decode cX4_out 1 = .ok (.iload_n 1, 1) := by decide +kernel
theorem dX4_out_2 : decode cX4_out 2 = .ok (.invokevirtual 58, 3) := by decide +kernel
theorem dX4_out_5 : decode cX4_out 5 = .ok (.ifCond .eq 29, 3) := by decide +kernel
theorem dX4_out_8 : decode cX4_out 8 = .ok (.iload_n 2, 1) := by decide +kernel
theorem dX4_out_9 : decode cX4_out 9 = .ok (.ifCond .lt 25, 3) := by decide +kernel
theorem dX4_out_12 : decode cX4_out 12 = .ok (.iload_n 2, 1) := by decide +kernel
theorem dX4_out_13 : decode cX4_out 13 = .ok (.iload_n 3, 1) := by decide +kernel
theorem dX4_out_14 : decode cX4_out 14 = .ok (.if_icmp .ge 20, 3) := by decide +kernel
theorem dX4_out_17 : decode cX4_out 17 = .ok (.iload_n 3, 1) := by decide +kernel
theorem dX4_out_18 : decode cX4_out 18 = .ok (.aload_n 0, 1) := by decide +kernel
theorem dX4_out_19 : decode cX4_out 19 = .ok (.getfield 55, 3) := by decide +kernel
theorem dX4_out_22 : decode cX4_out 22 = .ok (.if_icmp .gt 12, 3) := by decide +kernel
theorem dX4_out_25 : decode cX4_out 25 = .ok (.aload_n 0, 1) := by decide +kernel
theorem dX4_out_26 : decode cX4_out 26 = .ok (.getfield 88, 3) := by decide +kernel
theorem dX4_out_29 : decode cX4_out 29 = .ok (.bipush 12, 2) := by decide +kernel
theorem dX4_out_31 : decode cX4_out 31 = .ok (.if_icmp .lt 5, 3) := by decide +kernel
theorem dX4_out_34 : decode cX4_out 34 = .ok (.iconst 0, 1) := by decide +kernel
theorem dX4_out_35 : decode cX4_out 35 = .ok (.ireturn, 1) := by decide +kernel
theorem dX4_out_36 : decode cX4_out 36 = .ok (.aload_n 0, 1) := by decide +kernel
theorem dX4_out_37 : decode cX4_out 37 = .ok (.dup, 1) := by decide +kernel
theorem dX4_out_38 : decode cX4_out 38 = .ok (.getfield 88, 3) := by decide +kernel
theorem dX4_out_41 : decode cX4_out 41 = .ok (.iconst 1, 1) := by decide +kernel
theorem dX4_out_42 : decode cX4_out 42 = .ok (.iadd, 1) := by decide +kernel
theorem dX4_out_43 : decode cX4_out 43 = .ok (.putfield 88, 3) := by decide +kernel
theorem dX4_out_46 : decode cX4_out 46 = .ok (.aload_n 0, 1) := by decide +kernel
theorem dX4_out_47 : decode cX4_out 47 = .ok (.dup, 1) := by decide +kernel
theorem dX4_out_48 : decode cX4_out 48 = .ok (.getfield 91, 3) := by decide +kernel
theorem dX4_out_51 : decode cX4_out 51 = .ok (.iload_n 2, 1) := by decide +kernel
theorem dX4_out_52 : decode cX4_out 52 = .ok (.iload_n 3, 1) := by decide +kernel
theorem dX4_out_53 : decode cX4_out 53 = .ok (.iconst 1, 1) := by decide +kernel
theorem dX4_out_54 : decode cX4_out 54 = .ok (.isub, 1) := by decide +kernel
theorem dX4_out_55 : decode cX4_out 55 = .ok (.invokestatic 94, 3) := by decide +kernel
theorem dX4_out_58 : decode cX4_out 58 = .ok (.iload_n 1, 1) := by decide +kernel
theorem dX4_out_59 : decode cX4_out 59 = .ok (.bipush 10, 2) := by decide +kernel
theorem dX4_out_61 : decode cX4_out 61 = .ok (.imul, 1) := by decide +kernel
theorem dX4_out_62 : decode cX4_out 62 = .ok (.ishl, 1) := by decide +kernel
theorem dX4_out_63 : decode cX4_out 63 = .ok (.ior, 1) := by decide +kernel
theorem dX4_out_64 : decode cX4_out 64 = .ok (.putfield 91, 3) := by decide +kernel
theorem dX4_out_67 : decode cX4_out 67 = .ok (.iconst 1, 1) := by decide +kernel
theorem dX4_out_68 : decode cX4_out 68 = .ok (.ireturn, 1) := by decide +kernel
theorem dX4_daysFromTo_0 : decode cX4_daysFromTo 0 = .ok (.iload_n 0, 1) := by decide +kernel
theorem dX4_daysFromTo_1 : decode cX4_daysFromTo 1 = .ok (.iconst 0, 1) := by decide +kernel
theorem dX4_daysFromTo_2 : decode cX4_daysFromTo 2 = .ok (.invokestatic 48, 3) := by decide +kernel
theorem dX4_daysFromTo_5 : decode cX4_daysFromTo 5 = .ok (.istore_n 2, 1) := by decide +kernel
theorem dX4_daysFromTo_6 : decode cX4_daysFromTo 6 = .ok (.iload_n 1, 1) := by decide +kernel
theorem dX4_daysFromTo_7 : decode cX4_daysFromTo 7 = .ok (.bipush 9, 2) := by decide +kernel
theorem dX4_daysFromTo_9 : decode cX4_daysFromTo 9 = .ok (.invokestatic 42, 3) := by decide +kernel
theorem dX4_daysFromTo_12 : decode cX4_daysFromTo 12 = .ok (.istore_n 3, 1) := by decide +kernel
theorem dX4_daysFromTo_13 : decode cX4_daysFromTo 13 = .ok (.iload_n 2, 1) := by decide +kernel
theorem dX4_daysFromTo_14 : decode cX4_daysFromTo 14 = .ok (.iload_n 3, 1) := by decide +kernel
theorem dX4_daysFromTo_15 : decode cX4_daysFromTo 15 = .ok (.if_icmp .le 7, 3) := by decide +kernel
theorem dX4_daysFromTo_18 : decode cX4_daysFromTo 18 = .ok (.iconst 0, 1) := by decide +kernel
theorem dX4_daysFromTo_19 : decode cX4_daysFromTo 19 = .ok (.goto 12, 3) := by decide +kernel
theorem dX4_daysFromTo_22 : decode cX4_daysFromTo 22 = .ok (.iconst 1, 1) := by decide +kernel
theorem dX4_daysFromTo_23 : decode cX4_daysFromTo 23 = .ok (.iload_n 3, 1) := by decide +kernel
theorem dX4_daysFromTo_24 : decode cX4_daysFromTo 24 = .ok (.iconst 1, 1) := by decide +kernel
theorem dX4_daysFromTo_25 : decode cX4_daysFromTo 25 = .ok (.iadd, 1) := by decide +kernel
theorem dX4_daysFromTo_26 : decode cX4_daysFromTo 26 = .ok (.ishl, 1) := by decide +kernel
theorem dX4_daysFromTo_27 : decode cX4_daysFromTo 27 = .ok (.iconst 1, 1) := by decide +kernel
theorem dX4_daysFromTo_28 : decode cX4_daysFromTo 28 = .ok (.iload_n 2, 1) := by decide +kernel
theorem dX4_daysFromTo_29 : decode cX4_daysFromTo 29 = .ok (.ishl, 1) := by decide +kernel
theorem dX4_daysFromTo_30 : decode cX4_daysFromTo 30 = .ok (.isub, 1) := by decide +kernel
theorem dX4_daysFromTo_31 : decode cX4_daysFromTo 31 = .ok (.ireturn, 1) := by decide +kernel
theorem dX4_late_0 : decode cX4_late 0 = .ok (.aload_n 0, 1) := by decide +kernel
theorem dX4_late_1 : decode cX4_late 1 = .ok (.getfield 12, 3) := by decide +kernel
theorem dX4_late_4 : decode cX4_late 4 = .ok (.iload_n 1, 1) := by decide +kernel
theorem dX4_late_5 : decode cX4_late 5 = .ok (.invokevirtual 81, 3) := by decide +kernel
theorem dX4_late_8 : decode cX4_late 8 = .ok (.ifCond .eq 10, 3) := by decide +kernel
theorem dX4_late_11 : decode cX4_late 11 = .ok (.iload_n 2, 1) := by decide +kernel
theorem dX4_late_12 : decode cX4_late 12 = .ok (.invokestatic 97, 3) := by decide +kernel
theorem dX4_late_15 : decode cX4_late 15 = .ok (.ifCond .ne 5, 3) := by decide +kernel
theorem dX4_late_18 : decode cX4_late 18 = .ok (.iconst 0, 1) := by decide +kernel
theorem dX4_late_19 : decode cX4_late 19 = .ok (.ireturn, 1) := by decide +kernel
theorem dX4_late_20 : decode cX4_late 20 = .ok (.aload_n 0, 1) := by decide +kernel
theorem dX4_late_21 : decode cX4_late 21 = .ok (.getfield 12, 3) := by decide +kernel
theorem dX4_late_24 : decode cX4_late 24 = .ok (.getfield 100, 3) := by decide +kernel
theorem dX4_late_27 : decode cX4_late 27 = .ok (.iload_n 1, 1) := by decide +kernel
theorem dX4_late_28 : decode cX4_late 28 = .ok (.aload_n 0, 1) := by decide +kernel
theorem dX4_late_29 : decode cX4_late 29 = .ok (.getfield 12, 3) := by decide +kernel
theorem dX4_late_32 : decode cX4_late 32 = .ok (.getfield 104, 3) := by decide +kernel
theorem dX4_late_35 : decode cX4_late 35 = .ok (.iload_n 1, 1) := by decide +kernel
theorem dX4_late_36 : decode cX4_late 36 = .ok (.iaload, 1) := by decide +kernel
theorem dX4_late_37 : decode cX4_late 37 = .ok (.invokestatic 107, 3) := by decide +kernel
theorem dX4_late_40 : decode cX4_late 40 = .ok (.iload_n 2, 1) := by decide +kernel
theorem dX4_late_41 : decode cX4_late 41 = .ok (.iadd, 1) := by decide +kernel
theorem dX4_late_42 : decode cX4_late 42 = .ok (.iastore, 1) := by decide +kernel
theorem dX4_late_43 : decode cX4_late 43 = .ok (.iconst 1, 1) := by decide +kernel
theorem dX4_late_44 : decode cX4_late 44 = .ok (.ireturn, 1) := by decide +kernel
theorem dX4_startOfPlace_0 : decode cX4_startOfPlace 0 = .ok (.iload_n 0, 1) := by decide +kernel
theorem dX4_startOfPlace_1 : decode cX4_startOfPlace 1 = .ok (.bipush 10, 2) := by decide +kernel
theorem dX4_startOfPlace_3 : decode cX4_startOfPlace 3 = .ok (.irem, 1) := by decide +kernel
theorem dX4_startOfPlace_4 : decode cX4_startOfPlace 4 = .ok (.ireturn, 1) := by decide +kernel
theorem dX4_run_0 : decode cX4_run 0 = .ok (.lload_n 1, 1) := by decide +kernel
theorem dX4_run_1 : decode cX4_run 1 = .ok (.lconst 0, 1) := by decide +kernel
theorem dX4_run_2 : decode cX4_run 2 = .ok (.lcmp, 1) := by decide +kernel
theorem dX4_run_3 : decode cX4_run 3 = .ok (.ifCond .lt 11, 3) := by decide +kernel
theorem dX4_run_6 : decode cX4_run 6 = .ok (.lload_n 1, 1) := by decide +kernel
theorem dX4_run_7 : decode cX4_run 7 = .ok (.ldc2_w 111, 3) := by decide +kernel
theorem dX4_run_10 : decode cX4_run 10 = .ok (.lcmp, 1) := by decide +kernel
theorem dX4_run_11 : decode cX4_run 11 = .ok (.ifCond .le 7, 3) := by decide +kernel
theorem dX4_run_14 : decode cX4_run 14 = .ok (.sipush (-200), 3) := by decide +kernel
theorem dX4_run_17 : decode cX4_run 17 = .ok (.ireturn, 1) := by decide +kernel
theorem dX4_run_18 : decode cX4_run 18 = .ok (.aload_n 0, 1) := by decide +kernel
theorem dX4_run_19 : decode cX4_run 19 = .ok (.getfield 26, 3) := by decide +kernel
theorem dX4_run_22 : decode cX4_run 22 = .ok (.aload_n 0, 1) := by decide +kernel
theorem dX4_run_23 : decode cX4_run 23 = .ok (.getfield 12, 3) := by decide +kernel
theorem dX4_run_26 : decode cX4_run 26 = .ok (.aload_n 0, 1) := by decide +kernel
theorem dX4_run_27 : decode cX4_run 27 = .ok (.getfield 51, 3) := by decide +kernel
theorem dX4_run_30 : decode cX4_run 30 = .ok (.aload_n 0, 1) := by decide +kernel
theorem dX4_run_31 : decode cX4_run 31 = .ok (.getfield 55, 3) := by decide +kernel
theorem dX4_run_34 : decode cX4_run 34 = .ok (.aload_n 0, 1) := by decide +kernel
theorem dX4_run_35 : decode cX4_run 35 = .ok (.getfield 91, 3) := by decide +kernel
theorem dX4_run_38 : decode cX4_run 38 = .ok (.invokevirtual 113, 3) := by decide +kernel
theorem dX4_run_41 : decode cX4_run 41 = .ok (.aload_n 0, 1) := by decide +kernel
theorem dX4_run_42 : decode cX4_run 42 = .ok (.getfield 26, 3) := by decide +kernel
theorem dX4_run_45 : decode cX4_run 45 = .ok (.aload_n 0, 1) := by decide +kernel
theorem dX4_run_46 : decode cX4_run 46 = .ok (.getfield 19, 3) := by decide +kernel
theorem dX4_run_49 : decode cX4_run 49 = .ok (.iconst (-1), 1) := by decide +kernel
theorem dX4_run_50 : decode cX4_run 50 = .ok (.invokevirtual 117, 3) := by decide +kernel
theorem dX4_run_53 : decode cX4_run 53 = .ok (.aload_n 0, 1) := by decide +kernel
theorem dX4_run_54 : decode cX4_run 54 = .ok (.getfield 26, 3) := by decide +kernel
theorem dX4_run_57 : decode cX4_run 57 = .ok (.invokevirtual 121, 3) := by decide +kernel
theorem dX4_run_60 : decode cX4_run 60 = .ok (.ifCond .ne 15, 3) := by decide +kernel
theorem dX4_run_63 : decode cX4_run 63 = .ok (.aload_n 0, 1) := by decide +kernel
theorem dX4_run_64 : decode cX4_run 64 = .ok (.iconst 5, 1) := by decide +kernel
theorem dX4_run_65 : decode cX4_run 65 = .ok (.putfield 124, 3) := by decide +kernel
theorem dX4_run_68 : decode cX4_run 68 = .ok (.iconst (-1), 1) := by decide +kernel
theorem dX4_run_69 : decode cX4_run 69 = .ok (.aload_n 0, 1) := by decide +kernel
theorem dX4_run_70 : decode cX4_run 70 = .ok (.invokevirtual 127, 3) := by decide +kernel
theorem dX4_run_73 : decode cX4_run 73 = .ok (.isub, 1) := by decide +kernel
theorem dX4_run_74 : decode cX4_run 74 = .ok (.ireturn, 1) := by decide +kernel
theorem dX4_run_75 : decode cX4_run 75 = .ok (.lload_n 1, 1) := by decide +kernel
theorem dX4_run_76 : decode cX4_run 76 = .ok (.l2i, 1) := by decide +kernel
theorem dX4_run_77 : decode cX4_run 77 = .ok (.istore_n 3, 1) := by decide +kernel
theorem dX4_run_78 : decode cX4_run 78 = .ok (.aload_n 0, 1) := by decide +kernel
theorem dX4_run_79 : decode cX4_run 79 = .ok (.getfield 26, 3) := by decide +kernel
theorem dX4_run_82 : decode cX4_run 82 = .ok (.iload_n 3, 1) := by decide +kernel
theorem dX4_run_83 : decode cX4_run 83 = .ok (.invokevirtual 131, 3) := by decide +kernel
theorem dX4_run_86 : decode cX4_run 86 = .ok (.ifCond .ne 13, 3) := by decide +kernel
theorem dX4_run_89 : decode cX4_run 89 = .ok (.aload_n 0, 1) := by decide +kernel
theorem dX4_run_90 : decode cX4_run 90 = .ok (.iload_n 3, 1) := by decide +kernel
theorem dX4_run_91 : decode cX4_run 91 = .ok (.iconst 1, 1) := by decide +kernel
theorem dX4_run_92 : decode cX4_run 92 = .ok (.iadd, 1) := by decide +kernel
theorem dX4_run_93 : decode cX4_run 93 = .ok (.putfield 124, 3) := by decide +kernel
theorem dX4_run_96 : decode cX4_run 96 = .ok (.bipush (-100), 2) := by decide +kernel
theorem dX4_run_98 : decode cX4_run 98 = .ok (.ireturn, 1) := by decide +kernel
theorem dX4_run_99 : decode cX4_run 99 = .ok (.aload_n 0, 1) := by decide +kernel
theorem dX4_run_100 : decode cX4_run 100 = .ok (.invokevirtual 134, 3) := by decide +kernel
theorem dX4_run_103 : decode cX4_run 103 = .ok (.aload_n 0, 1) := by decide +kernel
theorem dX4_run_104 : decode cX4_run 104 = .ok (.getfield 124, 3) := by decide +kernel
theorem dX4_run_107 : decode cX4_run 107 = .ok (.ireturn, 1) := by decide +kernel
theorem dX2_load_0 : decode cX2_load 0 = .ok (.aload_n 0, 1) := by decide +kernel
theorem dX2_load_1 : decode cX2_load 1 = .ok (.aload_n 1, 1) := by decide +kernel
theorem dX2_load_2 : decode cX2_load 2 = .ok (.getfield 40, 3) := by decide +kernel
theorem dX2_load_5 : decode cX2_load 5 = .ok (.putfield 45, 3) := by decide +kernel
theorem dX2_load_8 : decode cX2_load 8 = .ok (.iconst 0, 1) := by decide +kernel
theorem dX2_load_9 : decode cX2_load 9 = .ok (.istore 5, 2) := by decide +kernel
theorem dX2_load_11 : decode cX2_load 11 = .ok (.iload 5, 2) := by decide +kernel
theorem dX2_load_13 : decode cX2_load 13 = .ok (.aload_n 0, 1) := by decide +kernel
theorem dX2_load_14 : decode cX2_load 14 = .ok (.getfield 45, 3) := by decide +kernel
theorem dX2_load_17 : decode cX2_load 17 = .ok (.if_icmp .ge 102, 3) := by decide +kernel
theorem dX2_load_20 : decode cX2_load 20 = .ok (.aload_n 1, 1) := by decide +kernel
theorem dX2_load_21 : decode cX2_load 21 = .ok (.getfield 46, 3) := by decide +kernel
theorem dX2_load_24 : decode cX2_load 24 = .ok (.iload 5, 2) := by decide +kernel
theorem dX2_load_26 : decode cX2_load 26 = .ok (.iaload, 1) := by decide +kernel
theorem dX2_load_27 : decode cX2_load 27 = .ok (.istore 6, 2) := by decide +kernel
theorem dX2_load_29 : decode cX2_load 29 = .ok (.aload_n 1, 1) := by decide +kernel
theorem dX2_load_30 : decode cX2_load 30 = .ok (.getfield 47, 3) := by decide +kernel
theorem dX2_load_33 : decode cX2_load 33 = .ok (.iload 5, 2) := by decide +kernel
theorem dX2_load_35 : decode cX2_load 35 = .ok (.iaload, 1) := by decide +kernel
theorem dX2_load_36 : decode cX2_load 36 = .ok (.iload_n 3, 1) := by decide +kernel
theorem dX2_load_37 : decode cX2_load 37 = .ok (.iload 6, 2) := by decide +kernel
theorem dX2_load_39 : decode cX2_load 39 = .ok (.isub, 1) := by decide +kernel
theorem dX2_load_40 : decode cX2_load 40 = .ok (.invokestatic 50, 3) := by decide +kernel
theorem dX2_load_43 : decode cX2_load 43 = .ok (.istore 7, 2) := by decide +kernel
theorem dX2_load_45 : decode cX2_load 45 = .ok (.iload 7, 2) := by decide +kernel
theorem dX2_load_47 : decode cX2_load 47 = .ok (.iload 6, 2) := by decide +kernel
theorem dX2_load_49 : decode cX2_load 49 = .ok (.iload_n 2, 1) := by decide +kernel
theorem dX2_load_50 : decode cX2_load 50 = .ok (.iload 4, 2) := by decide +kernel
theorem dX2_load_52 : decode cX2_load 52 = .ok (.invokestatic 54, 3) := by decide +kernel
theorem dX2_load_55 : decode cX2_load 55 = .ok (.istore 8, 2) := by decide +kernel
theorem dX2_load_57 : decode cX2_load 57 = .ok (.aload_n 1, 1) := by decide +kernel
theorem dX2_load_58 : decode cX2_load 58 = .ok (.getfield 58, 3) := by decide +kernel
theorem dX2_load_61 : decode cX2_load 61 = .ok (.iload 5, 2) := by decide +kernel
theorem dX2_load_63 : decode cX2_load 63 = .ok (.iaload, 1) := by decide +kernel
theorem dX2_load_64 : decode cX2_load 64 = .ok (.istore 9, 2) := by decide +kernel
theorem dX2_load_66 : decode cX2_load 66 = .ok (.aload_n 0, 1) := by decide +kernel
theorem dX2_load_67 : decode cX2_load 67 = .ok (.getfield 15, 3) := by decide +kernel
theorem dX2_load_70 : decode cX2_load 70 = .ok (.iload 5, 2) := by decide +kernel
theorem dX2_load_72 : decode cX2_load 72 = .ok (.iload 6, 2) := by decide +kernel
theorem dX2_load_74 : decode cX2_load 74 = .ok (.iastore, 1) := by decide +kernel
theorem dX2_load_75 : decode cX2_load 75 = .ok (.aload_n 0, 1) := by decide +kernel
theorem dX2_load_76 : decode cX2_load 76 = .ok (.getfield 18, 3) := by decide +kernel
theorem dX2_load_79 : decode cX2_load 79 = .ok (.iload 5, 2) := by decide +kernel
theorem dX2_load_81 : decode cX2_load 81 = .ok (.iload 9, 2) := by decide +kernel
theorem dX2_load_83 : decode cX2_load 83 = .ok (.iastore, 1) := by decide +kernel
theorem dX2_load_84 : decode cX2_load 84 = .ok (.aload_n 0, 1) := by decide +kernel
theorem dX2_load_85 : decode cX2_load 85 = .ok (.getfield 21, 3) := by decide +kernel
theorem dX2_load_88 : decode cX2_load 88 = .ok (.iload 5, 2) := by decide +kernel
theorem dX2_load_90 : decode cX2_load 90 = .ok (.aload_n 1, 1) := by decide +kernel
theorem dX2_load_91 : decode cX2_load 91 = .ok (.getfield 61, 3) := by decide +kernel
theorem dX2_load_94 : decode cX2_load 94 = .ok (.iload 5, 2) := by decide +kernel
theorem dX2_load_96 : decode cX2_load 96 = .ok (.baload, 1) := by decide +kernel
theorem dX2_load_97 : decode cX2_load 97 = .ok (.ifCond .eq 13, 3) := by decide +kernel
theorem dX2_load_100 : decode cX2_load 100 = .ok (.iload 8, 2) := by decide +kernel
theorem dX2_load_102 : decode cX2_load 102 = .ok (.iconst 1, 1) := by decide +kernel
theorem dX2_load_103 : decode cX2_load 103 = .ok (.iload 9, 2) := by decide +kernel
theorem dX2_load_105 : decode cX2_load 105 = .ok (.ishl, 1) := by decide +kernel
theorem dX2_load_106 : decode cX2_load 106 = .ok (.iand, 1) := by decide +kernel
theorem dX2_load_107 : decode cX2_load 107 = .ok (.goto 5, 3) := by decide +kernel
theorem dX2_load_110 : decode cX2_load 110 = .ok (.iload 8, 2) := by decide +kernel
theorem dX2_load_112 : decode cX2_load 112 = .ok (.iastore, 1) := by decide +kernel
theorem dX2_load_113 : decode cX2_load 113 = .ok (.iinc 5 1, 3) := by decide +kernel
theorem dX2_load_116 : decode cX2_load 116 = .ok (.goto (-105), 3) := by decide +kernel
theorem dX2_load_119 : decode cX2_load 119 = .ok (.return_, 1) := by decide +kernel
theorem dX2_freePlaces_0 : decode cX2_freePlaces 0 = .ok (.iconst 0, 1) := by decide +kernel
theorem dX2_freePlaces_1 : decode cX2_freePlaces 1 = .ok (.iload_n 1, 1) := by decide +kernel
theorem dX2_freePlaces_2 : decode cX2_freePlaces 2 = .ok (.iconst 1, 1) := by decide +kernel
theorem dX2_freePlaces_3 : decode cX2_freePlaces 3 = .ok (.isub, 1) := by decide +kernel
theorem dX2_freePlaces_4 : decode cX2_freePlaces 4 = .ok (.invokestatic 50, 3) := by decide +kernel
theorem dX2_freePlaces_7 : decode cX2_freePlaces 7 = .ok (.istore 4, 2) := by decide +kernel
theorem dX2_freePlaces_9 : decode cX2_freePlaces 9 = .ok (.iconst 0, 1) := by decide +kernel
theorem dX2_freePlaces_10 : decode cX2_freePlaces 10 = .ok (.istore 5, 2) := by decide +kernel
theorem dX2_freePlaces_12 : decode cX2_freePlaces 12 = .ok (.iconst 0, 1) := by decide +kernel
theorem dX2_freePlaces_13 : decode cX2_freePlaces 13 = .ok (.istore 6, 2) := by decide +kernel
theorem dX2_freePlaces_15 : decode cX2_freePlaces 15 = .ok (.iload 6, 2) := by decide +kernel
theorem dX2_freePlaces_17 : decode cX2_freePlaces 17 = .ok (.iload_n 2, 1) := by decide +kernel
theorem dX2_freePlaces_18 : decode cX2_freePlaces 18 = .ok (.bipush 10, 2) := by decide +kernel
theorem dX2_freePlaces_20 : decode cX2_freePlaces 20 = .ok (.imul, 1) := by decide +kernel
theorem dX2_freePlaces_21 : decode cX2_freePlaces 21 = .ok (.if_icmp .ge 52, 3) := by decide +kernel
theorem dX2_freePlaces_24 : decode cX2_freePlaces 24 = .ok (.iload_n 0, 1) := by decide +kernel
theorem dX2_freePlaces_25 : decode cX2_freePlaces 25 = .ok (.iload 6, 2) := by decide +kernel
theorem dX2_freePlaces_27 : decode cX2_freePlaces 27 = .ok (.invokestatic 65, 3) := by decide +kernel
theorem dX2_freePlaces_30 : decode cX2_freePlaces 30 = .ok (.ishr, 1) := by decide +kernel
theorem dX2_freePlaces_31 : decode cX2_freePlaces 31 = .ok (.iconst 1, 1) := by decide +kernel
theorem dX2_freePlaces_32 : decode cX2_freePlaces 32 = .ok (.iand, 1) := by decide +kernel
theorem dX2_freePlaces_33 : decode cX2_freePlaces 33 = .ok (.ifCond .eq 7, 3) := by decide +kernel
theorem dX2_freePlaces_36 : decode cX2_freePlaces 36 = .ok (.iconst 1, 1) := by decide +kernel
theorem dX2_freePlaces_37 : decode cX2_freePlaces 37 = .ok (.goto 4, 3) := by decide +kernel
theorem dX2_freePlaces_40 : decode cX2_freePlaces 40 = .ok (.iconst 0, 1) := by decide +kernel
theorem dX2_freePlaces_41 : decode cX2_freePlaces 41 = .ok (.istore 7, 2) := by decide +kernel
theorem dX2_freePlaces_43 : decode cX2_freePlaces 43 = .ok (.iload 7, 2) := by decide +kernel
theorem dX2_freePlaces_45 : decode cX2_freePlaces 45 = .ok (.ifCond .eq 22, 3) := by decide +kernel
theorem dX2_freePlaces_48 : decode cX2_freePlaces 48 = .ok (.iload_n 3, 1) := by decide +kernel
theorem dX2_freePlaces_49 : decode cX2_freePlaces 49 = .ok (.iload 6, 2) := by decide +kernel
theorem dX2_freePlaces_51 : decode cX2_freePlaces 51 = .ok (.ishr, 1) := by decide +kernel
theorem dX2_freePlaces_52 : decode cX2_freePlaces 52 = .ok (.iload 4, 2) := by decide +kernel
theorem dX2_freePlaces_54 : decode cX2_freePlaces 54 = .ok (.iand, 1) := by decide +kernel
theorem dX2_freePlaces_55 : decode cX2_freePlaces 55 = .ok (.ifCond .ne 12, 3) := by decide +kernel
theorem dX2_freePlaces_58 : decode cX2_freePlaces 58 = .ok (.iload 5, 2) := by decide +kernel
theorem dX2_freePlaces_60 : decode cX2_freePlaces 60 = .ok (.iconst 1, 1) := by decide +kernel
theorem dX2_freePlaces_61 : decode cX2_freePlaces 61 = .ok (.iload 6, 2) := by decide +kernel
theorem dX2_freePlaces_63 : decode cX2_freePlaces 63 = .ok (.ishl, 1) := by decide +kernel
theorem dX2_freePlaces_64 : decode cX2_freePlaces 64 = .ok (.ior, 1) := by decide +kernel
theorem dX2_freePlaces_65 : decode cX2_freePlaces 65 = .ok (.istore 5, 2) := by decide +kernel
theorem dX2_freePlaces_67 : decode cX2_freePlaces 67 = .ok (.iinc 6 1, 3) := by decide +kernel
theorem dX2_freePlaces_70 : decode cX2_freePlaces 70 = .ok (.goto (-55), 3) := by decide +kernel
theorem dX2_freePlaces_73 : decode cX2_freePlaces 73 = .ok (.iload 5, 2) := by decide +kernel
theorem dX2_freePlaces_75 : decode cX2_freePlaces 75 = .ok (.ireturn, 1) := by decide +kernel
theorem dX2_take_0 : decode cX2_take 0 = .ok (.aload_n 0, 1) := by decide +kernel
theorem dX2_take_1 : decode cX2_take 1 = .ok (.getfield 24, 3) := by decide +kernel
theorem dX2_take_4 : decode cX2_take 4 = .ok (.bipush (-10), 2) := by decide +kernel
theorem dX2_take_6 : decode cX2_take 6 = .ok (.invokestatic 69, 3) := by decide +kernel
theorem dX2_take_9 : decode cX2_take 9 = .ok (.aload_n 0, 1) := by decide +kernel
theorem dX2_take_10 : decode cX2_take 10 = .ok (.getfield 27, 3) := by decide +kernel
theorem dX2_take_13 : decode cX2_take 13 = .ok (.iconst 0, 1) := by decide +kernel
theorem dX2_take_14 : decode cX2_take 14 = .ok (.invokestatic 69, 3) := by decide +kernel
theorem dX2_take_17 : decode cX2_take 17 = .ok (.aload_n 0, 1) := by decide +kernel
theorem dX2_take_18 : decode cX2_take 18 = .ok (.getfield 21, 3) := by decide +kernel
theorem dX2_take_21 : decode cX2_take 21 = .ok (.iconst 0, 1) := by decide +kernel
theorem dX2_take_22 : decode cX2_take 22 = .ok (.aload_n 0, 1) := by decide +kernel
theorem dX2_take_23 : decode cX2_take 23 = .ok (.getfield 30, 3) := by decide +kernel
theorem dX2_take_26 : decode cX2_take 26 = .ok (.iconst 0, 1) := by decide +kernel
theorem dX2_take_27 : decode cX2_take 27 = .ok (.aload_n 0, 1) := by decide +kernel
theorem dX2_take_28 : decode cX2_take 28 = .ok (.getfield 45, 3) := by decide +kernel
theorem dX2_take_31 : decode cX2_take 31 = .ok (.invokestatic 75, 3) := by decide +kernel
theorem dX2_take_34 : decode cX2_take 34 = .ok (.iconst 0, 1) := by decide +kernel
theorem dX2_take_35 : decode cX2_take 35 = .ok (.istore_n 3, 1) := by decide +kernel
theorem dX2_take_36 : decode cX2_take 36 = .ok (.iload_n 3, 1) := by decide +kernel
theorem dX2_take_37 : decode cX2_take 37 = .ok (.aload_n 1, 1) := by decide +kernel
theorem dX2_take_38 : decode cX2_take 38 = .ok (.getfield 81, 3) := by decide +kernel
theorem dX2_take_41 : decode cX2_take 41 = .ok (.if_icmp .ge 42, 3) := by decide +kernel
theorem dX2_take_44 : decode cX2_take 44 = .ok (.iload_n 3, 1) := by decide +kernel
theorem dX2_take_45 : decode cX2_take 45 = .ok (.iload_n 2, 1) := by decide +kernel
theorem dX2_take_46 : decode cX2_take 46 = .ok (.if_icmp .eq 31, 3) := by decide +kernel
theorem dX2_take_49 : decode cX2_take 49 = .ok (.aload_n 0, 1) := by decide +kernel
theorem dX2_take_50 : decode cX2_take 50 = .ok (.aload_n 1, 1) := by decide +kernel
theorem dX2_take_51 : decode cX2_take 51 = .ok (.getfield 84, 3) := by decide +kernel
theorem dX2_take_54 : decode cX2_take 54 = .ok (.iload_n 3, 1) := by decide +kernel
theorem dX2_take_55 : decode cX2_take 55 = .ok (.iaload, 1) := by decide +kernel
theorem dX2_take_56 : decode cX2_take 56 = .ok (.aload_n 1, 1) := by decide +kernel
theorem dX2_take_57 : decode cX2_take 57 = .ok (.getfield 87, 3) := by decide +kernel
theorem dX2_take_60 : decode cX2_take 60 = .ok (.iload_n 3, 1) := by decide +kernel
theorem dX2_take_61 : decode cX2_take 61 = .ok (.iaload, 1) := by decide +kernel
theorem dX2_take_62 : decode cX2_take 62 = .ok (.aload_n 1, 1) := by decide +kernel
theorem dX2_take_63 : decode cX2_take 63 = .ok (.getfield 90, 3) := by decide +kernel
theorem dX2_take_66 : decode cX2_take 66 = .ok (.iload_n 3, 1) := by decide +kernel
theorem dX2_take_67 : decode cX2_take 67 = .ok (.iaload, 1) := by decide +kernel
theorem dX2_take_68 : decode cX2_take 68 = .ok (.aload_n 1, 1) := by decide +kernel
theorem dX2_take_69 : decode cX2_take 69 = .ok (.getfield 93, 3) := by decide +kernel
theorem dX2_take_72 : decode cX2_take 72 = .ok (.iload_n 3, 1) := by decide +kernel
theorem dX2_take_73 : decode cX2_take 73 = .ok (.iaload, 1) := by decide +kernel
theorem dX2_take_74 : decode cX2_take 74 = .ok (.invokevirtual 96, 3) := by decide +kernel
theorem dX2_take_77 : decode cX2_take 77 = .ok (.iinc 3 1, 3) := by decide +kernel
theorem dX2_take_80 : decode cX2_take 80 = .ok (.goto (-44), 3) := by decide +kernel
theorem dX2_take_83 : decode cX2_take 83 = .ok (.iconst 0, 1) := by decide +kernel
theorem dX2_take_84 : decode cX2_take 84 = .ok (.istore_n 3, 1) := by decide +kernel
theorem dX2_take_85 : decode cX2_take 85 = .ok (.iload_n 3, 1) := by decide +kernel
theorem dX2_take_86 : decode cX2_take 86 = .ok (.bipush 10, 2) := by decide +kernel
theorem dX2_take_88 : decode cX2_take 88 = .ok (.if_icmp .ge 13, 3) := by decide +kernel
theorem dX2_take_91 : decode cX2_take 91 = .ok (.aload_n 0, 1) := by decide +kernel
theorem dX2_take_92 : decode cX2_take 92 = .ok (.invokevirtual 100, 3) := by decide +kernel
theorem dX2_take_95 : decode cX2_take 95 = .ok (.iinc 3 1, 3) := by decide +kernel
theorem dX2_take_98 : decode cX2_take 98 = .ok (.goto (-13), 3) := by decide +kernel
theorem dX2_take_101 : decode cX2_take 101 = .ok (.return_, 1) := by decide +kernel
theorem dJ7_fill_0 : decode cJ7_fill 0 = .ok (.iconst 0, 1) := by decide +kernel
theorem dJ7_fill_1 : decode cJ7_fill 1 = .ok (.istore_n 2, 1) := by decide +kernel
theorem dJ7_fill_2 : decode cJ7_fill 2 = .ok (.aload_n 0, 1) := by decide +kernel
theorem dJ7_fill_3 : decode cJ7_fill 3 = .ok (.arraylength, 1) := by decide +kernel
theorem dJ7_fill_4 : decode cJ7_fill 4 = .ok (.istore_n 3, 1) := by decide +kernel
theorem dJ7_fill_5 : decode cJ7_fill 5 = .ok (.iload_n 2, 1) := by decide +kernel
theorem dJ7_fill_6 : decode cJ7_fill 6 = .ok (.iload_n 3, 1) := by decide +kernel
theorem dJ7_fill_7 : decode cJ7_fill 7 = .ok (.if_icmp .ge 13, 3) := by decide +kernel
theorem dJ7_fill_10 : decode cJ7_fill 10 = .ok (.aload_n 0, 1) := by decide +kernel
theorem dJ7_fill_11 : decode cJ7_fill 11 = .ok (.iload_n 2, 1) := by decide +kernel
theorem dJ7_fill_12 : decode cJ7_fill 12 = .ok (.iload_n 1, 1) := by decide +kernel
theorem dJ7_fill_13 : decode cJ7_fill 13 = .ok (.iastore, 1) := by decide +kernel
theorem dJ7_fill_14 : decode cJ7_fill 14 = .ok (.iinc 2 1, 3) := by decide +kernel
theorem dJ7_fill_17 : decode cJ7_fill 17 = .ok (.goto (-12), 3) := by decide +kernel
theorem dJ7_fill_20 : decode cJ7_fill 20 = .ok (.return_, 1) := by decide +kernel
theorem dX2_takeOne_0 : decode cX2_takeOne 0 = .ok (.iload_n 1, 1) := by decide +kernel
theorem dX2_takeOne_1 : decode cX2_takeOne 1 = .ok (.ifCond .ne 32, 3) := by decide +kernel
theorem dX2_takeOne_4 : decode cX2_takeOne 4 = .ok (.iload_n 2, 1) := by decide +kernel
theorem dX2_takeOne_5 : decode cX2_takeOne 5 = .ok (.iconst 4, 1) := by decide +kernel
theorem dX2_takeOne_6 : decode cX2_takeOne 6 = .ok (.imul, 1) := by decide +kernel
theorem dX2_takeOne_7 : decode cX2_takeOne 7 = .ok (.iload_n 3, 1) := by decide +kernel
theorem dX2_takeOne_8 : decode cX2_takeOne 8 = .ok (.iadd, 1) := by decide +kernel
theorem dX2_takeOne_9 : decode cX2_takeOne 9 = .ok (.istore 5, 2) := by decide +kernel
theorem dX2_takeOne_11 : decode cX2_takeOne 11 = .ok (.aload_n 0, 1) := by decide +kernel
theorem dX2_takeOne_12 : decode cX2_takeOne 12 = .ok (.getfield 24, 3) := by decide +kernel
theorem dX2_takeOne_15 : decode cX2_takeOne 15 = .ok (.iload 5, 2) := by decide +kernel
theorem dX2_takeOne_17 : decode cX2_takeOne 17 = .ok (.aload_n 0, 1) := by decide +kernel
theorem dX2_takeOne_18 : decode cX2_takeOne 18 = .ok (.getfield 24, 3) := by decide +kernel
theorem dX2_takeOne_21 : decode cX2_takeOne 21 = .ok (.iload 5, 2) := by decide +kernel
theorem dX2_takeOne_23 : decode cX2_takeOne 23 = .ok (.iaload, 1) := by decide +kernel
theorem dX2_takeOne_24 : decode cX2_takeOne 24 = .ok (.iload 4, 2) := by decide +kernel
theorem dX2_takeOne_26 : decode cX2_takeOne 26 = .ok (.invokestatic 103, 3) := by decide +kernel
theorem dX2_takeOne_29 : decode cX2_takeOne 29 = .ok (.iastore, 1) := by decide +kernel
theorem dX2_takeOne_30 : decode cX2_takeOne 30 = .ok (.goto 92, 3) := by decide +kernel
theorem dX2_takeOne_33 : decode cX2_takeOne 33 = .ok (.iload_n 1, 1) := by decide +kernel
theorem dX2_takeOne_34 : decode cX2_takeOne 34 = .ok (.iconst 1, 1) := by decide +kernel
theorem dX2_takeOne_35 : decode cX2_takeOne 35 = .ok (.if_icmp .ne 30, 3) := by decide +kernel
theorem dX2_takeOne_38 : decode cX2_takeOne 38 = .ok (.aload_n 0, 1) := by decide +kernel
theorem dX2_takeOne_39 : decode cX2_takeOne 39 = .ok (.getfield 27, 3) := by decide +kernel
theorem dX2_takeOne_42 : decode cX2_takeOne 42 = .ok (.iload_n 2, 1) := by decide +kernel
theorem dX2_takeOne_43 : decode cX2_takeOne 43 = .ok (.dup2, 1) := by decide +kernel
theorem dX2_takeOne_44 : decode cX2_takeOne 44 = .ok (.iaload, 1) := by decide +kernel
theorem dX2_takeOne_45 : decode cX2_takeOne 45 = .ok (.iconst 1, 1) := by decide +kernel
theorem dX2_takeOne_46 : decode cX2_takeOne 46 = .ok (.iload_n 3, 1) := by decide +kernel
theorem dX2_takeOne_47 : decode cX2_takeOne 47 = .ok (.ishl, 1) := by decide +kernel
theorem dX2_takeOne_48 : decode cX2_takeOne 48 = .ok (.ior, 1) := by decide +kernel
theorem dX2_takeOne_49 : decode cX2_takeOne 49 = .ok (.iastore, 1) := by decide +kernel
theorem dX2_takeOne_50 : decode cX2_takeOne 50 = .ok (.aload_n 0, 1) := by decide +kernel
theorem dX2_takeOne_51 : decode cX2_takeOne 51 = .ok (.getfield 27, 3) := by decide +kernel
theorem dX2_takeOne_54 : decode cX2_takeOne 54 = .ok (.iload_n 3, 1) := by decide +kernel
theorem dX2_takeOne_55 : decode cX2_takeOne 55 = .ok (.dup2, 1) := by decide +kernel
theorem dX2_takeOne_56 : decode cX2_takeOne 56 = .ok (.iaload, 1) := by decide +kernel
theorem dX2_takeOne_57 : decode cX2_takeOne 57 = .ok (.iconst 1, 1) := by decide +kernel
theorem dX2_takeOne_58 : decode cX2_takeOne 58 = .ok (.iload_n 2, 1) := by decide +kernel
theorem dX2_takeOne_59 : decode cX2_takeOne 59 = .ok (.ishl, 1) := by decide +kernel
theorem dX2_takeOne_60 : decode cX2_takeOne 60 = .ok (.ior, 1) := by decide +kernel
theorem dX2_takeOne_61 : decode cX2_takeOne 61 = .ok (.iastore, 1) := by decide +kernel
theorem dX2_takeOne_62 : decode cX2_takeOne 62 = .ok (.goto 60, 3) := by decide +kernel
theorem dX2_takeOne_65 : decode cX2_takeOne 65 = .ok (.iload_n 1, 1) := by decide +kernel
theorem dX2_takeOne_66 : decode cX2_takeOne 66 = .ok (.iconst 2, 1) := by decide +kernel
theorem dX2_takeOne_67 : decode cX2_takeOne 67 = .ok (.if_icmp .ne 31, 3) := by decide +kernel
theorem dX2_takeOne_70 : decode cX2_takeOne 70 = .ok (.aload_n 0, 1) := by decide +kernel
theorem dX2_takeOne_71 : decode cX2_takeOne 71 = .ok (.getfield 30, 3) := by decide +kernel
theorem dX2_takeOne_74 : decode cX2_takeOne 74 = .ok (.iload_n 2, 1) := by decide +kernel
theorem dX2_takeOne_75 : decode cX2_takeOne 75 = .ok (.dup2, 1) := by decide +kernel
theorem dX2_takeOne_76 : decode cX2_takeOne 76 = .ok (.iaload, 1) := by decide +kernel
theorem dX2_takeOne_77 : decode cX2_takeOne 77 = .ok (.iconst 0, 1) := by decide +kernel
theorem dX2_takeOne_78 : decode cX2_takeOne 78 = .ok (.iload 4, 2) := by decide +kernel
theorem dX2_takeOne_80 : decode cX2_takeOne 80 = .ok (.aload_n 0, 1) := by decide +kernel
theorem dX2_takeOne_81 : decode cX2_takeOne 81 = .ok (.getfield 15, 3) := by decide +kernel
theorem dX2_takeOne_84 : decode cX2_takeOne 84 = .ok (.iload_n 2, 1) := by decide +kernel
theorem dX2_takeOne_85 : decode cX2_takeOne 85 = .ok (.iaload, 1) := by decide +kernel
theorem dX2_takeOne_86 : decode cX2_takeOne 86 = .ok (.isub, 1) := by decide +kernel
theorem dX2_takeOne_87 : decode cX2_takeOne 87 = .ok (.invokestatic 50, 3) := by decide +kernel
theorem dX2_takeOne_90 : decode cX2_takeOne 90 = .ok (.invokestatic 108, 3) := by decide +kernel
theorem dX2_takeOne_93 : decode cX2_takeOne 93 = .ok (.iand, 1) := by decide +kernel
theorem dX2_takeOne_94 : decode cX2_takeOne 94 = .ok (.iastore, 1) := by decide +kernel
theorem dX2_takeOne_95 : decode cX2_takeOne 95 = .ok (.goto 27, 3) := by decide +kernel
theorem dX2_takeOne_98 : decode cX2_takeOne 98 = .ok (.iload_n 1, 1) := by decide +kernel
theorem dX2_takeOne_99 : decode cX2_takeOne 99 = .ok (.iconst 3, 1) := by decide +kernel
theorem dX2_takeOne_100 : decode cX2_takeOne 100 = .ok (.if_icmp .ne 22, 3) := by decide +kernel
theorem dX2_takeOne_103 : decode cX2_takeOne 103 = .ok (.aload_n 0, 1) := by decide +kernel
theorem dX2_takeOne_104 : decode cX2_takeOne 104 = .ok (.getfield 30, 3) := by decide +kernel
theorem dX2_takeOne_107 : decode cX2_takeOne 107 = .ok (.iload_n 2, 1) := by decide +kernel
theorem dX2_takeOne_108 : decode cX2_takeOne 108 = .ok (.dup2, 1) := by decide +kernel
theorem dX2_takeOne_109 : decode cX2_takeOne 109 = .ok (.iaload, 1) := by decide +kernel
theorem dX2_takeOne_110 : decode cX2_takeOne 110 = .ok (.iload 4, 2) := by decide +kernel
theorem dX2_takeOne_112 : decode cX2_takeOne 112 = .ok (.bipush 9, 2) := by decide +kernel
theorem dX2_takeOne_114 : decode cX2_takeOne 114 = .ok (.invokestatic 50, 3) := by decide +kernel
theorem dX2_takeOne_117 : decode cX2_takeOne 117 = .ok (.invokestatic 108, 3) := by decide +kernel
theorem dX2_takeOne_120 : decode cX2_takeOne 120 = .ok (.iand, 1) := by decide +kernel
theorem dX2_takeOne_121 : decode cX2_takeOne 121 = .ok (.iastore, 1) := by decide +kernel
theorem dX2_takeOne_122 : decode cX2_takeOne 122 = .ok (.return_, 1) := by decide +kernel
theorem dX2_inEveryTank_0 : decode cX2_inEveryTank 0 = .ok (.iload_n 0, 1) := by decide +kernel
theorem dX2_inEveryTank_1 : decode cX2_inEveryTank 1 = .ok (.ldc 156, 2) := by decide +kernel
theorem dX2_inEveryTank_3 : decode cX2_inEveryTank 3 = .ok (.imul, 1) := by decide +kernel
theorem dX2_inEveryTank_4 : decode cX2_inEveryTank 4 = .ok (.ireturn, 1) := by decide +kernel
theorem dX2_closeByLags_0 : decode cX2_closeByLags 0 = .ok (.iconst 0, 1) := by decide +kernel
theorem dX2_closeByLags_1 : decode cX2_closeByLags 1 = .ok (.istore_n 1, 1) := by decide +kernel
theorem dX2_closeByLags_2 : decode cX2_closeByLags 2 = .ok (.iload_n 1, 1) := by decide +kernel
theorem dX2_closeByLags_3 : decode cX2_closeByLags 3 = .ok (.aload_n 0, 1) := by decide +kernel
theorem dX2_closeByLags_4 : decode cX2_closeByLags 4 = .ok (.getfield 45, 3) := by decide +kernel
theorem dX2_closeByLags_7 : decode cX2_closeByLags 7 = .ok (.if_icmp .ge 109, 3) := by decide +kernel
theorem dX2_closeByLags_10 : decode cX2_closeByLags 10 = .ok (.iconst 0, 1) := by decide +kernel
theorem dX2_closeByLags_11 : decode cX2_closeByLags 11 = .ok (.istore_n 2, 1) := by decide +kernel
theorem dX2_closeByLags_12 : decode cX2_closeByLags 12 = .ok (.iload_n 2, 1) := by decide +kernel
theorem dX2_closeByLags_13 : decode cX2_closeByLags 13 = .ok (.aload_n 0, 1) := by decide +kernel
theorem dX2_closeByLags_14 : decode cX2_closeByLags 14 = .ok (.getfield 45, 3) := by decide +kernel
theorem dX2_closeByLags_17 : decode cX2_closeByLags 17 = .ok (.if_icmp .ge 93, 3) := by decide +kernel
theorem dX2_closeByLags_20 : decode cX2_closeByLags 20 = .ok (.aload_n 0, 1) := by decide +kernel
theorem dX2_closeByLags_21 : decode cX2_closeByLags 21 = .ok (.getfield 24, 3) := by decide +kernel
theorem dX2_closeByLags_24 : decode cX2_closeByLags 24 = .ok (.iload_n 1, 1) := by decide +kernel
theorem dX2_closeByLags_25 : decode cX2_closeByLags 25 = .ok (.iconst 4, 1) := by decide +kernel
theorem dX2_closeByLags_26 : decode cX2_closeByLags 26 = .ok (.imul, 1) := by decide +kernel
theorem dX2_closeByLags_27 : decode cX2_closeByLags 27 = .ok (.iload_n 2, 1) := by decide +kernel
theorem dX2_closeByLags_28 : decode cX2_closeByLags 28 = .ok (.iadd, 1) := by decide +kernel
