theorem dX0_init_0 : decode cX0_init 0 = .ok (.aload_n 0, 1) := by decide +kernel
theorem dX0_init_1 : decode cX0_init 1 = .ok (.invokespecial 3, 3) := by decide +kernel
theorem dX0_init_4 : decode cX0_init 4 = .ok (.aload_n 0, 1) := by decide +kernel
theorem dX0_init_5 : decode cX0_init 5 = .ok (.iconst 1, 1) := by decide +kernel
theorem dX0_init_6 : decode cX0_init 6 = .ok (.putfield 9, 3) := by decide +kernel
theorem dX0_init_9 : decode cX0_init 9 = .ok (.aload_n 0, 1) := by decide +kernel
theorem dX0_init_10 : decode cX0_init 10 = .ok (.iload_n 1, 1) := by decide +kernel
theorem dX0_init_11 : decode cX0_init 11 = .ok (.putfield 15, 3) := by decide +kernel
theorem dX0_init_14 : decode cX0_init 14 = .ok (.aload_n 0, 1) := by decide +kernel
theorem dX0_init_15 : decode cX0_init 15 = .ok (.iload_n 2, 1) := by decide +kernel
theorem dX0_init_16 : decode cX0_init 16 = .ok (.putfield 19, 3) := by decide +kernel
theorem dX0_init_19 : decode cX0_init 19 = .ok (.aload_n 0, 1) := by decide +kernel
theorem dX0_init_20 : decode cX0_init 20 = .ok (.iload_n 3, 1) := by decide +kernel
theorem dX0_init_21 : decode cX0_init 21 = .ok (.putfield 22, 3) := by decide +kernel
theorem dX0_init_24 : decode cX0_init 24 = .ok (.aload_n 0, 1) := by decide +kernel
theorem dX0_init_25 : decode cX0_init 25 = .ok (.iload 4, 2) := by decide +kernel
theorem dX0_init_27 : decode cX0_init 27 = .ok (.putfield 25, 3) := by decide +kernel
theorem dX0_init_30 : decode cX0_init 30 = .ok (.aload_n 0, 1) := by decide +kernel
theorem dX0_init_31 : decode cX0_init 31 = .ok (.iload 5, 2) := by decide +kernel
theorem dX0_init_33 : decode cX0_init 33 = .ok (.putfield 28, 3) := by decide +kernel
theorem dX0_init_36 : decode cX0_init 36 = .ok (.return_, 1) := by decide +kernel
theorem dX0_isNaming_0 : decode cX0_isNaming 0 = .ok (.aload_n 0, 1) := by decide +kernel
theorem dX0_isNaming_1 : decode cX0_isNaming 1 = .ok (.getfield 22, 3) := by decide +kernel
theorem dX0_isNaming_4 : decode cX0_isNaming 4 = .ok (.iload_n 1, 1) := by decide +kernel
theorem dX0_isNaming_5 : decode cX0_isNaming 5 = .ok (.if_icmp .eq 19, 3) := by decide +kernel
theorem dX0_isNaming_8 : decode cX0_isNaming 8 = .ok (.aload_n 0, 1) := by decide +kernel
theorem dX0_isNaming_9 : decode cX0_isNaming 9 = .ok (.getfield 19, 3) := by decide +kernel
theorem dX0_isNaming_12 : decode cX0_isNaming 12 = .ok (.iconst 5, 1) := by decide +kernel
theorem dX0_isNaming_13 : decode cX0_isNaming 13 = .ok (.if_icmp .ne 15, 3) := by decide +kernel
theorem dX0_isNaming_16 : decode cX0_isNaming 16 = .ok (.aload_n 0, 1) := by decide +kernel
theorem dX0_isNaming_17 : decode cX0_isNaming 17 = .ok (.getfield 25, 3) := by decide +kernel
theorem dX0_isNaming_20 : decode cX0_isNaming 20 = .ok (.iload_n 1, 1) := by decide +kernel
theorem dX0_isNaming_21 : decode cX0_isNaming 21 = .ok (.if_icmp .ne 7, 3) := by decide +kernel
theorem dX0_isNaming_24 : decode cX0_isNaming 24 = .ok (.iconst 1, 1) := by decide +kernel
theorem dX0_isNaming_25 : decode cX0_isNaming 25 = .ok (.goto 4, 3) := by decide +kernel
theorem dX0_isNaming_28 : decode cX0_isNaming 28 = .ok (.iconst 0, 1) := by decide +kernel
theorem dX0_isNaming_29 : decode cX0_isNaming 29 = .ok (.ireturn, 1) := by decide +kernel
theorem dX1_init_0 : decode cX1_init 0 = .ok (.aload_n 0, 1) := by decide +kernel
theorem dX1_init_1 : decode cX1_init 1 = .ok (.invokespecial 3, 3) := by decide +kernel
theorem dX1_init_4 : decode cX1_init 4 = .ok (.aload_n 0, 1) := by decide +kernel
theorem dX1_init_5 : decode cX1_init 5 = .ok (.bipush 40, 2) := by decide +kernel
theorem dX1_init_7 : decode cX1_init 7 = .ok (.newarray .int, 2) := by decide +kernel
theorem dX1_init_9 : decode cX1_init 9 = .ok (.putfield 9, 3) := by decide +kernel
theorem dX1_init_12 : decode cX1_init 12 = .ok (.aload_n 0, 1) := by decide +kernel
theorem dX1_init_13 : decode cX1_init 13 = .ok (.bipush 40, 2) := by decide +kernel
theorem dX1_init_15 : decode cX1_init 15 = .ok (.newarray .int, 2) := by decide +kernel
theorem dX1_init_17 : decode cX1_init 17 = .ok (.putfield 15, 3) := by decide +kernel
theorem dX1_init_20 : decode cX1_init 20 = .ok (.aload_n 0, 1) := by decide +kernel
theorem dX1_init_21 : decode cX1_init 21 = .ok (.bipush 40, 2) := by decide +kernel
theorem dX1_init_23 : decode cX1_init 23 = .ok (.newarray .int, 2) := by decide +kernel
theorem dX1_init_25 : decode cX1_init 25 = .ok (.putfield 18, 3) := by decide +kernel
theorem dX1_init_28 : decode cX1_init 28 = .ok (.aload_n 0, 1) := by decide +kernel
theorem dX1_init_29 : decode cX1_init 29 = .ok (.bipush 40, 2) := by decide +kernel
theorem dX1_init_31 : decode cX1_init 31 = .ok (.newarray .int, 2) := by decide +kernel
theorem dX1_init_33 : decode cX1_init 33 = .ok (.putfield 21, 3) := by decide +kernel
theorem dX1_init_36 : decode cX1_init 36 = .ok (.aload_n 0, 1) := by decide +kernel
theorem dX1_init_37 : decode cX1_init 37 = .ok (.bipush 40, 2) := by decide +kernel
theorem dX1_init_39 : decode cX1_init 39 = .ok (.newarray .int, 2) := by decide +kernel
theorem dX1_init_41 : decode cX1_init 41 = .ok (.putfield 24, 3) := by decide +kernel
theorem dX1_init_44 : decode cX1_init 44 = .ok (.aload_n 0, 1) := by decide +kernel
theorem dX1_init_45 : decode cX1_init 45 = .ok (.bipush 40, 2) := by decide +kernel
theorem dX1_init_47 : decode cX1_init 47 = .ok (.newarray .int, 2) := by decide +kernel
theorem dX1_init_49 : decode cX1_init 49 = .ok (.putfield 27, 3) := by decide +kernel
theorem dX1_init_52 : decode cX1_init 52 = .ok (.aload_n 0, 1) := by decide +kernel
theorem dX1_init_53 : decode cX1_init 53 = .ok (.bipush 40, 2) := by decide +kernel
theorem dX1_init_55 : decode cX1_init 55 = .ok (.newarray .long, 2) := by decide +kernel
theorem dX1_init_57 : decode cX1_init 57 = .ok (.putfield 30, 3) := by decide +kernel
theorem dX1_init_60 : decode cX1_init 60 = .ok (.return_, 1) := by decide +kernel
theorem dX1_clear_0 : decode cX1_clear 0 = .ok (.aload_n 0, 1) := by decide +kernel
theorem dX1_clear_1 : decode cX1_clear 1 = .ok (.lconst 0, 1) := by decide +kernel
theorem dX1_clear_2 : decode cX1_clear 2 = .ok (.putfield 34, 3) := by decide +kernel
theorem dX1_clear_5 : decode cX1_clear 5 = .ok (.aload_n 0, 1) := by decide +kernel
theorem dX1_clear_6 : decode cX1_clear 6 = .ok (.iconst 0, 1) := by decide +kernel
theorem dX1_clear_7 : decode cX1_clear 7 = .ok (.putfield 38, 3) := by decide +kernel
theorem dX1_clear_10 : decode cX1_clear 10 = .ok (.aload_n 0, 1) := by decide +kernel
theorem dX1_clear_11 : decode cX1_clear 11 = .ok (.iconst 0, 1) := by decide +kernel
theorem dX1_clear_12 : decode cX1_clear 12 = .ok (.putfield 42, 3) := by decide +kernel
theorem dX1_clear_15 : decode cX1_clear 15 = .ok (.return_, 1) := by decide +kernel
theorem dX1_copy_0 : decode cX1_copy 0 = .ok (.aload_n 1, 1) := by decide +kernel
theorem dX1_copy_1 : decode cX1_copy 1 = .ok (.getfield 9, 3) := by decide +kernel
theorem dX1_copy_4 : decode cX1_copy 4 = .ok (.iconst 0, 1) := by decide +kernel
theorem dX1_copy_5 : decode cX1_copy 5 = .ok (.aload_n 0, 1) := by decide +kernel
theorem dX1_copy_6 : decode cX1_copy 6 = .ok (.getfield 9, 3) := by decide +kernel
theorem dX1_copy_9 : decode cX1_copy 9 = .ok (.iconst 0, 1) := by decide +kernel
theorem dX1_copy_10 : decode cX1_copy 10 = .ok (.bipush 40, 2) := by decide +kernel
theorem dX1_copy_12 : decode cX1_copy 12 = .ok (.invokestatic 45, 3) := by decide +kernel
theorem dX1_copy_15 : decode cX1_copy 15 = .ok (.aload_n 1, 1) := by decide +kernel
theorem dX1_copy_16 : decode cX1_copy 16 = .ok (.getfield 15, 3) := by decide +kernel
theorem dX1_copy_19 : decode cX1_copy 19 = .ok (.iconst 0, 1) := by decide +kernel
theorem dX1_copy_20 : decode cX1_copy 20 = .ok (.aload_n 0, 1) := by decide +kernel
theorem dX1_copy_21 : decode cX1_copy 21 = .ok (.getfield 15, 3) := by decide +kernel
theorem dX1_copy_24 : decode cX1_copy 24 = .ok (.iconst 0, 1) := by decide +kernel
theorem dX1_copy_25 : decode cX1_copy 25 = .ok (.bipush 40, 2) := by decide +kernel
theorem dX1_copy_27 : decode cX1_copy 27 = .ok (.invokestatic 45, 3) := by decide +kernel
theorem dX1_copy_30 : decode cX1_copy 30 = .ok (.aload_n 1, 1) := by decide +kernel
theorem dX1_copy_31 : decode cX1_copy 31 = .ok (.getfield 18, 3) := by decide +kernel
theorem dX1_copy_34 : decode cX1_copy 34 = .ok (.iconst 0, 1) := by decide +kernel
theorem dX1_copy_35 : decode cX1_copy 35 = .ok (.aload_n 0, 1) := by decide +kernel
theorem dX1_copy_36 : decode cX1_copy 36 = .ok (.getfield 18, 3) := by decide +kernel
theorem dX1_copy_39 : decode cX1_copy 39 = .ok (.iconst 0, 1) := by decide +kernel
theorem dX1_copy_40 : decode cX1_copy 40 = .ok (.bipush 40, 2) := by decide +kernel
theorem dX1_copy_42 : decode cX1_copy 42 = .ok (.invokestatic 45, 3) := by decide +kernel
theorem dX1_copy_45 : decode cX1_copy 45 = .ok (.aload_n 1, 1) := by decide +kernel
theorem dX1_copy_46 : decode cX1_copy 46 = .ok (.getfield 21, 3) := by decide +kernel
theorem dX1_copy_49 : decode cX1_copy 49 = .ok (.iconst 0, 1) := by decide +kernel
theorem dX1_copy_50 : decode cX1_copy 50 = .ok (.aload_n 0, 1) := by decide +kernel
theorem dX1_copy_51 : decode cX1_copy 51 = .ok (.getfield 21, 3) := by decide +kernel
theorem dX1_copy_54 : decode cX1_copy 54 = .ok (.iconst 0, 1) := by decide +kernel
theorem dX1_copy_55 : decode cX1_copy 55 = .ok (.bipush 40, 2) := by decide +kernel
theorem dX1_copy_57 : decode cX1_copy 57 = .ok (.invokestatic 45, 3) := by decide +kernel
theorem dX1_copy_60 : decode cX1_copy 60 = .ok (.aload_n 1, 1) := by decide +kernel
theorem dX1_copy_61 : decode cX1_copy 61 = .ok (.getfield 24, 3) := by decide +kernel
theorem dX1_copy_64 : decode cX1_copy 64 = .ok (.iconst 0, 1) := by decide +kernel
theorem dX1_copy_65 : decode cX1_copy 65 = .ok (.aload_n 0, 1) := by decide +kernel
theorem dX1_copy_66 : decode cX1_copy 66 = .ok (.getfield 24, 3) := by decide +kernel
theorem dX1_copy_69 : decode cX1_copy 69 = .ok (.iconst 0, 1) := by decide +kernel
theorem dX1_copy_70 : decode cX1_copy 70 = .ok (.bipush 40, 2) := by decide +kernel
theorem dX1_copy_72 : decode cX1_copy 72 = .ok (.invokestatic 45, 3) := by decide +kernel
theorem dX1_copy_75 : decode cX1_copy 75 = .ok (.aload_n 1, 1) := by decide +kernel
theorem dX1_copy_76 : decode cX1_copy 76 = .ok (.getfield 27, 3) := by decide +kernel
theorem dX1_copy_79 : decode cX1_copy 79 = .ok (.iconst 0, 1) := by decide +kernel
theorem dX1_copy_80 : decode cX1_copy 80 = .ok (.aload_n 0, 1) := by decide +kernel
theorem dX1_copy_81 : decode cX1_copy 81 = .ok (.getfield 27, 3) := by decide +kernel
theorem dX1_copy_84 : decode cX1_copy 84 = .ok (.iconst 0, 1) := by decide +kernel
theorem dX1_copy_85 : decode cX1_copy 85 = .ok (.bipush 40, 2) := by decide +kernel
theorem dX1_copy_87 : decode cX1_copy 87 = .ok (.invokestatic 45, 3) := by decide +kernel
theorem dX1_copy_90 : decode cX1_copy 90 = .ok (.aload_n 0, 1) := by decide +kernel
theorem dX1_copy_91 : decode cX1_copy 91 = .ok (.aload_n 1, 1) := by decide +kernel
theorem dX1_copy_92 : decode cX1_copy 92 = .ok (.getfield 34, 3) := by decide +kernel
theorem dX1_copy_95 : decode cX1_copy 95 = .ok (.putfield 34, 3) := by decide +kernel
theorem dX1_copy_98 : decode cX1_copy 98 = .ok (.return_, 1) := by decide +kernel
theorem dX1_has_0 : decode cX1_has 0 = .ok (.iload_n 1, 1) := by decide +kernel
theorem dX1_has_1 : decode cX1_has 1 = .ok (.ifCond .lt 27, 3) := by decide +kernel
theorem dX1_has_4 : decode cX1_has 4 = .ok (.iload_n 1, 1) := by decide +kernel
theorem dX1_has_5 : decode cX1_has 5 = .ok (.bipush 40, 2) := by decide +kernel
theorem dX1_has_7 : decode cX1_has 7 = .ok (.if_icmp .ge 21, 3) := by decide +kernel
theorem dX1_has_10 : decode cX1_has 10 = .ok (.aload_n 0, 1) := by decide +kernel
theorem dX1_has_11 : decode cX1_has 11 = .ok (.getfield 34, 3) := by decide +kernel
theorem dX1_has_14 : decode cX1_has 14 = .ok (.iload_n 1, 1) := by decide +kernel
theorem dX1_has_15 : decode cX1_has 15 = .ok (.invokestatic 51, 3) := by decide +kernel
theorem dX1_has_18 : decode cX1_has 18 = .ok (.land, 1) := by decide +kernel
theorem dX1_has_19 : decode cX1_has 19 = .ok (.lconst 0, 1) := by decide +kernel
theorem dX1_has_20 : decode cX1_has 20 = .ok (.lcmp, 1) := by decide +kernel
theorem dX1_has_21 : decode cX1_has 21 = .ok (.ifCond .eq 7, 3) := by decide +kernel
theorem dX1_has_24 : decode cX1_has 24 = .ok (.iconst 1, 1) := by decide +kernel
theorem dX1_has_25 : decode cX1_has 25 = .ok (.goto 4, 3) := by decide +kernel
theorem dX1_has_28 : decode cX1_has 28 = .ok (.iconst 0, 1) := by decide +kernel
theorem dX1_has_29 : decode cX1_has 29 = .ok (.ireturn, 1) := by decide +kernel
theorem dX1_groupSize_0 : decode cX1_groupSize 0 = .ok (.aload_n 0, 1) := by decide +kernel
theorem dX1_groupSize_1 : decode cX1_groupSize 1 = .ok (.iload_n 1, 1) := by decide +kernel
theorem dX1_groupSize_2 : decode cX1_groupSize 2 = .ok (.invokevirtual 55, 3) := by decide +kernel
theorem dX1_groupSize_5 : decode cX1_groupSize 5 = .ok (.ifCond .eq 15, 3) := by decide +kernel
theorem dX1_groupSize_8 : decode cX1_groupSize 8 = .ok (.aload_n 0, 1) := by decide +kernel
theorem dX1_groupSize_9 : decode cX1_groupSize 9 = .ok (.getfield 30, 3) := by decide +kernel
theorem dX1_groupSize_12 : decode cX1_groupSize 12 = .ok (.iload_n 1, 1) := by decide +kernel
theorem dX1_groupSize_13 : decode cX1_groupSize 13 = .ok (.laload, 1) := by decide +kernel
theorem dX1_groupSize_14 : decode cX1_groupSize 14 = .ok (.invokestatic 59, 3) := by decide +kernel
theorem dX1_groupSize_17 : decode cX1_groupSize 17 = .ok (.goto 4, 3) := by decide +kernel
theorem dX1_groupSize_20 : decode cX1_groupSize 20 = .ok (.iconst 0, 1) := by decide +kernel
theorem dX1_groupSize_21 : decode cX1_groupSize 21 = .ok (.ireturn, 1) := by decide +kernel
theorem dX1_countBelow_0 : decode cX1_countBelow 0 = .ok (.iconst 0, 1) := by decide +kernel
theorem dX1_countBelow_1 : decode cX1_countBelow 1 = .ok (.istore_n 2, 1) := by decide +kernel
theorem dX1_countBelow_2 : decode cX1_countBelow 2 = .ok (.iconst 0, 1) := by decide +kernel
theorem dX1_countBelow_3 : decode cX1_countBelow 3 = .ok (.istore_n 3, 1) := by decide +kernel
theorem dX1_countBelow_4 : decode cX1_countBelow 4 = .ok (.iload_n 3, 1) := by decide +kernel
theorem dX1_countBelow_5 : decode cX1_countBelow 5 = .ok (.bipush 40, 2) := by decide +kernel
theorem dX1_countBelow_7 : decode cX1_countBelow 7 = .ok (.if_icmp .ge 35, 3) := by decide +kernel
theorem dX1_countBelow_10 : decode cX1_countBelow 10 = .ok (.aload_n 0, 1) := by decide +kernel
theorem dX1_countBelow_11 : decode cX1_countBelow 11 = .ok (.iload_n 3, 1) := by decide +kernel
theorem dX1_countBelow_12 : decode cX1_countBelow 12 = .ok (.invokevirtual 55, 3) := by decide +kernel
theorem dX1_countBelow_15 : decode cX1_countBelow 15 = .ok (.ifCond .eq 21, 3) := by decide +kernel
theorem dX1_countBelow_18 : decode cX1_countBelow 18 = .ok (.aload_n 0, 1) := by decide +kernel
theorem dX1_countBelow_19 : decode cX1_countBelow 19 = .ok (.getfield 27, 3) := by decide +kernel
theorem dX1_countBelow_22 : decode cX1_countBelow 22 = .ok (.iload_n 3, 1) := by decide +kernel
theorem dX1_countBelow_23 : decode cX1_countBelow 23 = .ok (.iaload, 1) := by decide +kernel
theorem dX1_countBelow_24 : decode cX1_countBelow 24 = .ok (.aload_n 0, 1) := by decide +kernel
theorem dX1_countBelow_25 : decode cX1_countBelow 25 = .ok (.getfield 27, 3) := by decide +kernel
theorem dX1_countBelow_28 : decode cX1_countBelow 28 = .ok (.iload_n 1, 1) := by decide +kernel
theorem dX1_countBelow_29 : decode cX1_countBelow 29 = .ok (.iaload, 1) := by decide +kernel
theorem dX1_countBelow_30 : decode cX1_countBelow 30 = .ok (.if_icmp .ge 6, 3) := by decide +kernel
theorem dX1_countBelow_33 : decode cX1_countBelow 33 = .ok (.iinc 2 1, 3) := by decide +kernel
theorem dX1_countBelow_36 : decode cX1_countBelow 36 = .ok (.iinc 3 1, 3) := by decide +kernel
theorem dX1_countBelow_39 : decode cX1_countBelow 39 = .ok (.goto (-35), 3) := by decide +kernel
theorem dX1_countBelow_42 : decode cX1_countBelow 42 = .ok (.iload_n 2, 1) := by decide +kernel
theorem dX1_countBelow_43 : decode cX1_countBelow 43 = .ok (.ireturn, 1) := by decide +kernel
theorem dX1_put_0 : decode cX1_put 0 = .ok (.iload_n 1, 1) := by decide +kernel
theorem dX1_put_1 : decode cX1_put 1 = .ok (.ifCond .lt 9, 3) := by decide +kernel
theorem dX1_put_4 : decode cX1_put 4 = .ok (.iload_n 1, 1) := by decide +kernel
theorem dX1_put_5 : decode cX1_put 5 = .ok (.bipush 40, 2) := by decide +kernel
theorem dX1_put_7 : decode cX1_put 7 = .ok (.if_icmp .lt 4, 3) := by decide +kernel
theorem dX1_put_10 : decode cX1_put 10 = .ok (.return_, 1) := by decide +kernel
theorem dX1_put_11 : decode cX1_put 11 = .ok (.aload_n 0, 1) := by decide +kernel
theorem dX1_put_12 : decode cX1_put 12 = .ok (.getfield 9, 3) := by decide +kernel
theorem dX1_put_15 : decode cX1_put 15 = .ok (.iload_n 1, 1) := by decide +kernel
theorem dX1_put_16 : decode cX1_put 16 = .ok (.aload_n 2, 1) := by decide +kernel
theorem dX1_put_17 : decode cX1_put 17 = .ok (.getfield 65, 3) := by decide +kernel
theorem dX1_put_20 : decode cX1_put 20 = .ok (.iastore, 1) := by decide +kernel
theorem dX1_put_21 : decode cX1_put 21 = .ok (.aload_n 0, 1) := by decide +kernel
theorem dX1_put_22 : decode cX1_put 22 = .ok (.getfield 15, 3) := by decide +kernel
theorem dX1_put_25 : decode cX1_put 25 = .ok (.iload_n 1, 1) := by decide +kernel
theorem dX1_put_26 : decode cX1_put 26 = .ok (.aload_n 2, 1) := by decide +kernel
theorem dX1_put_27 : decode cX1_put 27 = .ok (.getfield 70, 3) := by decide +kernel
theorem dX1_put_30 : decode cX1_put 30 = .ok (.iastore, 1) := by decide +kernel
theorem dX1_put_31 : decode cX1_put 31 = .ok (.aload_n 0, 1) := by decide +kernel
theorem dX1_put_32 : decode cX1_put 32 = .ok (.getfield 18, 3) := by decide +kernel
theorem dX1_put_35 : decode cX1_put 35 = .ok (.iload_n 1, 1) := by decide +kernel
theorem dX1_put_36 : decode cX1_put 36 = .ok (.aload_n 2, 1) := by decide +kernel
theorem dX1_put_37 : decode cX1_put 37 = .ok (.getfield 73, 3) := by decide +kernel
theorem dX1_put_40 : decode cX1_put 40 = .ok (.iastore, 1) := by decide +kernel
theorem dX1_put_41 : decode cX1_put 41 = .ok (.aload_n 0, 1) := by decide +kernel
theorem dX1_put_42 : decode cX1_put 42 = .ok (.getfield 21, 3) := by decide +kernel
theorem dX1_put_45 : decode cX1_put 45 = .ok (.iload_n 1, 1) := by decide +kernel
theorem dX1_put_46 : decode cX1_put 46 = .ok (.aload_n 2, 1) := by decide +kernel
theorem dX1_put_47 : decode cX1_put 47 = .ok (.getfield 76, 3) := by decide +kernel
theorem dX1_put_50 : decode cX1_put 50 = .ok (.iastore, 1) := by decide +kernel
theorem dX1_put_51 : decode cX1_put 51 = .ok (.aload_n 0, 1) := by decide +kernel
theorem dX1_put_52 : decode cX1_put 52 = .ok (.getfield 24, 3) := by decide +kernel
theorem dX1_put_55 : decode cX1_put 55 = .ok (.iload_n 1, 1) := by decide +kernel
theorem dX1_put_56 : decode cX1_put 56 = .ok (.aload_n 2, 1) := by decide +kernel
theorem dX1_put_57 : decode cX1_put 57 = .ok (.getfield 79, 3) := by decide +kernel
theorem dX1_put_60 : decode cX1_put 60 = .ok (.iastore, 1) := by decide +kernel
theorem dX1_put_61 : decode cX1_put 61 = .ok (.aload_n 0, 1) := by decide +kernel
theorem dX1_put_62 : decode cX1_put 62 = .ok (.getfield 27, 3) := by decide +kernel
theorem dX1_put_65 : decode cX1_put 65 = .ok (.iload_n 1, 1) := by decide +kernel
theorem dX1_put_66 : decode cX1_put 66 = .ok (.aload_n 0, 1) := by decide +kernel
theorem dX1_put_67 : decode cX1_put 67 = .ok (.dup, 1) := by decide +kernel
theorem dX1_put_68 : decode cX1_put 68 = .ok (.getfield 38, 3) := by decide +kernel
theorem dX1_put_71 : decode cX1_put 71 = .ok (.iconst 1, 1) := by decide +kernel
theorem dX1_put_72 : decode cX1_put 72 = .ok (.iadd, 1) := by decide +kernel
theorem dX1_put_73 : decode cX1_put 73 = .ok (.dup_x1, 1) := by decide +kernel
theorem dX1_put_74 : decode cX1_put 74 = .ok (.putfield 38, 3) := by decide +kernel
theorem dX1_put_77 : decode cX1_put 77 = .ok (.iastore, 1) := by decide +kernel
theorem dX1_put_78 : decode cX1_put 78 = .ok (.aload_n 0, 1) := by decide +kernel
theorem dX1_put_79 : decode cX1_put 79 = .ok (.getfield 30, 3) := by decide +kernel
theorem dX1_put_82 : decode cX1_put 82 = .ok (.iload_n 1, 1) := by decide +kernel
theorem dX1_put_83 : decode cX1_put 83 = .ok (.iload_n 1, 1) := by decide +kernel
theorem dX1_put_84 : decode cX1_put 84 = .ok (.invokestatic 51, 3) := by decide +kernel
theorem dX1_put_87 : decode cX1_put 87 = .ok (.lastore, 1) := by decide +kernel
theorem dX1_put_88 : decode cX1_put 88 = .ok (.aload_n 0, 1) := by decide +kernel
theorem dX1_put_89 : decode cX1_put 89 = .ok (.dup, 1) := by decide +kernel
theorem dX1_put_90 : decode cX1_put 90 = .ok (.getfield 34, 3) := by decide +kernel
theorem dX1_put_93 : decode cX1_put 93 = .ok (.iload_n 1, 1) := by decide +kernel
theorem dX1_put_94 : decode cX1_put 94 = .ok (.invokestatic 51, 3) := by decide +kernel
theorem dX1_put_97 : decode cX1_put 97 = .ok (.lor, 1) := by decide +kernel
theorem dX1_put_98 : decode cX1_put 98 = .ok (.putfield 34, 3) := by decide +kernel
theorem dX1_put_101 : decode cX1_put 101 = .ok (.return_, 1) := by decide +kernel
theorem dX1_change_0 : decode cX1_change 0 = .ok (.aload_n 1, 1) := by decide +kernel
theorem dX1_change_1 : decode cX1_change 1 = .ok (.getfield 82, 3) := by decide +kernel
theorem dX1_change_4 : decode cX1_change 4 = .ok (.istore_n 2, 1) := by decide +kernel
theorem dX1_change_5 : decode cX1_change 5 = .ok (.aload_n 0, 1) := by decide +kernel
theorem dX1_change_6 : decode cX1_change 6 = .ok (.iload_n 2, 1) := by decide +kernel
theorem dX1_change_7 : decode cX1_change 7 = .ok (.invokevirtual 55, 3) := by decide +kernel
theorem dX1_change_10 : decode cX1_change 10 = .ok (.ifCond .ne 4, 3) := by decide +kernel
theorem dX1_change_13 : decode cX1_change 13 = .ok (.return_, 1) := by decide +kernel
theorem dX1_change_14 : decode cX1_change 14 = .ok (.aload_n 1, 1) := by decide +kernel
theorem dX1_change_15 : decode cX1_change 15 = .ok (.getfield 87, 3) := by decide +kernel
theorem dX1_change_18 : decode cX1_change 18 = .ok (.tableswitch 161 1 7 #[42, 63, 76, 96, 116, 128, 136], 42) := by decide +kernel
theorem dX1_change_60 : decode cX1_change 60 = .ok (.aload_n 0, 1) := by decide +kernel
theorem dX1_change_61 : decode cX1_change 61 = .ok (.aload_n 0, 1) := by decide +kernel
theorem dX1_change_62 : decode cX1_change 62 = .ok (.getfield 30, 3) := by decide +kernel
theorem dX1_change_65 : decode cX1_change 65 = .ok (.iload_n 2, 1) := by decide +kernel
theorem dX1_change_66 : decode cX1_change 66 = .ok (.laload, 1) := by decide +kernel
theorem dX1_change_67 : decode cX1_change 67 = .ok (.aload_n 1, 1) := by decide +kernel
theorem dX1_change_68 : decode cX1_change 68 = .ok (.getfield 90, 3) := by decide +kernel
theorem dX1_change_71 : decode cX1_change 71 = .ok (.aload_n 1, 1) := by decide +kernel
theorem dX1_change_72 : decode cX1_change 72 = .ok (.getfield 93, 3) := by decide +kernel
theorem dX1_change_75 : decode cX1_change 75 = .ok (.invokevirtual 96, 3) := by decide +kernel
theorem dX1_change_78 : decode cX1_change 78 = .ok (.goto 101, 3) := by decide +kernel
theorem dX1_change_81 : decode cX1_change 81 = .ok (.aload_n 0, 1) := by decide +kernel
theorem dX1_change_82 : decode cX1_change 82 = .ok (.getfield 24, 3) := by decide +kernel
theorem dX1_change_85 : decode cX1_change 85 = .ok (.iload_n 2, 1) := by decide +kernel
theorem dX1_change_86 : decode cX1_change 86 = .ok (.aload_n 1, 1) := by decide +kernel
theorem dX1_change_87 : decode cX1_change 87 = .ok (.getfield 90, 3) := by decide +kernel
theorem dX1_change_90 : decode cX1_change 90 = .ok (.iastore, 1) := by decide +kernel
theorem dX1_change_91 : decode cX1_change 91 = .ok (.goto 88, 3) := by decide +kernel
theorem dX1_change_94 : decode cX1_change 94 = .ok (.aload_n 0, 1) := by decide +kernel
theorem dX1_change_95 : decode cX1_change 95 = .ok (.getfield 27, 3) := by decide +kernel
theorem dX1_change_98 : decode cX1_change 98 = .ok (.iload_n 2, 1) := by decide +kernel
theorem dX1_change_99 : decode cX1_change 99 = .ok (.aload_n 0, 1) := by decide +kernel
theorem dX1_change_100 : decode cX1_change 100 = .ok (.dup, 1) := by decide +kernel
theorem dX1_change_101 : decode cX1_change 101 = .ok (.getfield 38, 3) := by decide +kernel
theorem dX1_change_104 : decode cX1_change 104 = .ok (.iconst 1, 1) := by decide +kernel
theorem dX1_change_105 : decode cX1_change 105 = .ok (.iadd, 1) := by decide +kernel
theorem dX1_change_106 : decode cX1_change 106 = .ok (.dup_x1, 1) := by decide +kernel
theorem dX1_change_107 : decode cX1_change 107 = .ok (.putfield 38, 3) := by decide +kernel
theorem dX1_change_110 : decode cX1_change 110 = .ok (.iastore, 1) := by decide +kernel
theorem dX1_change_111 : decode cX1_change 111 = .ok (.goto 68, 3) := by decide +kernel
theorem dX1_change_114 : decode cX1_change 114 = .ok (.aload_n 0, 1) := by decide +kernel
theorem dX1_change_115 : decode cX1_change 115 = .ok (.getfield 27, 3) := by decide +kernel
theorem dX1_change_118 : decode cX1_change 118 = .ok (.iload_n 2, 1) := by decide +kernel
theorem dX1_change_119 : decode cX1_change 119 = .ok (.aload_n 0, 1) := by decide +kernel
theorem dX1_change_120 : decode cX1_change 120 = .ok (.dup, 1) := by decide +kernel
theorem dX1_change_121 : decode cX1_change 121 = .ok (.getfield 42, 3) := by decide +kernel
theorem dX1_change_124 : decode cX1_change 124 = .ok (.iconst 1, 1) := by decide +kernel
theorem dX1_change_125 : decode cX1_change 125 = .ok (.isub, 1) := by decide +kernel
theorem dX1_change_126 : decode cX1_change 126 = .ok (.dup_x1, 1) := by decide +kernel
theorem dX1_change_127 : decode cX1_change 127 = .ok (.putfield 42, 3) := by decide +kernel
theorem dX1_change_130 : decode cX1_change 130 = .ok (.iastore, 1) := by decide +kernel
theorem dX1_change_131 : decode cX1_change 131 = .ok (.goto 48, 3) := by decide +kernel
theorem dX1_change_134 : decode cX1_change 134 = .ok (.aload_n 0, 1) := by decide +kernel
theorem dX1_change_135 : decode cX1_change 135 = .ok (.iload_n 2, 1) := by decide +kernel
theorem dX1_change_136 : decode cX1_change 136 = .ok (.aload_n 1, 1) := by decide +kernel
theorem dX1_change_137 : decode cX1_change 137 = .ok (.getfield 90, 3) := by decide +kernel
theorem dX1_change_140 : decode cX1_change 140 = .ok (.invokevirtual 100, 3) := by decide +kernel
theorem dX1_change_143 : decode cX1_change 143 = .ok (.goto 36, 3) := by decide +kernel
theorem dX1_change_146 : decode cX1_change 146 = .ok (.aload_n 0, 1) := by decide +kernel
theorem dX1_change_147 : decode cX1_change 147 = .ok (.iload_n 2, 1) := by decide +kernel
theorem dX1_change_148 : decode cX1_change 148 = .ok (.invokevirtual 104, 3) := by decide +kernel
theorem dX1_change_151 : decode cX1_change 151 = .ok (.goto 28, 3) := by decide +kernel
theorem dX1_change_154 : decode cX1_change 154 = .ok (.aload_n 0, 1) := by decide +kernel
theorem dX1_change_155 : decode cX1_change 155 = .ok (.iload_n 2, 1) := by decide +kernel
theorem dX1_change_156 : decode cX1_change 156 = .ok (.invokevirtual 104, 3) := by decide +kernel
theorem dX1_change_159 : decode cX1_change 159 = .ok (.aload_n 0, 1) := by decide +kernel
theorem dX1_change_160 : decode cX1_change 160 = .ok (.dup, 1) := by decide +kernel
theorem dX1_change_161 : decode cX1_change 161 = .ok (.getfield 34, 3) := by decide +kernel
theorem dX1_change_164 : decode cX1_change 164 = .ok (.iload_n 2, 1) := by decide +kernel
theorem dX1_change_165 : decode cX1_change 165 = .ok (.invokestatic 51, 3) := by decide +kernel
theorem dX1_change_168 : decode cX1_change 168 = .ok (.ldc2_w 108, 3) := by decide +kernel
theorem dX1_change_171 : decode cX1_change 171 = .ok (.lxor, 1) := by decide +kernel
theorem dX1_change_172 : decode cX1_change 172 = .ok (.land, 1) := by decide +kernel
theorem dX1_change_173 : decode cX1_change 173 = .ok (.putfield 34, 3) := by decide +kernel
theorem dX1_change_176 : decode cX1_change 176 = .ok (.goto 3, 3) := by decide +kernel
theorem dX1_change_179 : decode cX1_change 179 = .ok (.return_, 1) := by decide +kernel
theorem dX1_moveGroup_0 : decode cX1_moveGroup 0 = .ok (.iconst 0, 1) := by decide +kernel
theorem dX1_moveGroup_1 : decode cX1_moveGroup 1 = .ok (.istore 5, 2) := by decide +kernel
theorem dX1_moveGroup_3 : decode cX1_moveGroup 3 = .ok (.iload 5, 2) := by decide +kernel
theorem dX1_moveGroup_5 : decode cX1_moveGroup 5 = .ok (.bipush 40, 2) := by decide +kernel
theorem dX1_moveGroup_7 : decode cX1_moveGroup 7 = .ok (.if_icmp .ge 44, 3) := by decide +kernel
theorem dX1_moveGroup_10 : decode cX1_moveGroup 10 = .ok (.lload_n 1, 1) := by decide +kernel
theorem dX1_moveGroup_11 : decode cX1_moveGroup 11 = .ok (.iload 5, 2) := by decide +kernel
theorem dX1_moveGroup_13 : decode cX1_moveGroup 13 = .ok (.invokestatic 51, 3) := by decide +kernel
theorem dX1_moveGroup_16 : decode cX1_moveGroup 16 = .ok (.land, 1) := by decide +kernel
theorem dX1_moveGroup_17 : decode cX1_moveGroup 17 = .ok (.lconst 0, 1) := by decide +kernel
theorem dX1_moveGroup_18 : decode cX1_moveGroup 18 = .ok (.lcmp, 1) := by decide +kernel
theorem dX1_moveGroup_19 : decode cX1_moveGroup 19 = .ok (.ifCond .eq 26, 3) := by decide +kernel
theorem dX1_moveGroup_22 : decode cX1_moveGroup 22 = .ok (.aload_n 0, 1) := by decide +kernel
theorem dX1_moveGroup_23 : decode cX1_moveGroup 23 = .ok (.getfield 9, 3) := by decide +kernel
theorem dX1_moveGroup_26 : decode cX1_moveGroup 26 = .ok (.iload 5, 2) := by decide +kernel
theorem dX1_moveGroup_28 : decode cX1_moveGroup 28 = .ok (.dup2, 1) := by decide +kernel
theorem dX1_moveGroup_29 : decode cX1_moveGroup 29 = .ok (.iaload, 1) := by decide +kernel
theorem dX1_moveGroup_30 : decode cX1_moveGroup 30 = .ok (.iload_n 3, 1) := by decide +kernel
theorem dX1_moveGroup_31 : decode cX1_moveGroup 31 = .ok (.iadd, 1) := by decide +kernel
theorem dX1_moveGroup_32 : decode cX1_moveGroup 32 = .ok (.iastore, 1) := by decide +kernel
theorem dX1_moveGroup_33 : decode cX1_moveGroup 33 = .ok (.aload_n 0, 1) := by decide +kernel
theorem dX1_moveGroup_34 : decode cX1_moveGroup 34 = .ok (.getfield 15, 3) := by decide +kernel
theorem dX1_moveGroup_37 : decode cX1_moveGroup 37 = .ok (.iload 5, 2) := by decide +kernel
theorem dX1_moveGroup_39 : decode cX1_moveGroup 39 = .ok (.dup2, 1) := by decide +kernel
theorem dX1_moveGroup_40 : decode cX1_moveGroup 40 = .ok (.iaload, 1) := by decide +kernel
theorem dX1_moveGroup_41 : decode cX1_moveGroup 41 = .ok (.iload 4, 2) := by decide +kernel
theorem dX1_moveGroup_43 : decode cX1_moveGroup 43 = .ok (.iadd, 1) := by decide +kernel
theorem dX1_moveGroup_44 : decode cX1_moveGroup 44 = .ok (.iastore, 1) := by decide +kernel
theorem dX1_moveGroup_45 : decode cX1_moveGroup 45 = .ok (.iinc 5 1, 3) := by decide +kernel
theorem dX1_moveGroup_48 : decode cX1_moveGroup 48 = .ok (.goto (-45), 3) := by decide +kernel
theorem dX1_moveGroup_51 : decode cX1_moveGroup 51 = .ok (.return_, 1) := by decide +kernel
theorem dX1_uniteGroups_0 : decode cX1_uniteGroups 0 = .ok (.aload_n 0, 1) := by decide +kernel
theorem dX1_uniteGroups_1 : decode cX1_uniteGroups 1 = .ok (.iload_n 1, 1) := by decide +kernel
theorem dX1_uniteGroups_2 : decode cX1_uniteGroups 2 = .ok (.invokevirtual 55, 3) := by decide +kernel
theorem dX1_uniteGroups_5 : decode cX1_uniteGroups 5 = .ok (.ifCond .eq 28, 3) := by decide +kernel
theorem dX1_uniteGroups_8 : decode cX1_uniteGroups 8 = .ok (.aload_n 0, 1) := by decide +kernel
theorem dX1_uniteGroups_9 : decode cX1_uniteGroups 9 = .ok (.iload_n 2, 1) := by decide +kernel
theorem dX1_uniteGroups_10 : decode cX1_uniteGroups 10 = .ok (.invokevirtual 55, 3) := by decide +kernel
theorem dX1_uniteGroups_13 : decode cX1_uniteGroups 13 = .ok (.ifCond .eq 20, 3) := by decide +kernel
theorem dX1_uniteGroups_16 : decode cX1_uniteGroups 16 = .ok (.aload_n 0, 1) := by decide +kernel
theorem dX1_uniteGroups_17 : decode cX1_uniteGroups 17 = .ok (.aload_n 0, 1) := by decide +kernel
theorem dX1_uniteGroups_18 : decode cX1_uniteGroups 18 = .ok (.getfield 30, 3) := by decide +kernel
theorem dX1_uniteGroups_21 : decode cX1_uniteGroups 21 = .ok (.iload_n 1, 1) := by decide +kernel
theorem dX1_uniteGroups_22 : decode cX1_uniteGroups 22 = .ok (.laload, 1) := by decide +kernel
theorem dX1_uniteGroups_23 : decode cX1_uniteGroups 23 = .ok (.aload_n 0, 1) := by decide +kernel
theorem dX1_uniteGroups_24 : decode cX1_uniteGroups 24 = .ok (.getfield 30, 3) := by decide +kernel
theorem dX1_uniteGroups_27 : decode cX1_uniteGroups 27 = .ok (.iload_n 2, 1) := by decide +kernel
theorem dX1_uniteGroups_28 : decode cX1_uniteGroups 28 = .ok (.laload, 1) := by decide +kernel
theorem dX1_uniteGroups_29 : decode cX1_uniteGroups 29 = .ok (.lor, 1) := by decide +kernel
theorem dX1_uniteGroups_30 : decode cX1_uniteGroups 30 = .ok (.invokevirtual 110, 3) := by decide +kernel
theorem dX1_uniteGroups_33 : decode cX1_uniteGroups 33 = .ok (.return_, 1) := by decide +kernel
theorem dX1_leaveGroup_0 : decode cX1_leaveGroup 0 = .ok (.aload_n 0, 1) := by decide +kernel
theorem dX1_leaveGroup_1 : decode cX1_leaveGroup 1 = .ok (.aload_n 0, 1) := by decide +kernel
theorem dX1_leaveGroup_2 : decode cX1_leaveGroup 2 = .ok (.getfield 30, 3) := by decide +kernel
theorem dX1_leaveGroup_5 : decode cX1_leaveGroup 5 = .ok (.iload_n 1, 1) := by decide +kernel
theorem dX1_leaveGroup_6 : decode cX1_leaveGroup 6 = .ok (.laload, 1) := by decide +kernel
theorem dX1_leaveGroup_7 : decode cX1_leaveGroup 7 = .ok (.iload_n 1, 1) := by decide +kernel
theorem dX1_leaveGroup_8 : decode cX1_leaveGroup 8 = .ok (.invokestatic 51, 3) := by decide +kernel
theorem dX1_leaveGroup_11 : decode cX1_leaveGroup 11 = .ok (.ldc2_w 108, 3) := by decide +kernel
theorem dX1_leaveGroup_14 : decode cX1_leaveGroup 14 = .ok (.lxor, 1) := by decide +kernel
theorem dX1_leaveGroup_15 : decode cX1_leaveGroup 15 = .ok (.land, 1) := by decide +kernel
theorem dX1_leaveGroup_16 : decode cX1_leaveGroup 16 = .ok (.invokevirtual 110, 3) := by decide +kernel
theorem dX1_leaveGroup_19 : decode cX1_leaveGroup 19 = .ok (.aload_n 0, 1) := by decide +kernel
theorem dX1_leaveGroup_20 : decode cX1_leaveGroup 20 = .ok (.getfield 30, 3) := by decide +kernel
theorem dX1_leaveGroup_23 : decode cX1_leaveGroup 23 = .ok (.iload_n 1, 1) := by decide +kernel
theorem dX1_leaveGroup_24 : decode cX1_leaveGroup 24 = .ok (.iload_n 1, 1) := by decide +kernel
theorem dX1_leaveGroup_25 : decode cX1_leaveGroup 25 = .ok (.invokestatic 51, 3) := by decide +kernel
theorem dX1_leaveGroup_28 : decode cX1_leaveGroup 28 = .ok (.lastore, 1) := by decide +kernel
theorem dX1_leaveGroup_29 : decode cX1_leaveGroup 29 = .ok (.return_, 1) := by decide +kernel
theorem dX1_setGroup_0 : decode cX1_setGroup 0 = .ok (.iconst 0, 1) := by decide +kernel
theorem dX1_setGroup_1 : decode cX1_setGroup 1 = .ok (.istore_n 3, 1) := by decide +kernel
theorem dX1_setGroup_2 : decode cX1_setGroup 2 = .ok (.iload_n 3, 1) := by decide +kernel
theorem dX1_setGroup_3 : decode cX1_setGroup 3 = .ok (.bipush 40, 2) := by decide +kernel
theorem dX1_setGroup_5 : decode cX1_setGroup 5 = .ok (.if_icmp .ge 27, 3) := by decide +kernel
theorem dX1_setGroup_8 : decode cX1_setGroup 8 = .ok (.lload_n 1, 1) := by decide +kernel
theorem dX1_setGroup_9 : decode cX1_setGroup 9 = .ok (.iload_n 3, 1) := by decide +kernel
theorem dX1_setGroup_10 : decode cX1_setGroup 10 = .ok (.invokestatic 51, 3) := by decide +kernel
theorem dX1_setGroup_13 : decode cX1_setGroup 13 = .ok (.land, 1) := by decide +kernel
theorem dX1_setGroup_14 : decode cX1_setGroup 14 = .ok (.lconst 0, 1) := by decide +kernel
theorem dX1_setGroup_15 : decode cX1_setGroup 15 = .ok (.lcmp, 1) := by decide +kernel
theorem dX1_setGroup_16 : decode cX1_setGroup 16 = .ok (.ifCond .eq 10, 3) := by decide +kernel
theorem dX1_setGroup_19 : decode cX1_setGroup 19 = .ok (.aload_n 0, 1) := by decide +kernel
theorem dX1_setGroup_20 : decode cX1_setGroup 20 = .ok (.getfield 30, 3) := by decide +kernel
theorem dX1_setGroup_23 : decode cX1_setGroup 23 = .ok (.iload_n 3, 1) := by decide +kernel
theorem dX1_setGroup_24 : decode cX1_setGroup 24 = .ok (.lload_n 1, 1) := by decide +kernel
theorem dX1_setGroup_25 : decode cX1_setGroup 25 = .ok (.lastore, 1) := by decide +kernel
theorem dX1_setGroup_26 : decode cX1_setGroup 26 = .ok (.iinc 3 1, 3) := by decide +kernel
theorem dX1_setGroup_29 : decode cX1_setGroup 29 = .ok (.goto (-27), 3) := by decide +kernel
theorem dX1_setGroup_32 : decode cX1_setGroup 32 = .ok (.return_, 1) := by decide +kernel
theorem dX1_isShowing_0 : decode cX1_isShowing 0 = .ok (.aload_n 0, 1) := by decide +kernel
theorem dX1_isShowing_1 : decode cX1_isShowing 1 = .ok (.iload_n 1, 1) := by decide +kernel
theorem dX1_isShowing_2 : decode cX1_isShowing 2 = .ok (.invokevirtual 55, 3) := by decide +kernel
theorem dX1_isShowing_5 : decode cX1_isShowing 5 = .ok (.ifCond .eq 18, 3) := by decide +kernel
theorem dX1_isShowing_8 : decode cX1_isShowing 8 = .ok (.lload_n 2, 1) := by decide +kernel
theorem dX1_isShowing_9 : decode cX1_isShowing 9 = .ok (.iload_n 1, 1) := by decide +kernel
theorem dX1_isShowing_10 : decode cX1_isShowing 10 = .ok (.invokestatic 51, 3) := by decide +kernel
theorem dX1_isShowing_13 : decode cX1_isShowing 13 = .ok (.land, 1) := by decide +kernel
theorem dX1_isShowing_14 : decode cX1_isShowing 14 = .ok (.lconst 0, 1) := by decide +kernel
theorem dX1_isShowing_15 : decode cX1_isShowing 15 = .ok (.lcmp, 1) := by decide +kernel
theorem dX1_isShowing_16 : decode cX1_isShowing 16 = .ok (.ifCond .ne 7, 3) := by decide +kernel
theorem dX1_isShowing_19 : decode cX1_isShowing 19 = .ok (.iconst 1, 1) := by decide +kernel
theorem dX1_isShowing_20 : decode cX1_isShowing 20 = .ok (.goto 4, 3) := by decide +kernel
theorem dX1_isShowing_23 : decode cX1_isShowing 23 = .ok (.iconst 0, 1) := by decide +kernel
theorem dX1_isShowing_24 : decode cX1_isShowing 24 = .ok (.ireturn, 1) := by decide +kernel
theorem dX1_uppermostAt_0 : decode cX1_uppermostAt 0 = .ok (.iconst (-1), 1) := by decide +kernel
theorem dX1_uppermostAt_1 : decode cX1_uppermostAt 1 = .ok (.istore 5, 2) := by decide +kernel
theorem dX1_uppermostAt_3 : decode cX1_uppermostAt 3 = .ok (.iconst 0, 1) := by decide +kernel
theorem dX1_uppermostAt_4 : decode cX1_uppermostAt 4 = .ok (.istore 6, 2) := by decide +kernel
theorem dX1_uppermostAt_6 : decode cX1_uppermostAt 6 = .ok (.iload 6, 2) := by decide +kernel
theorem dX1_uppermostAt_8 : decode cX1_uppermostAt 8 = .ok (.bipush 40, 2) := by decide +kernel
theorem dX1_uppermostAt_10 : decode cX1_uppermostAt 10 = .ok (.if_icmp .ge 57, 3) := by decide +kernel
theorem dX1_uppermostAt_13 : decode cX1_uppermostAt 13 = .ok (.aload_n 0, 1) := by decide +kernel
theorem dX1_uppermostAt_14 : decode cX1_uppermostAt 14 = .ok (.iload 6, 2) := by decide +kernel
theorem dX1_uppermostAt_16 : decode cX1_uppermostAt 16 = .ok (.lload_n 3, 1) := by decide +kernel
theorem dX1_uppermostAt_17 : decode cX1_uppermostAt 17 = .ok (.invokevirtual 114, 3) := by decide +kernel
theorem dX1_uppermostAt_20 : decode cX1_uppermostAt 20 = .ok (.ifCond .eq 41, 3) := by decide +kernel
theorem dX1_uppermostAt_23 : decode cX1_uppermostAt 23 = .ok (.aload_n 0, 1) := by decide +kernel
theorem dX1_uppermostAt_24 : decode cX1_uppermostAt 24 = .ok (.iload 6, 2) := by decide +kernel
theorem dX1_uppermostAt_26 : decode cX1_uppermostAt 26 = .ok (.iload_n 1, 1) := by decide +kernel
theorem dX1_uppermostAt_27 : decode cX1_uppermostAt 27 = .ok (.iload_n 2, 1) := by decide +kernel
theorem dX1_uppermostAt_28 : decode cX1_uppermostAt 28 = .ok (.invokevirtual 118, 3) := by decide +kernel
theorem dX1_uppermostAt_31 : decode cX1_uppermostAt 31 = .ok (.ifCond .eq 30, 3) := by decide +kernel
theorem dX1_uppermostAt_34 : decode cX1_uppermostAt 34 = .ok (.iload 5, 2) := by decide +kernel
theorem dX1_uppermostAt_36 : decode cX1_uppermostAt 36 = .ok (.iconst (-1), 1) := by decide +kernel
theorem dX1_uppermostAt_37 : decode cX1_uppermostAt 37 = .ok (.if_icmp .eq 20, 3) := by decide +kernel
theorem dX1_uppermostAt_40 : decode cX1_uppermostAt 40 = .ok (.aload_n 0, 1) := by decide +kernel
theorem dX1_uppermostAt_41 : decode cX1_uppermostAt 41 = .ok (.getfield 27, 3) := by decide +kernel
theorem dX1_uppermostAt_44 : decode cX1_uppermostAt 44 = .ok (.iload 6, 2) := by decide +kernel
theorem dX1_uppermostAt_46 : decode cX1_uppermostAt 46 = .ok (.iaload, 1) := by decide +kernel
theorem dX1_uppermostAt_47 : decode cX1_uppermostAt 47 = .ok (.aload_n 0, 1) := by decide +kernel
theorem dX1_uppermostAt_48 : decode cX1_uppermostAt 48 = .ok (.getfield 27, 3) := by decide +kernel
theorem dX1_uppermostAt_51 : decode cX1_uppermostAt 51 = .ok (.iload 5, 2) := by decide +kernel
theorem dX1_uppermostAt_53 : decode cX1_uppermostAt 53 = .ok (.iaload, 1) := by decide +kernel
theorem dX1_uppermostAt_54 : decode cX1_uppermostAt 54 = .ok (.if_icmp .le 7, 3) := by decide +kernel
theorem dX1_uppermostAt_57 : decode cX1_uppermostAt 57 = .ok (.iload 6, 2) := by decide +kernel
theorem dX1_uppermostAt_59 : decode cX1_uppermostAt 59 = .ok (.istore 5, 2) := by decide +kernel
theorem dX1_uppermostAt_61 : decode cX1_uppermostAt 61 = .ok (.iinc 6 1, 3) := by decide +kernel
theorem dX1_uppermostAt_64 : decode cX1_uppermostAt 64 = .ok (.goto (-58), 3) := by decide +kernel
theorem dX1_uppermostAt_67 : decode cX1_uppermostAt 67 = .ok (.iload 5, 2) := by decide +kernel
theorem dX1_uppermostAt_69 : decode cX1_uppermostAt 69 = .ok (.ireturn, 1) := by decide +kernel
theorem dX1_isCovering_0 : decode cX1_isCovering 0 = .ok (.iload_n 2, 1) := by decide +kernel
theorem dX1_isCovering_1 : decode cX1_isCovering 1 = .ok (.aload_n 0, 1) := by decide +kernel
theorem dX1_isCovering_2 : decode cX1_isCovering 2 = .ok (.getfield 9, 3) := by decide +kernel
theorem dX1_isCovering_5 : decode cX1_isCovering 5 = .ok (.iload_n 1, 1) := by decide +kernel
theorem dX1_isCovering_6 : decode cX1_isCovering 6 = .ok (.iaload, 1) := by decide +kernel
theorem dX1_isCovering_7 : decode cX1_isCovering 7 = .ok (.if_icmp .lt 51, 3) := by decide +kernel
theorem dX1_isCovering_10 : decode cX1_isCovering 10 = .ok (.iload_n 2, 1) := by decide +kernel
theorem dX1_isCovering_11 : decode cX1_isCovering 11 = .ok (.aload_n 0, 1) := by decide +kernel
theorem dX1_isCovering_12 : decode cX1_isCovering 12 = .ok (.getfield 9, 3) := by decide +kernel
theorem dX1_isCovering_15 : decode cX1_isCovering 15 = .ok (.iload_n 1, 1) := by decide +kernel
theorem dX1_isCovering_16 : decode cX1_isCovering 16 = .ok (.iaload, 1) := by decide +kernel
theorem dX1_isCovering_17 : decode cX1_isCovering 17 = .ok (.aload_n 0, 1) := by decide +kernel
theorem dX1_isCovering_18 : decode cX1_isCovering 18 = .ok (.getfield 18, 3) := by decide +kernel
theorem dX1_isCovering_21 : decode cX1_isCovering 21 = .ok (.iload_n 1, 1) := by decide +kernel
theorem dX1_isCovering_22 : decode cX1_isCovering 22 = .ok (.iaload, 1) := by decide +kernel
theorem dX1_isCovering_23 : decode cX1_isCovering 23 = .ok (.iadd, 1) := by decide +kernel
theorem dX1_isCovering_24 : decode cX1_isCovering 24 = .ok (.if_icmp .ge 34, 3) := by decide +kernel
theorem dX1_isCovering_27 : decode cX1_isCovering 27 = .ok (.iload_n 3, 1) := by decide +kernel
theorem dX1_isCovering_28 : decode cX1_isCovering 28 = .ok (.aload_n 0, 1) := by decide +kernel
theorem dX1_isCovering_29 : decode cX1_isCovering 29 = .ok (.getfield 15, 3) := by decide +kernel
theorem dX1_isCovering_32 : decode cX1_isCovering 32 = .ok (.iload_n 1, 1) := by decide +kernel
theorem dX1_isCovering_33 : decode cX1_isCovering 33 = .ok (.iaload, 1) := by decide +kernel
theorem dX1_isCovering_34 : decode cX1_isCovering 34 = .ok (.if_icmp .lt 24, 3) := by decide +kernel
theorem dX1_isCovering_37 : decode cX1_isCovering 37 = .ok (.iload_n 3, 1) := by decide +kernel
theorem dX1_isCovering_38 : decode cX1_isCovering 38 = .ok (.aload_n 0, 1) := by decide +kernel
theorem dX1_isCovering_39 : decode cX1_isCovering 39 = .ok (.getfield 15, 3) := by decide +kernel
theorem dX1_isCovering_42 : decode cX1_isCovering 42 = .ok (.iload_n 1, 1) := by decide +kernel
theorem dX1_isCovering_43 : decode cX1_isCovering 43 = .ok (.iaload, 1) := by decide +kernel
theorem dX1_isCovering_44 : decode cX1_isCovering 44 = .ok (.aload_n 0, 1) := by decide +kernel
theorem dX1_isCovering_45 : decode cX1_isCovering 45 = .ok (.getfield 21, 3) := by decide +kernel
theorem dX1_isCovering_48 : decode cX1_isCovering 48 = .ok (.iload_n 1, 1) := by decide +kernel
theorem dX1_isCovering_49 : decode cX1_isCovering 49 = .ok (.iaload, 1) := by decide +kernel
theorem dX1_isCovering_50 : decode cX1_isCovering 50 = .ok (.iadd, 1) := by decide +kernel
theorem dX1_isCovering_51 : decode cX1_isCovering 51 = .ok (.if_icmp .ge 7, 3) := by decide +kernel
theorem dX1_isCovering_54 : decode cX1_isCovering 54 = .ok (.iconst 1, 1) := by decide +kernel
theorem dX1_isCovering_55 : decode cX1_isCovering 55 = .ok (.goto 4, 3) := by decide +kernel
theorem dX1_isCovering_58 : decode cX1_isCovering 58 = .ok (.iconst 0, 1) := by decide +kernel
theorem dX1_isCovering_59 : decode cX1_isCovering 59 = .ok (.ireturn, 1) := by decide +kernel
theorem dX1_columnsShown_0 : decode cX1_columnsShown 0 = .ok (.aload_n 0, 1) := by decide +kernel
theorem dX1_columnsShown_1 : decode cX1_columnsShown 1 = .ok (.iload_n 1, 1) := by decide +kernel
theorem dX1_columnsShown_2 : decode cX1_columnsShown 2 = .ok (.lload_n 3, 1) := by decide +kernel
theorem dX1_columnsShown_3 : decode cX1_columnsShown 3 = .ok (.invokevirtual 114, 3) := by decide +kernel
theorem dX1_columnsShown_6 : decode cX1_columnsShown 6 = .ok (.ifCond .ne 5, 3) := by decide +kernel
theorem dX1_columnsShown_9 : decode cX1_columnsShown 9 = .ok (.iconst 0, 1) := by decide +kernel
theorem dX1_columnsShown_10 : decode cX1_columnsShown 10 = .ok (.ireturn, 1) := by decide +kernel
theorem dX1_columnsShown_11 : decode cX1_columnsShown 11 = .ok (.aload_n 0, 1) := by decide +kernel
theorem dX1_columnsShown_12 : decode cX1_columnsShown 12 = .ok (.iload_n 1, 1) := by decide +kernel
theorem dX1_columnsShown_13 : decode cX1_columnsShown 13 = .ok (.iload_n 2, 1) := by decide +kernel
theorem dX1_columnsShown_14 : decode cX1_columnsShown 14 = .ok (.invokevirtual 122, 3) := by decide +kernel
theorem dX1_columnsShown_17 : decode cX1_columnsShown 17 = .ok (.istore 5, 2) := by decide +kernel
theorem dX1_columnsShown_19 : decode cX1_columnsShown 19 = .ok (.iconst 0, 1) := by decide +kernel
theorem dX1_columnsShown_20 : decode cX1_columnsShown 20 = .ok (.istore 6, 2) := by decide +kernel
theorem dX1_columnsShown_22 : decode cX1_columnsShown 22 = .ok (.iload 6, 2) := by decide +kernel
theorem dX1_columnsShown_24 : decode cX1_columnsShown 24 = .ok (.bipush 40, 2) := by decide +kernel
theorem dX1_columnsShown_26 : decode cX1_columnsShown 26 = .ok (.if_icmp .ge 54, 3) := by decide +kernel
theorem dX1_columnsShown_29 : decode cX1_columnsShown 29 = .ok (.iload 5, 2) := by decide +kernel
theorem dX1_columnsShown_31 : decode cX1_columnsShown 31 = .ok (.ifCond .eq 49, 3) := by decide +kernel
theorem dX1_columnsShown_34 : decode cX1_columnsShown 34 = .ok (.aload_n 0, 1) := by decide +kernel
theorem dX1_columnsShown_35 : decode cX1_columnsShown 35 = .ok (.iload 6, 2) := by decide +kernel
theorem dX1_columnsShown_37 : decode cX1_columnsShown 37 = .ok (.lload_n 3, 1) := by decide +kernel
theorem dX1_columnsShown_38 : decode cX1_columnsShown 38 = .ok (.invokevirtual 114, 3) := by decide +kernel
theorem dX1_columnsShown_41 : decode cX1_columnsShown 41 = .ok (.ifCond .eq 33, 3) := by decide +kernel
theorem dX1_columnsShown_44 : decode cX1_columnsShown 44 = .ok (.aload_n 0, 1) := by decide +kernel
theorem dX1_columnsShown_45 : decode cX1_columnsShown 45 = .ok (.getfield 27, 3) := by decide +kernel
theorem dX1_columnsShown_48 : decode cX1_columnsShown 48 = .ok (.iload 6, 2) := by decide +kernel
theorem dX1_columnsShown_50 : decode cX1_columnsShown 50 = .ok (.iaload, 1) := by decide +kernel
theorem dX1_columnsShown_51 : decode cX1_columnsShown 51 = .ok (.aload_n 0, 1) := by decide +kernel
theorem dX1_columnsShown_52 : decode cX1_columnsShown 52 = .ok (.getfield 27, 3) := by decide +kernel
theorem dX1_columnsShown_55 : decode cX1_columnsShown 55 = .ok (.iload_n 1, 1) := by decide +kernel
theorem dX1_columnsShown_56 : decode cX1_columnsShown 56 = .ok (.iaload, 1) := by decide +kernel
theorem dX1_columnsShown_57 : decode cX1_columnsShown 57 = .ok (.if_icmp .le 17, 3) := by decide +kernel
theorem dX1_columnsShown_60 : decode cX1_columnsShown 60 = .ok (.iload 5, 2) := by decide +kernel
theorem dX1_columnsShown_62 : decode cX1_columnsShown 62 = .ok (.aload_n 0, 1) := by decide +kernel
theorem dX1_columnsShown_63 : decode cX1_columnsShown 63 = .ok (.iload 6, 2) := by decide +kernel
theorem dX1_columnsShown_65 : decode cX1_columnsShown 65 = .ok (.iload_n 2, 1) := by decide +kernel
theorem dX1_columnsShown_66 : decode cX1_columnsShown 66 = .ok (.invokevirtual 122, 3) := by decide +kernel
theorem dX1_columnsShown_69 : decode cX1_columnsShown 69 = .ok (.iconst (-1), 1) := by decide +kernel
theorem dX1_columnsShown_70 : decode cX1_columnsShown 70 = .ok (.ixor, 1) := by decide +kernel
theorem dX1_columnsShown_71 : decode cX1_columnsShown 71 = .ok (.iand, 1) := by decide +kernel
theorem dX1_columnsShown_72 : decode cX1_columnsShown 72 = .ok (.istore 5, 2) := by decide +kernel
theorem dX1_columnsShown_74 : decode cX1_columnsShown 74 = .ok (.iinc 6 1, 3) := by decide +kernel
theorem dX1_columnsShown_77 : decode cX1_columnsShown 77 = .ok (.goto (-55), 3) := by decide +kernel
theorem dX1_columnsShown_80 : decode cX1_columnsShown 80 = .ok (.iload 5, 2) := by decide +kernel
theorem dX1_columnsShown_82 : decode cX1_columnsShown 82 = .ok (.ireturn, 1) := by decide +kernel
theorem dX1_columnsCovered_0 : decode cX1_columnsCovered 0 = .ok (.iload_n 2, 1) := by decide +kernel
theorem dX1_columnsCovered_1 : decode cX1_columnsCovered 1 = .ok (.aload_n 0, 1) := by decide +kernel
theorem dX1_columnsCovered_2 : decode cX1_columnsCovered 2 = .ok (.getfield 15, 3) := by decide +kernel
theorem dX1_columnsCovered_5 : decode cX1_columnsCovered 5 = .ok (.iload_n 1, 1) := by decide +kernel
theorem dX1_columnsCovered_6 : decode cX1_columnsCovered 6 = .ok (.iaload, 1) := by decide +kernel
theorem dX1_columnsCovered_7 : decode cX1_columnsCovered 7 = .ok (.if_icmp .lt 20, 3) := by decide +kernel
theorem dX1_columnsCovered_10 : decode cX1_columnsCovered 10 = .ok (.iload_n 2, 1) := by decide +kernel
theorem dX1_columnsCovered_11 : decode cX1_columnsCovered 11 = .ok (.aload_n 0, 1) := by decide +kernel
theorem dX1_columnsCovered_12 : decode cX1_columnsCovered 12 = .ok (.getfield 15, 3) := by decide +kernel
theorem dX1_columnsCovered_15 : decode cX1_columnsCovered 15 = .ok (.iload_n 1, 1) := by decide +kernel
theorem dX1_columnsCovered_16 : decode cX1_columnsCovered 16 = .ok (.iaload, 1) := by decide +kernel
theorem dX1_columnsCovered_17 : decode cX1_columnsCovered 17 = .ok (.aload_n 0, 1) := by decide +kernel
theorem dX1_columnsCovered_18 : decode cX1_columnsCovered 18 = .ok (.getfield 21, 3) := by decide +kernel
theorem dX1_columnsCovered_21 : decode cX1_columnsCovered 21 = .ok (.iload_n 1, 1) := by decide +kernel
theorem dX1_columnsCovered_22 : decode cX1_columnsCovered 22 = .ok (.iaload, 1) := by decide +kernel
theorem dX1_columnsCovered_23 : decode cX1_columnsCovered 23 = .ok (.iadd, 1) := by decide +kernel
theorem dX1_columnsCovered_24 : decode cX1_columnsCovered 24 = .ok (.if_icmp .lt 5, 3) := by decide +kernel
theorem dX1_columnsCovered_27 : decode cX1_columnsCovered 27 = .ok (.iconst 0, 1) := by decide +kernel
theorem dX1_columnsCovered_28 : decode cX1_columnsCovered 28 = .ok (.ireturn, 1) := by decide +kernel
theorem dX1_columnsCovered_29 : decode cX1_columnsCovered 29 = .ok (.aload_n 0, 1) := by decide +kernel
theorem dX1_columnsCovered_30 : decode cX1_columnsCovered 30 = .ok (.getfield 9, 3) := by decide +kernel
theorem dX1_columnsCovered_33 : decode cX1_columnsCovered 33 = .ok (.iload_n 1, 1) := by decide +kernel
theorem dX1_columnsCovered_34 : decode cX1_columnsCovered 34 = .ok (.iaload, 1) := by decide +kernel
theorem dX1_columnsCovered_35 : decode cX1_columnsCovered 35 = .ok (.iconst 0, 1) := by decide +kernel
theorem dX1_columnsCovered_36 : decode cX1_columnsCovered 36 = .ok (.invokestatic 126, 3) := by decide +kernel
theorem dX1_columnsCovered_39 : decode cX1_columnsCovered 39 = .ok (.istore_n 3, 1) := by decide +kernel
theorem dX1_columnsCovered_40 : decode cX1_columnsCovered 40 = .ok (.aload_n 0, 1) := by decide +kernel
theorem dX1_columnsCovered_41 : decode cX1_columnsCovered 41 = .ok (.getfield 9, 3) := by decide +kernel
theorem dX1_columnsCovered_44 : decode cX1_columnsCovered 44 = .ok (.iload_n 1, 1) := by decide +kernel
theorem dX1_columnsCovered_45 : decode cX1_columnsCovered 45 = .ok (.iaload, 1) := by decide +kernel
theorem dX1_columnsCovered_46 : decode cX1_columnsCovered 46 = .ok (.aload_n 0, 1) := by decide +kernel
theorem dX1_columnsCovered_47 : decode cX1_columnsCovered 47 = .ok (.getfield 18, 3) := by decide +kernel
theorem dX1_columnsCovered_50 : decode cX1_columnsCovered 50 = .ok (.iload_n 1, 1) := by decide +kernel
theorem dX1_columnsCovered_51 : decode cX1_columnsCovered 51 = .ok (.iaload, 1) := by decide +kernel
theorem dX1_columnsCovered_52 : decode cX1_columnsCovered 52 = .ok (.iadd, 1) := by decide +kernel
theorem dX1_columnsCovered_53 : decode cX1_columnsCovered 53 = .ok (.bipush 24, 2) := by decide +kernel
theorem dX1_columnsCovered_55 : decode cX1_columnsCovered 55 = .ok (.invokestatic 131, 3) := by decide +kernel
theorem dX1_columnsCovered_58 : decode cX1_columnsCovered 58 = .ok (.istore 4, 2) := by decide +kernel
theorem dX1_columnsCovered_60 : decode cX1_columnsCovered 60 = .ok (.iload_n 3, 1) := by decide +kernel
theorem dX1_columnsCovered_61 : decode cX1_columnsCovered 61 = .ok (.iload 4, 2) := by decide +kernel
theorem dX1_columnsCovered_63 : decode cX1_columnsCovered 63 = .ok (.if_icmp .ge 14, 3) := by decide +kernel
theorem dX1_columnsCovered_66 : decode cX1_columnsCovered 66 = .ok (.iload_n 3, 1) := by decide +kernel
theorem dX1_columnsCovered_67 : decode cX1_columnsCovered 67 = .ok (.iload 4, 2) := by decide +kernel
theorem dX1_columnsCovered_69 : decode cX1_columnsCovered 69 = .ok (.iload_n 3, 1) := by decide +kernel
theorem dX1_columnsCovered_70 : decode cX1_columnsCovered 70 = .ok (.isub, 1) := by decide +kernel
theorem dX1_columnsCovered_71 : decode cX1_columnsCovered 71 = .ok (.invokestatic 134, 3) := by decide +kernel
theorem dX1_columnsCovered_74 : decode cX1_columnsCovered 74 = .ok (.goto 4, 3) := by decide +kernel
theorem dX1_columnsCovered_77 : decode cX1_columnsCovered 77 = .ok (.iconst 0, 1) := by decide +kernel
theorem dX1_columnsCovered_78 : decode cX1_columnsCovered 78 = .ok (.ireturn, 1) := by decide +kernel
theorem dX2_init_0 : decode cX2_init 0 = .ok (.aload_n 0, 1) := by decide +kernel
theorem dX2_init_1 : decode cX2_init 1 = .ok (.invokespecial 3, 3) := by decide +kernel
theorem dX2_init_4 : decode cX2_init 4 = .ok (.aload_n 0, 1) := by decide +kernel
theorem dX2_init_5 : decode cX2_init 5 = .ok (.iconst 0, 1) := by decide +kernel
theorem dX2_init_6 : decode cX2_init 6 = .ok (.putfield 9, 3) := by decide +kernel
theorem dX2_init_9 : decode cX2_init 9 = .ok (.aload_n 0, 1) := by decide +kernel
theorem dX2_init_10 : decode cX2_init 10 = .ok (.iconst (-1), 1) := by decide +kernel
theorem dX2_init_11 : decode cX2_init 11 = .ok (.putfield 15, 3) := by decide +kernel
theorem dX2_init_14 : decode cX2_init 14 = .ok (.aload_n 0, 1) := by decide +kernel
theorem dX2_init_15 : decode cX2_init 15 = .ok (.iconst (-1), 1) := by decide +kernel
theorem dX2_init_16 : decode cX2_init 16 = .ok (.putfield 18, 3) := by decide +kernel
theorem dX2_init_19 : decode cX2_init 19 = .ok (.return_, 1) := by decide +kernel
theorem dX2_passTo_0 : decode cX2_passTo 0 = .ok (.aload_n 0, 1) := by decide +kernel
theorem dX2_passTo_1 : decode cX2_passTo 1 = .ok (.iconst 1, 1) := by decide +kernel
theorem dX2_passTo_2 : decode cX2_passTo 2 = .ok (.putfield 9, 3) := by decide +kernel
theorem dX2_passTo_5 : decode cX2_passTo 5 = .ok (.aload_n 0, 1) := by decide +kernel
theorem dX2_passTo_6 : decode cX2_passTo 6 = .ok (.iload_n 1, 1) := by decide +kernel
theorem dX2_passTo_7 : decode cX2_passTo 7 = .ok (.putfield 15, 3) := by decide +kernel
theorem dX2_passTo_10 : decode cX2_passTo 10 = .ok (.aload_n 0, 1) := by decide +kernel
theorem dX2_passTo_11 : decode cX2_passTo 11 = .ok (.iload_n 2, 1) := by decide +kernel
theorem dX2_passTo_12 : decode cX2_passTo 12 = .ok (.putfield 21, 3) := by decide +kernel
theorem dX2_passTo_15 : decode cX2_passTo 15 = .ok (.return_, 1) := by decide +kernel
theorem dX3_init_0 : decode cX3_init 0 = .ok (.aload_n 0, 1) := by decide +kernel
theorem dX3_init_1 : decode cX3_init 1 = .ok (.invokespecial 3, 3) := by decide +kernel
theorem dX3_init_4 : decode cX3_init 4 = .ok (.aload_n 0, 1) := by decide +kernel
theorem dX3_init_5 : decode cX3_init 5 = .ok (.new 9, 3) := by decide +kernel
theorem dX3_init_8 : decode cX3_init 8 = .ok (.dup, 1) := by decide +kernel
theorem dX3_init_9 : decode cX3_init 9 = .ok (.invokespecial 11, 3) := by decide +kernel
theorem dX3_init_12 : decode cX3_init 12 = .ok (.putfield 12, 3) := by decide +kernel
theorem dX3_init_15 : decode cX3_init 15 = .ok (.aload_n 0, 1) := by decide +kernel
theorem dX3_init_16 : decode cX3_init 16 = .ok (.bipush 6, 2) := by decide +kernel
theorem dX3_init_18 : decode cX3_init 18 = .ok (.newarray .int, 2) := by decide +kernel
theorem dX3_init_20 : decode cX3_init 20 = .ok (.putfield 18, 3) := by decide +kernel
theorem dX3_init_23 : decode cX3_init 23 = .ok (.aload_n 0, 1) := by decide +kernel
theorem dX3_init_24 : decode cX3_init 24 = .ok (.sipush 200, 3) := by decide +kernel
theorem dX3_init_27 : decode cX3_init 27 = .ok (.newarray .boolean, 2) := by decide +kernel
theorem dX3_init_29 : decode cX3_init 29 = .ok (.putfield 22, 3) := by decide +kernel
theorem dX3_init_32 : decode cX3_init 32 = .ok (.aload_n 0, 1) := by decide +kernel
theorem dX3_init_33 : decode cX3_init 33 = .ok (.new 26, 3) := by decide +kernel
theorem dX3_init_36 : decode cX3_init 36 = .ok (.dup, 1) := by decide +kernel
theorem dX3_init_37 : decode cX3_init 37 = .ok (.invokespecial 28, 3) := by decide +kernel
theorem dX3_init_40 : decode cX3_init 40 = .ok (.putfield 29, 3) := by decide +kernel
theorem dX3_init_43 : decode cX3_init 43 = .ok (.aload_n 0, 1) := by decide +kernel
theorem dX3_init_44 : decode cX3_init 44 = .ok (.iload_n 1, 1) := by decide +kernel
theorem dX3_init_45 : decode cX3_init 45 = .ok (.putfield 33, 3) := by decide +kernel
theorem dX3_init_48 : decode cX3_init 48 = .ok (.aload_n 0, 1) := by decide +kernel
theorem dX3_init_49 : decode cX3_init 49 = .ok (.aload_n 2, 1) := by decide +kernel
theorem dX3_init_50 : decode cX3_init 50 = .ok (.putfield 37, 3) := by decide +kernel
theorem dX3_init_53 : decode cX3_init 53 = .ok (.aload_n 0, 1) := by decide +kernel
theorem dX3_init_54 : decode cX3_init 54 = .ok (.iload_n 3, 1) := by decide +kernel
theorem dX3_init_55 : decode cX3_init 55 = .ok (.putfield 41, 3) := by decide +kernel
theorem dX3_init_58 : decode cX3_init 58 = .ok (.return_, 1) := by decide +kernel
theorem dX3_issue_0 : decode cX3_issue 0 = .ok (.iconst 0, 1) := by decide +kernel
theorem dX3_issue_1 : decode cX3_issue 1 = .ok (.istore_n 2, 1) := by decide +kernel
theorem dX3_issue_2 : decode cX3_issue 2 = .ok (.iload_n 2, 1) := by decide +kernel
theorem dX3_issue_3 : decode cX3_issue 3 = .ok (.iload_n 1, 1) := by decide +kernel
theorem dX3_issue_4 : decode cX3_issue 4 = .ok (.if_icmp .ge 30, 3) := by decide +kernel
theorem dX3_issue_7 : decode cX3_issue 7 = .ok (.iload_n 2, 1) := by decide +kernel
theorem dX3_issue_8 : decode cX3_issue 8 = .ok (.bipush 20, 2) := by decide +kernel
theorem dX3_issue_10 : decode cX3_issue 10 = .ok (.if_icmp .ge 24, 3) := by decide +kernel
theorem dX3_issue_13 : decode cX3_issue 13 = .ok (.aload_n 0, 1) := by decide +kernel
theorem dX3_issue_14 : decode cX3_issue 14 = .ok (.getfield 29, 3) := by decide +kernel
theorem dX3_issue_17 : decode cX3_issue 17 = .ok (.new 44, 3) := by decide +kernel
theorem dX3_issue_20 : decode cX3_issue 20 = .ok (.dup, 1) := by decide +kernel
theorem dX3_issue_21 : decode cX3_issue 21 = .ok (.invokespecial 46, 3) := by decide +kernel
theorem dX3_issue_24 : decode cX3_issue 24 = .ok (.invokevirtual 47, 3) := by decide +kernel
theorem dX3_issue_27 : decode cX3_issue 27 = .ok (.pop, 1) := by decide +kernel
theorem dX3_issue_28 : decode cX3_issue 28 = .ok (.iinc 2 1, 3) := by decide +kernel
theorem dX3_issue_31 : decode cX3_issue 31 = .ok (.goto (-29), 3) := by decide +kernel
theorem dX3_issue_34 : decode cX3_issue 34 = .ok (.return_, 1) := by decide +kernel
theorem dX3_addArea_0 : decode cX3_addArea 0 = .ok (.iload_n 1, 1) := by decide +kernel
theorem dX3_addArea_1 : decode cX3_addArea 1 = .ok (.ifCond .lt 29, 3) := by decide +kernel
theorem dX3_addArea_4 : decode cX3_addArea 4 = .ok (.iload_n 1, 1) := by decide +kernel
theorem dX3_addArea_5 : decode cX3_addArea 5 = .ok (.bipush 6, 2) := by decide +kernel
theorem dX3_addArea_7 : decode cX3_addArea 7 = .ok (.if_icmp .ge 23, 3) := by decide +kernel
theorem dX3_addArea_10 : decode cX3_addArea 10 = .ok (.aload_n 0, 1) := by decide +kernel
theorem dX3_addArea_11 : decode cX3_addArea 11 = .ok (.getfield 18, 3) := by decide +kernel
theorem dX3_addArea_14 : decode cX3_addArea 14 = .ok (.iload_n 1, 1) := by decide +kernel
theorem dX3_addArea_15 : decode cX3_addArea 15 = .ok (.dup2, 1) := by decide +kernel
theorem dX3_addArea_16 : decode cX3_addArea 16 = .ok (.iaload, 1) := by decide +kernel
theorem dX3_addArea_17 : decode cX3_addArea 17 = .ok (.iload_n 2, 1) := by decide +kernel
theorem dX3_addArea_18 : decode cX3_addArea 18 = .ok (.iadd, 1) := by decide +kernel
theorem dX3_addArea_19 : decode cX3_addArea 19 = .ok (.iastore, 1) := by decide +kernel
theorem dX3_addArea_20 : decode cX3_addArea 20 = .ok (.aload_n 0, 1) := by decide +kernel
theorem dX3_addArea_21 : decode cX3_addArea 21 = .ok (.dup, 1) := by decide +kernel
theorem dX3_addArea_22 : decode cX3_addArea 22 = .ok (.getfield 51, 3) := by decide +kernel
theorem dX3_addArea_25 : decode cX3_addArea 25 = .ok (.iload_n 2, 1) := by decide +kernel
theorem dX3_addArea_26 : decode cX3_addArea 26 = .ok (.iadd, 1) := by decide +kernel
theorem dX3_addArea_27 : decode cX3_addArea 27 = .ok (.putfield 51, 3) := by decide +kernel
theorem dX3_addArea_30 : decode cX3_addArea 30 = .ok (.return_, 1) := by decide +kernel
theorem dX3_hold_0 : decode cX3_hold 0 = .ok (.iload_n 1, 1) := by decide +kernel
theorem dX3_hold_1 : decode cX3_hold 1 = .ok (.ifCond .lt 17, 3) := by decide +kernel
theorem dX3_hold_4 : decode cX3_hold 4 = .ok (.iload_n 1, 1) := by decide +kernel
theorem dX3_hold_5 : decode cX3_hold 5 = .ok (.sipush 200, 3) := by decide +kernel
theorem dX3_hold_8 : decode cX3_hold 8 = .ok (.if_icmp .ge 10, 3) := by decide +kernel
theorem dX3_hold_11 : decode cX3_hold 11 = .ok (.aload_n 0, 1) := by decide +kernel
theorem dX3_hold_12 : decode cX3_hold 12 = .ok (.getfield 22, 3) := by decide +kernel
theorem dX3_hold_15 : decode cX3_hold 15 = .ok (.iload_n 1, 1) := by decide +kernel
theorem dX3_hold_16 : decode cX3_hold 16 = .ok (.iconst 1, 1) := by decide +kernel
theorem dX3_hold_17 : decode cX3_hold 17 = .ok (.bastore, 1) := by decide +kernel
theorem dX3_hold_18 : decode cX3_hold 18 = .ok (.return_, 1) := by decide +kernel
theorem dX3_isHolding_0 : decode cX3_isHolding 0 = .ok (.aload_n 0, 1) := by decide +kernel
theorem dX3_isHolding_1 : decode cX3_isHolding 1 = .ok (.getfield 54, 3) := by decide +kernel
theorem dX3_isHolding_4 : decode cX3_isHolding 4 = .ok (.ifCond .ne 27, 3) := by decide +kernel
theorem dX3_isHolding_7 : decode cX3_isHolding 7 = .ok (.iload_n 1, 1) := by decide +kernel
theorem dX3_isHolding_8 : decode cX3_isHolding 8 = .ok (.ifCond .lt 23, 3) := by decide +kernel
theorem dX3_isHolding_11 : decode cX3_isHolding 11 = .ok (.iload_n 1, 1) := by decide +kernel
theorem dX3_isHolding_12 : decode cX3_isHolding 12 = .ok (.sipush 200, 3) := by decide +kernel
theorem dX3_isHolding_15 : decode cX3_isHolding 15 = .ok (.if_icmp .ge 16, 3) := by decide +kernel
theorem dX3_isHolding_18 : decode cX3_isHolding 18 = .ok (.aload_n 0, 1) := by decide +kernel
theorem dX3_isHolding_19 : decode cX3_isHolding 19 = .ok (.getfield 22, 3) := by decide +kernel
theorem dX3_isHolding_22 : decode cX3_isHolding 22 = .ok (.iload_n 1, 1) := by decide +kernel
theorem dX3_isHolding_23 : decode cX3_isHolding 23 = .ok (.baload, 1) := by decide +kernel
theorem dX3_isHolding_24 : decode cX3_isHolding 24 = .ok (.ifCond .eq 7, 3) := by decide +kernel
theorem dX3_isHolding_27 : decode cX3_isHolding 27 = .ok (.iconst 1, 1) := by decide +kernel
theorem dX3_isHolding_28 : decode cX3_isHolding 28 = .ok (.goto 4, 3) := by decide +kernel
theorem dX3_isHolding_31 : decode cX3_isHolding 31 = .ok (.iconst 0, 1) := by decide +kernel
theorem dX3_isHolding_32 : decode cX3_isHolding 32 = .ok (.ireturn, 1) := by decide +kernel
theorem dX3_countHeld_0 : decode cX3_countHeld 0 = .ok (.iconst 0, 1) := by decide +kernel
theorem dX3_countHeld_1 : decode cX3_countHeld 1 = .ok (.istore_n 1, 1) := by decide +kernel
theorem dX3_countHeld_2 : decode cX3_countHeld 2 = .ok (.iconst 0, 1) := by decide +kernel
theorem dX3_countHeld_3 : decode cX3_countHeld 3 = .ok (.istore_n 2, 1) := by decide +kernel
theorem dX3_countHeld_4 : decode cX3_countHeld 4 = .ok (.iload_n 2, 1) := by decide +kernel
theorem dX3_countHeld_5 : decode cX3_countHeld 5 = .ok (.sipush 200, 3) := by decide +kernel
theorem dX3_countHeld_8 : decode cX3_countHeld 8 = .ok (.if_icmp .ge 20, 3) := by decide +kernel
theorem dX3_countHeld_11 : decode cX3_countHeld 11 = .ok (.aload_n 0, 1) := by decide +kernel
theorem dX3_countHeld_12 : decode cX3_countHeld 12 = .ok (.iload_n 2, 1) := by decide +kernel
theorem dX3_countHeld_13 : decode cX3_countHeld 13 = .ok (.invokevirtual 58, 3) := by decide +kernel
theorem dX3_countHeld_16 : decode cX3_countHeld 16 = .ok (.ifCond .eq 6, 3) := by decide +kernel
theorem dX3_countHeld_19 : decode cX3_countHeld 19 = .ok (.iinc 1 1, 3) := by decide +kernel
theorem dX3_countHeld_22 : decode cX3_countHeld 22 = .ok (.iinc 2 1, 3) := by decide +kernel
theorem dX3_countHeld_25 : decode cX3_countHeld 25 = .ok (.goto (-21), 3) := by decide +kernel
theorem dX3_countHeld_28 : decode cX3_countHeld 28 = .ok (.iload_n 1, 1) := by decide +kernel
theorem dX3_countHeld_29 : decode cX3_countHeld 29 = .ok (.ireturn, 1) := by decide +kernel
theorem dX3_changeSoldCopies_0 : decode cX3_changeSoldCopies 0 = .ok (.iconst 0, 1) := by decide +kernel
theorem dX3_changeSoldCopies_1 : decode cX3_changeSoldCopies 1 = .ok (.istore_n 2, 1) := by decide +kernel
theorem dX3_changeSoldCopies_2 : decode cX3_changeSoldCopies 2 = .ok (.iconst 0, 1) := by decide +kernel
theorem dX3_changeSoldCopies_3 : decode cX3_changeSoldCopies 3 = .ok (.istore_n 3, 1) := by decide +kernel
theorem dX3_changeSoldCopies_4 : decode cX3_changeSoldCopies 4 = .ok (.iload_n 3, 1) := by decide +kernel
theorem dX3_changeSoldCopies_5 : decode cX3_changeSoldCopies 5 = .ok (.aload_n 0, 1) := by decide +kernel
theorem dX3_changeSoldCopies_6 : decode cX3_changeSoldCopies 6 = .ok (.getfield 29, 3) := by decide +kernel
theorem dX3_changeSoldCopies_9 : decode cX3_changeSoldCopies 9 = .ok (.invokevirtual 62, 3) := by decide +kernel
theorem dX3_changeSoldCopies_12 : decode cX3_changeSoldCopies 12 = .ok (.if_icmp .ge 46, 3) := by decide +kernel
theorem dX3_changeSoldCopies_15 : decode cX3_changeSoldCopies 15 = .ok (.aload_n 0, 1) := by decide +kernel
theorem dX3_changeSoldCopies_16 : decode cX3_changeSoldCopies 16 = .ok (.getfield 29, 3) := by decide +kernel
theorem dX3_changeSoldCopies_19 : decode cX3_changeSoldCopies 19 = .ok (.iload_n 3, 1) := by decide +kernel
theorem dX3_changeSoldCopies_20 : decode cX3_changeSoldCopies 20 = .ok (.invokevirtual 66, 3) := by decide +kernel
theorem dX3_changeSoldCopies_23 : decode cX3_changeSoldCopies 23 = .ok (.checkcast 44, 3) := by decide +kernel
theorem dX3_changeSoldCopies_26 : decode cX3_changeSoldCopies 26 = .ok (.astore 4, 2) := by decide +kernel
theorem dX3_changeSoldCopies_28 : decode cX3_changeSoldCopies 28 = .ok (.aload 4, 2) := by decide +kernel
theorem dX3_changeSoldCopies_30 : decode cX3_changeSoldCopies 30 = .ok (.getfield 70, 3) := by decide +kernel
theorem dX3_changeSoldCopies_33 : decode cX3_changeSoldCopies 33 = .ok (.iconst 1, 1) := by decide +kernel
theorem dX3_changeSoldCopies_34 : decode cX3_changeSoldCopies 34 = .ok (.if_icmp .ne 18, 3) := by decide +kernel
theorem dX3_changeSoldCopies_37 : decode cX3_changeSoldCopies 37 = .ok (.aload 4, 2) := by decide +kernel
theorem dX3_changeSoldCopies_39 : decode cX3_changeSoldCopies 39 = .ok (.iconst 2, 1) := by decide +kernel
theorem dX3_changeSoldCopies_40 : decode cX3_changeSoldCopies 40 = .ok (.putfield 70, 3) := by decide +kernel
theorem dX3_changeSoldCopies_43 : decode cX3_changeSoldCopies 43 = .ok (.aload 4, 2) := by decide +kernel
theorem dX3_changeSoldCopies_45 : decode cX3_changeSoldCopies 45 = .ok (.iload_n 1, 1) := by decide +kernel
theorem dX3_changeSoldCopies_46 : decode cX3_changeSoldCopies 46 = .ok (.putfield 73, 3) := by decide +kernel
theorem dX3_changeSoldCopies_49 : decode cX3_changeSoldCopies 49 = .ok (.iinc 2 1, 3) := by decide +kernel
theorem dX3_changeSoldCopies_52 : decode cX3_changeSoldCopies 52 = .ok (.iinc 3 1, 3) := by decide +kernel
theorem dX3_changeSoldCopies_55 : decode cX3_changeSoldCopies 55 = .ok (.goto (-51), 3) := by decide +kernel
theorem dX3_changeSoldCopies_58 : decode cX3_changeSoldCopies 58 = .ok (.iload_n 2, 1) := by decide +kernel
theorem dX3_changeSoldCopies_59 : decode cX3_changeSoldCopies 59 = .ok (.ireturn, 1) := by decide +kernel
theorem dX3_share_0 : decode cX3_share 0 = .ok (.iload_n 1, 1) := by decide +kernel
theorem dX3_share_1 : decode cX3_share 1 = .ok (.istore_n 3, 1) := by decide +kernel
theorem dX3_share_2 : decode cX3_share 2 = .ok (.iconst 0, 1) := by decide +kernel
theorem dX3_share_3 : decode cX3_share 3 = .ok (.istore 4, 2) := by decide +kernel
theorem dX3_share_5 : decode cX3_share 5 = .ok (.iload 4, 2) := by decide +kernel
theorem dX3_share_7 : decode cX3_share 7 = .ok (.bipush 6, 2) := by decide +kernel
theorem dX3_share_9 : decode cX3_share 9 = .ok (.if_icmp .ge 57, 3) := by decide +kernel
theorem dX3_share_12 : decode cX3_share 12 = .ok (.iload 4, 2) := by decide +kernel
theorem dX3_share_14 : decode cX3_share 14 = .ok (.aload_n 2, 1) := by decide +kernel
theorem dX3_share_15 : decode cX3_share 15 = .ok (.arraylength, 1) := by decide +kernel
theorem dX3_share_16 : decode cX3_share 16 = .ok (.if_icmp .ge 50, 3) := by decide +kernel
theorem dX3_share_19 : decode cX3_share 19 = .ok (.aload_n 0, 1) := by decide +kernel
theorem dX3_share_20 : decode cX3_share 20 = .ok (.getfield 51, 3) := by decide +kernel
theorem dX3_share_23 : decode cX3_share 23 = .ok (.ifCond .le 20, 3) := by decide +kernel
theorem dX3_share_26 : decode cX3_share 26 = .ok (.iload_n 1, 1) := by decide +kernel
theorem dX3_share_27 : decode cX3_share 27 = .ok (.aload_n 0, 1) := by decide +kernel
theorem dX3_share_28 : decode cX3_share 28 = .ok (.getfield 18, 3) := by decide +kernel
theorem dX3_share_31 : decode cX3_share 31 = .ok (.iload 4, 2) := by decide +kernel
theorem dX3_share_33 : decode cX3_share 33 = .ok (.iaload, 1) := by decide +kernel
theorem dX3_share_34 : decode cX3_share 34 = .ok (.imul, 1) := by decide +kernel
theorem dX3_share_35 : decode cX3_share 35 = .ok (.aload_n 0, 1) := by decide +kernel
theorem dX3_share_36 : decode cX3_share 36 = .ok (.getfield 51, 3) := by decide +kernel
theorem dX3_share_39 : decode cX3_share 39 = .ok (.idiv, 1) := by decide +kernel
theorem dX3_share_40 : decode cX3_share 40 = .ok (.goto 4, 3) := by decide +kernel
theorem dX3_share_43 : decode cX3_share 43 = .ok (.iconst 0, 1) := by decide +kernel
theorem dX3_share_44 : decode cX3_share 44 = .ok (.istore 5, 2) := by decide +kernel
theorem dX3_share_46 : decode cX3_share 46 = .ok (.aload_n 2, 1) := by decide +kernel
theorem dX3_share_47 : decode cX3_share 47 = .ok (.iload 4, 2) := by decide +kernel
theorem dX3_share_49 : decode cX3_share 49 = .ok (.dup2, 1) := by decide +kernel
theorem dX3_share_50 : decode cX3_share 50 = .ok (.iaload, 1) := by decide +kernel
theorem dX3_share_51 : decode cX3_share 51 = .ok (.iload 5, 2) := by decide +kernel
theorem dX3_share_53 : decode cX3_share 53 = .ok (.iadd, 1) := by decide +kernel
theorem dX3_share_54 : decode cX3_share 54 = .ok (.iastore, 1) := by decide +kernel
theorem dX3_share_55 : decode cX3_share 55 = .ok (.iload_n 3, 1) := by decide +kernel
theorem dX3_share_56 : decode cX3_share 56 = .ok (.iload 5, 2) := by decide +kernel
theorem dX3_share_58 : decode cX3_share 58 = .ok (.isub, 1) := by decide +kernel
theorem dX3_share_59 : decode cX3_share 59 = .ok (.istore_n 3, 1) := by decide +kernel
theorem dX3_share_60 : decode cX3_share 60 = .ok (.iinc 4 1, 3) := by decide +kernel
theorem dX3_share_63 : decode cX3_share 63 = .ok (.goto (-58), 3) := by decide +kernel
theorem dX3_share_66 : decode cX3_share 66 = .ok (.aload_n 0, 1) := by decide +kernel
theorem dX3_share_67 : decode cX3_share 67 = .ok (.getfield 33, 3) := by decide +kernel
theorem dX3_share_70 : decode cX3_share 70 = .ok (.ifCond .lt 22, 3) := by decide +kernel
theorem dX3_share_73 : decode cX3_share 73 = .ok (.aload_n 0, 1) := by decide +kernel
theorem dX3_share_74 : decode cX3_share 74 = .ok (.getfield 33, 3) := by decide +kernel
theorem dX3_share_77 : decode cX3_share 77 = .ok (.aload_n 2, 1) := by decide +kernel
theorem dX3_share_78 : decode cX3_share 78 = .ok (.arraylength, 1) := by decide +kernel
theorem dX3_share_79 : decode cX3_share 79 = .ok (.if_icmp .ge 13, 3) := by decide +kernel
theorem dX3_share_82 : decode cX3_share 82 = .ok (.aload_n 2, 1) := by decide +kernel
theorem dX3_share_83 : decode cX3_share 83 = .ok (.aload_n 0, 1) := by decide +kernel
theorem dX3_share_84 : decode cX3_share 84 = .ok (.getfield 33, 3) := by decide +kernel
theorem dX3_share_87 : decode cX3_share 87 = .ok (.dup2, 1) := by decide +kernel
theorem dX3_share_88 : decode cX3_share 88 = .ok (.iaload, 1) := by decide +kernel
theorem dX3_share_89 : decode cX3_share 89 = .ok (.iload_n 3, 1) := by decide +kernel
theorem dX3_share_90 : decode cX3_share 90 = .ok (.iadd, 1) := by decide +kernel
theorem dX3_share_91 : decode cX3_share 91 = .ok (.iastore, 1) := by decide +kernel
theorem dX3_share_92 : decode cX3_share 92 = .ok (.return_, 1) := by decide +kernel
theorem dX4_init_0 : decode cX4_init 0 = .ok (.aload_n 0, 1) := by decide +kernel
theorem dX4_init_1 : decode cX4_init 1 = .ok (.invokespecial 1, 3) := by decide +kernel
theorem dX4_init_4 : decode cX4_init 4 = .ok (.aload_n 0, 1) := by decide +kernel
theorem dX4_init_5 : decode cX4_init 5 = .ok (.iload_n 1, 1) := by decide +kernel
theorem dX4_init_6 : decode cX4_init 6 = .ok (.putfield 7, 3) := by decide +kernel
theorem dX4_init_9 : decode cX4_init 9 = .ok (.aload_n 0, 1) := by decide +kernel
theorem dX4_init_10 : decode cX4_init 10 = .ok (.iload_n 2, 1) := by decide +kernel
theorem dX4_init_11 : decode cX4_init 11 = .ok (.putfield 13, 3) := by decide +kernel
theorem dX4_init_14 : decode cX4_init 14 = .ok (.aload_n 0, 1) := by decide +kernel
theorem dX4_init_15 : decode cX4_init 15 = .ok (.iload_n 3, 1) := by decide +kernel
theorem dX4_init_16 : decode cX4_init 16 = .ok (.putfield 16, 3) := by decide +kernel
theorem dX4_init_19 : decode cX4_init 19 = .ok (.return_, 1) := by decide +kernel
theorem dX5_init_0 : decode cX5_init 0 = .ok (.aload_n 0, 1) := by decide +kernel
theorem dX5_init_1 : decode cX5_init 1 = .ok (.invokespecial 1, 3) := by decide +kernel
theorem dX5_init_4 : decode cX5_init 4 = .ok (.aload_n 0, 1) := by decide +kernel
theorem dX5_init_5 : decode cX5_init 5 = .ok (.iload_n 1, 1) := by decide +kernel
theorem dX5_init_6 : decode cX5_init 6 = .ok (.putfield 7, 3) := by decide +kernel
theorem dX5_init_9 : decode cX5_init 9 = .ok (.aload_n 0, 1) := by decide +kernel
theorem dX5_init_10 : decode cX5_init 10 = .ok (.iload_n 2, 1) := by decide +kernel
theorem dX5_init_11 : decode cX5_init 11 = .ok (.putfield 13, 3) := by decide +kernel
theorem dX5_init_14 : decode cX5_init 14 = .ok (.aload_n 0, 1) := by decide +kernel
theorem dX5_init_15 : decode cX5_init 15 = .ok (.iload_n 3, 1) := by decide +kernel
theorem dX5_init_16 : decode cX5_init 16 = .ok (.putfield 16, 3) := by decide +kernel
theorem dX5_init_19 : decode cX5_init 19 = .ok (.aload_n 0, 1) := by decide +kernel
theorem dX5_init_20 : decode cX5_init 20 = .ok (.iload 4, 2) := by decide +kernel
theorem dX5_init_22 : decode cX5_init 22 = .ok (.putfield 19, 3) := by decide +kernel
theorem dX5_init_25 : decode cX5_init 25 = .ok (.aload_n 0, 1) := by decide +kernel
theorem dX5_init_26 : decode cX5_init 26 = .ok (.iload 5, 2) := by decide +kernel
theorem dX5_init_28 : decode cX5_init 28 = .ok (.putfield 22, 3) := by decide +kernel
theorem dX5_init_31 : decode cX5_init 31 = .ok (.aload_n 0, 1) := by decide +kernel
theorem dX5_init_32 : decode cX5_init 32 = .ok (.iload 6, 2) := by decide +kernel
theorem dX5_init_34 : decode cX5_init 34 = .ok (.putfield 25, 3) := by decide +kernel
theorem dX5_init_37 : decode cX5_init 37 = .ok (.return_, 1) := by decide +kernel
theorem dX6_init_0 : decode cX6_init 0 = .ok (.aload_n 0, 1) := by decide +kernel
theorem dX6_init_1 : decode cX6_init 1 = .ok (.invokespecial 3, 3) := by decide +kernel
theorem dX6_init_4 : decode cX6_init 4 = .ok (.aload_n 0, 1) := by decide +kernel
theorem dX6_init_5 : decode cX6_init 5 = .ok (.iload_n 1, 1) := by decide +kernel
theorem dX6_init_6 : decode cX6_init 6 = .ok (.putfield 9, 3) := by decide +kernel
theorem dX6_init_9 : decode cX6_init 9 = .ok (.aload_n 0, 1) := by decide +kernel
theorem dX6_init_10 : decode cX6_init 10 = .ok (.iload_n 2, 1) := by decide +kernel
theorem dX6_init_11 : decode cX6_init 11 = .ok (.putfield 15, 3) := by decide +kernel
theorem dX6_init_14 : decode cX6_init 14 = .ok (.aload_n 0, 1) := by decide +kernel
theorem dX6_init_15 : decode cX6_init 15 = .ok (.iload_n 3, 1) := by decide +kernel
theorem dX6_init_16 : decode cX6_init 16 = .ok (.putfield 18, 3) := by decide +kernel
theorem dX6_init_19 : decode cX6_init 19 = .ok (.aload_n 0, 1) := by decide +kernel
theorem dX6_init_20 : decode cX6_init 20 = .ok (.iload 4, 2) := by decide +kernel
theorem dX6_init_22 : decode cX6_init 22 = .ok (.putfield 21, 3) := by decide +kernel
theorem dX6_init_25 : decode cX6_init 25 = .ok (.return_, 1) := by decide +kernel
theorem dX6_countShown_0 : decode cX6_countShown 0 = .ok (.aload_n 0, 1) := by decide +kernel
theorem dX6_countShown_1 : decode cX6_countShown 1 = .ok (.getfield 9, 3) := by decide +kernel
theorem dX6_countShown_4 : decode cX6_countShown 4 = .ok (.aload_n 0, 1) := by decide +kernel
theorem dX6_countShown_5 : decode cX6_countShown 5 = .ok (.getfield 18, 3) := by decide +kernel
theorem dX6_countShown_8 : decode cX6_countShown 8 = .ok (.invokestatic 24, 3) := by decide +kernel
theorem dX6_countShown_11 : decode cX6_countShown 11 = .ok (.istore 5, 2) := by decide +kernel
theorem dX6_countShown_13 : decode cX6_countShown 13 = .ok (.iconst 0, 1) := by decide +kernel
theorem dX6_countShown_14 : decode cX6_countShown 14 = .ok (.istore 6, 2) := by decide +kernel
theorem dX6_countShown_16 : decode cX6_countShown 16 = .ok (.aload_n 0, 1) := by decide +kernel
theorem dX6_countShown_17 : decode cX6_countShown 17 = .ok (.getfield 15, 3) := by decide +kernel
theorem dX6_countShown_20 : decode cX6_countShown 20 = .ok (.istore 7, 2) := by decide +kernel
theorem dX6_countShown_22 : decode cX6_countShown 22 = .ok (.iload 7, 2) := by decide +kernel
theorem dX6_countShown_24 : decode cX6_countShown 24 = .ok (.aload_n 0, 1) := by decide +kernel
theorem dX6_countShown_25 : decode cX6_countShown 25 = .ok (.getfield 15, 3) := by decide +kernel
theorem dX6_countShown_28 : decode cX6_countShown 28 = .ok (.aload_n 0, 1) := by decide +kernel
theorem dX6_countShown_29 : decode cX6_countShown 29 = .ok (.getfield 21, 3) := by decide +kernel
theorem dX6_countShown_32 : decode cX6_countShown 32 = .ok (.iadd, 1) := by decide +kernel
theorem dX6_countShown_33 : decode cX6_countShown 33 = .ok (.if_icmp .ge 28, 3) := by decide +kernel
theorem dX6_countShown_36 : decode cX6_countShown 36 = .ok (.iload 6, 2) := by decide +kernel
theorem dX6_countShown_38 : decode cX6_countShown 38 = .ok (.iload 5, 2) := by decide +kernel
theorem dX6_countShown_40 : decode cX6_countShown 40 = .ok (.aload_n 1, 1) := by decide +kernel
theorem dX6_countShown_41 : decode cX6_countShown 41 = .ok (.iload_n 2, 1) := by decide +kernel
theorem dX6_countShown_42 : decode cX6_countShown 42 = .ok (.iload 7, 2) := by decide +kernel
theorem dX6_countShown_44 : decode cX6_countShown 44 = .ok (.lload_n 3, 1) := by decide +kernel
theorem dX6_countShown_45 : decode cX6_countShown 45 = .ok (.invokevirtual 28, 3) := by decide +kernel
theorem dX6_countShown_48 : decode cX6_countShown 48 = .ok (.iand, 1) := by decide +kernel
theorem dX6_countShown_49 : decode cX6_countShown 49 = .ok (.invokestatic 34, 3) := by decide +kernel
theorem dX6_countShown_52 : decode cX6_countShown 52 = .ok (.iadd, 1) := by decide +kernel
theorem dX6_countShown_53 : decode cX6_countShown 53 = .ok (.istore 6, 2) := by decide +kernel
theorem dX6_countShown_55 : decode cX6_countShown 55 = .ok (.iinc 7 1, 3) := by decide +kernel
theorem dX6_countShown_58 : decode cX6_countShown 58 = .ok (.goto (-36), 3) := by decide +kernel
theorem dX6_countShown_61 : decode cX6_countShown 61 = .ok (.iload 6, 2) := by decide +kernel
theorem dX6_countShown_63 : decode cX6_countShown 63 = .ok (.ireturn, 1) := by decide +kernel
theorem dX6_isAnyShown_0 : decode cX6_isAnyShown 0 = .ok (.iconst 0, 1) := by decide +kernel
theorem dX6_isAnyShown_1 : decode cX6_isAnyShown 1 = .ok (.istore 4, 2) := by decide +kernel
theorem dX6_isAnyShown_3 : decode cX6_isAnyShown 3 = .ok (.iload 4, 2) := by decide +kernel
theorem dX6_isAnyShown_5 : decode cX6_isAnyShown 5 = .ok (.bipush 40, 2) := by decide +kernel
theorem dX6_isAnyShown_7 : decode cX6_isAnyShown 7 = .ok (.if_icmp .ge 22, 3) := by decide +kernel
theorem dX6_isAnyShown_10 : decode cX6_isAnyShown 10 = .ok (.aload_n 0, 1) := by decide +kernel
theorem dX6_isAnyShown_11 : decode cX6_isAnyShown 11 = .ok (.aload_n 1, 1) := by decide +kernel
theorem dX6_isAnyShown_12 : decode cX6_isAnyShown 12 = .ok (.iload 4, 2) := by decide +kernel
theorem dX6_isAnyShown_14 : decode cX6_isAnyShown 14 = .ok (.lload_n 2, 1) := by decide +kernel
theorem dX6_isAnyShown_15 : decode cX6_isAnyShown 15 = .ok (.invokevirtual 40, 3) := by decide +kernel
theorem dX6_isAnyShown_18 : decode cX6_isAnyShown 18 = .ok (.ifCond .le 5, 3) := by decide +kernel
theorem dX6_isAnyShown_21 : decode cX6_isAnyShown 21 = .ok (.iconst 1, 1) := by decide +kernel
theorem dX6_isAnyShown_22 : decode cX6_isAnyShown 22 = .ok (.ireturn, 1) := by decide +kernel
theorem dX6_isAnyShown_23 : decode cX6_isAnyShown 23 = .ok (.iinc 4 1, 3) := by decide +kernel
theorem dX6_isAnyShown_26 : decode cX6_isAnyShown 26 = .ok (.goto (-23), 3) := by decide +kernel
theorem dX6_isAnyShown_29 : decode cX6_isAnyShown 29 = .ok (.iconst 0, 1) := by decide +kernel
theorem dX6_isAnyShown_30 : decode cX6_isAnyShown 30 = .ok (.ireturn, 1) := by decide +kernel
theorem dJ6_bitCount_0f7a4_0 : decode cJ6_bitCount_0f7a4 0 = .ok (.iload_n 0, 1) := by decide +kernel
theorem dJ6_bitCount_0f7a4_1 : decode cJ6_bitCount_0f7a4 1 = .ok (.iload_n 0, 1) := by decide +kernel
theorem dJ6_bitCount_0f7a4_2 : decode cJ6_bitCount_0f7a4 2 = .ok (.iconst 1, 1) := by decide +kernel
theorem dJ6_bitCount_0f7a4_3 : decode cJ6_bitCount_0f7a4 3 = .ok (.iushr, 1) := by decide +kernel
theorem dJ6_bitCount_0f7a4_4 : decode cJ6_bitCount_0f7a4 4 = .ok (.ldc_w 265, 3) := by decide +kernel
theorem dJ6_bitCount_0f7a4_7 : decode cJ6_bitCount_0f7a4 7 = .ok (.iand, 1) := by decide +kernel
theorem dJ6_bitCount_0f7a4_8 : decode cJ6_bitCount_0f7a4 8 = .ok (.isub, 1) := by decide +kernel
theorem dJ6_bitCount_0f7a4_9 : decode cJ6_bitCount_0f7a4 9 = .ok (.istore_n 0, 1) := by decide +kernel
theorem dJ6_bitCount_0f7a4_10 : decode cJ6_bitCount_0f7a4 10 = .ok (.iload_n 0, 1) := by decide +kernel
theorem dJ6_bitCount_0f7a4_11 : decode cJ6_bitCount_0f7a4 11 = .ok (.ldc_w 266, 3) := by decide +kernel
theorem dJ6_bitCount_0f7a4_14 : decode cJ6_bitCount_0f7a4 14 = .ok (.iand, 1) := by decide +kernel
theorem dJ6_bitCount_0f7a4_15 : decode cJ6_bitCount_0f7a4 15 = .ok (.iload_n 0, 1) := by decide +kernel
theorem dJ6_bitCount_0f7a4_16 : decode cJ6_bitCount_0f7a4 16 = .ok (.iconst 2, 1) := by decide +kernel
theorem dJ6_bitCount_0f7a4_17 : decode cJ6_bitCount_0f7a4 17 = .ok (.iushr, 1) := by decide +kernel
theorem dJ6_bitCount_0f7a4_18 : decode cJ6_bitCount_0f7a4 18 = .ok (.ldc_w 266, 3) := by decide +kernel
theorem dJ6_bitCount_0f7a4_21 : decode cJ6_bitCount_0f7a4 21 = .ok (.iand, 1) := by decide +kernel
theorem dJ6_bitCount_0f7a4_22 : decode cJ6_bitCount_0f7a4 22 = .ok (.iadd, 1) := by decide +kernel
theorem dJ6_bitCount_0f7a4_23 : decode cJ6_bitCount_0f7a4 23 = .ok (.istore_n 0, 1) := by decide +kernel
theorem dJ6_bitCount_0f7a4_24 : decode cJ6_bitCount_0f7a4 24 = .ok (.iload_n 0, 1) := by decide +kernel
theorem dJ6_bitCount_0f7a4_25 : decode cJ6_bitCount_0f7a4 25 = .ok (.iload_n 0, 1) := by decide +kernel
theorem dJ6_bitCount_0f7a4_26 : decode cJ6_bitCount_0f7a4 26 = .ok (.iconst 4, 1) := by decide +kernel
theorem dJ6_bitCount_0f7a4_27 : decode cJ6_bitCount_0f7a4 27 = .ok (.iushr, 1) := by decide +kernel
theorem dJ6_bitCount_0f7a4_28 : decode cJ6_bitCount_0f7a4 28 = .ok (.iadd, 1) := by decide +kernel
theorem dJ6_bitCount_0f7a4_29 : decode cJ6_bitCount_0f7a4 29 = .ok (.ldc_w 267, 3) := by decide +kernel
theorem dJ6_bitCount_0f7a4_32 : decode cJ6_bitCount_0f7a4 32 = .ok (.iand, 1) := by decide +kernel
theorem dJ6_bitCount_0f7a4_33 : decode cJ6_bitCount_0f7a4 33 = .ok (.istore_n 0, 1) := by decide +kernel
theorem dJ6_bitCount_0f7a4_34 : decode cJ6_bitCount_0f7a4 34 = .ok (.iload_n 0, 1) := by decide +kernel
theorem dJ6_bitCount_0f7a4_35 : decode cJ6_bitCount_0f7a4 35 = .ok (.iload_n 0, 1) := by decide +kernel
theorem dJ6_bitCount_0f7a4_36 : decode cJ6_bitCount_0f7a4 36 = .ok (.bipush 8, 2) := by decide +kernel
theorem dJ6_bitCount_0f7a4_38 : decode cJ6_bitCount_0f7a4 38 = .ok (.iushr, 1) := by decide +kernel
theorem dJ6_bitCount_0f7a4_39 : decode cJ6_bitCount_0f7a4 39 = .ok (.iadd, 1) := by decide +kernel
theorem dJ6_bitCount_0f7a4_40 : decode cJ6_bitCount_0f7a4 40 = .ok (.istore_n 0, 1) := by decide +kernel
theorem dJ6_bitCount_0f7a4_41 : decode cJ6_bitCount_0f7a4 41 = .ok (.iload_n 0, 1) := by decide +kernel
theorem dJ6_bitCount_0f7a4_42 : decode cJ6_bitCount_0f7a4 42 = .ok (.iload_n 0, 1) := by decide +kernel
theorem dJ6_bitCount_0f7a4_43 : decode cJ6_bitCount_0f7a4 43 = .ok (.bipush 16, 2) := by decide +kernel
theorem dJ6_bitCount_0f7a4_45 : decode cJ6_bitCount_0f7a4 45 = .ok (.iushr, 1) := by decide +kernel
theorem dJ6_bitCount_0f7a4_46 : decode cJ6_bitCount_0f7a4 46 = .ok (.iadd, 1) := by decide +kernel
theorem dJ6_bitCount_0f7a4_47 : decode cJ6_bitCount_0f7a4 47 = .ok (.istore_n 0, 1) := by decide +kernel
theorem dJ6_bitCount_0f7a4_48 : decode cJ6_bitCount_0f7a4 48 = .ok (.iload_n 0, 1) := by decide +kernel
theorem dJ6_bitCount_0f7a4_49 : decode cJ6_bitCount_0f7a4 49 = .ok (.bipush 63, 2) := by decide +kernel
theorem dJ6_bitCount_0f7a4_51 : decode cJ6_bitCount_0f7a4 51 = .ok (.iand, 1) := by decide +kernel
theorem dJ6_bitCount_0f7a4_52 : decode cJ6_bitCount_0f7a4 52 = .ok (.ireturn, 1) := by decide +kernel
theorem dJ13_bitCount_95d88_0 : decode cJ13_bitCount_95d88 0 = .ok (.lload_n 0, 1) := by decide +kernel
theorem dJ13_bitCount_95d88_1 : decode cJ13_bitCount_95d88 1 = .ok (.lload_n 0, 1) := by decide +kernel
theorem dJ13_bitCount_95d88_2 : decode cJ13_bitCount_95d88 2 = .ok (.iconst 1, 1) := by decide +kernel
theorem dJ13_bitCount_95d88_3 : decode cJ13_bitCount_95d88 3 = .ok (.lushr, 1) := by decide +kernel
theorem dJ13_bitCount_95d88_4 : decode cJ13_bitCount_95d88 4 = .ok (.ldc2_w 314, 3) := by decide +kernel
theorem dJ13_bitCount_95d88_7 : decode cJ13_bitCount_95d88 7 = .ok (.land, 1) := by decide +kernel
theorem dJ13_bitCount_95d88_8 : decode cJ13_bitCount_95d88 8 = .ok (.lsub, 1) := by decide +kernel
theorem dJ13_bitCount_95d88_9 : decode cJ13_bitCount_95d88 9 = .ok (.lstore_n 0, 1) := by decide +kernel
theorem dJ13_bitCount_95d88_10 : decode cJ13_bitCount_95d88 10 = .ok (.lload_n 0, 1) := by decide +kernel
theorem dJ13_bitCount_95d88_11 : decode cJ13_bitCount_95d88 11 = .ok (.ldc2_w 316, 3) := by decide +kernel
theorem dJ13_bitCount_95d88_14 : decode cJ13_bitCount_95d88 14 = .ok (.land, 1) := by decide +kernel
theorem dJ13_bitCount_95d88_15 : decode cJ13_bitCount_95d88 15 = .ok (.lload_n 0, 1) := by decide +kernel
theorem dJ13_bitCount_95d88_16 : decode cJ13_bitCount_95d88 16 = .ok (.iconst 2, 1) := by decide +kernel
theorem dJ13_bitCount_95d88_17 : decode cJ13_bitCount_95d88 17 = .ok (.lushr, 1) := by decide +kernel
theorem dJ13_bitCount_95d88_18 : decode cJ13_bitCount_95d88 18 = .ok (.ldc2_w 316, 3) := by decide +kernel
theorem dJ13_bitCount_95d88_21 : decode cJ13_bitCount_95d88 21 = .ok (.land, 1) := by decide +kernel
theorem dJ13_bitCount_95d88_22 : decode cJ13_bitCount_95d88 22 = .ok (.ladd, 1) := by decide +kernel
theorem dJ13_bitCount_95d88_23 : decode cJ13_bitCount_95d88 23 = .ok (.lstore_n 0, 1) := by decide +kernel
theorem dJ13_bitCount_95d88_24 : decode cJ13_bitCount_95d88 24 = .ok (.lload_n 0, 1) := by decide +kernel
theorem dJ13_bitCount_95d88_25 : decode cJ13_bitCount_95d88 25 = .ok (.lload_n 0, 1) := by decide +kernel
theorem dJ13_bitCount_95d88_26 : decode cJ13_bitCount_95d88 26 = .ok (.iconst 4, 1) := by decide +kernel
theorem dJ13_bitCount_95d88_27 : decode cJ13_bitCount_95d88 27 = .ok (.lushr, 1) := by decide +kernel
theorem dJ13_bitCount_95d88_28 : decode cJ13_bitCount_95d88 28 = .ok (.ladd, 1) := by decide +kernel
theorem dJ13_bitCount_95d88_29 : decode cJ13_bitCount_95d88 29 = .ok (.ldc2_w 318, 3) := by decide +kernel
theorem dJ13_bitCount_95d88_32 : decode cJ13_bitCount_95d88 32 = .ok (.land, 1) := by decide +kernel
theorem dJ13_bitCount_95d88_33 : decode cJ13_bitCount_95d88 33 = .ok (.lstore_n 0, 1) := by decide +kernel
theorem dJ13_bitCount_95d88_34 : decode cJ13_bitCount_95d88 34 = .ok (.lload_n 0, 1) := by decide +kernel
theorem dJ13_bitCount_95d88_35 : decode cJ13_bitCount_95d88 35 = .ok (.lload_n 0, 1) := by decide +kernel
theorem dJ13_bitCount_95d88_36 : decode cJ13_bitCount_95d88 36 = .ok (.bipush 8, 2) := by decide +kernel
theorem dJ13_bitCount_95d88_38 : decode cJ13_bitCount_95d88 38 = .ok (.lushr, 1) := by decide +kernel
theorem dJ13_bitCount_95d88_39 : decode cJ13_bitCount_95d88 39 = .ok (.ladd, 1) := by decide +kernel
theorem dJ13_bitCount_95d88_40 : decode cJ13_bitCount_95d88 40 = .ok (.lstore_n 0, 1) := by decide +kernel
theorem dJ13_bitCount_95d88_41 : decode cJ13_bitCount_95d88 41 = .ok (.lload_n 0, 1) := by decide +kernel
theorem dJ13_bitCount_95d88_42 : decode cJ13_bitCount_95d88 42 = .ok (.lload_n 0, 1) := by decide +kernel
theorem dJ13_bitCount_95d88_43 : decode cJ13_bitCount_95d88 43 = .ok (.bipush 16, 2) := by decide +kernel
theorem dJ13_bitCount_95d88_45 : decode cJ13_bitCount_95d88 45 = .ok (.lushr, 1) := by decide +kernel
theorem dJ13_bitCount_95d88_46 : decode cJ13_bitCount_95d88 46 = .ok (.ladd, 1) := by decide +kernel
theorem dJ13_bitCount_95d88_47 : decode cJ13_bitCount_95d88 47 = .ok (.lstore_n 0, 1) := by decide +kernel
theorem dJ13_bitCount_95d88_48 : decode cJ13_bitCount_95d88 48 = .ok (.lload_n 0, 1) := by decide +kernel
theorem dJ13_bitCount_95d88_49 : decode cJ13_bitCount_95d88 49 = .ok (.lload_n 0, 1) := by decide +kernel
theorem dJ13_bitCount_95d88_50 : decode cJ13_bitCount_95d88 50 = .ok (.bipush 32, 2) := by decide +kernel
theorem dJ13_bitCount_95d88_52 : decode cJ13_bitCount_95d88 52 = .ok (.lushr, 1) := by decide +kernel
theorem dJ13_bitCount_95d88_53 : decode cJ13_bitCount_95d88 53 = .ok (.ladd, 1) := by decide +kernel
theorem dJ13_bitCount_95d88_54 : decode cJ13_bitCount_95d88 54 = .ok (.lstore_n 0, 1) := by decide +kernel
theorem dJ13_bitCount_95d88_55 : decode cJ13_bitCount_95d88 55 = .ok (.lload_n 0, 1) := by decide +kernel
theorem dJ13_bitCount_95d88_56 : decode cJ13_bitCount_95d88 56 = .ok (.l2i, 1) := by decide +kernel
theorem dJ13_bitCount_95d88_57 : decode cJ13_bitCount_95d88 57 = .ok (.bipush 127, 2) := by decide +kernel
theorem dJ13_bitCount_95d88_59 : decode cJ13_bitCount_95d88 59 = .ok (.iand, 1) := by decide +kernel
theorem dJ13_bitCount_95d88_60 : decode cJ13_bitCount_95d88 60 = .ok (.ireturn, 1) := by decide +kernel
theorem dJ9_max_7cf53_0 : decode cJ9_max_7cf53 0 = .ok (.iload_n 0, 1) := by decide +kernel
theorem dJ9_max_7cf53_1 : decode cJ9_max_7cf53 1 = .ok (.iload_n 1, 1) := by decide +kernel
theorem dJ9_max_7cf53_2 : decode cJ9_max_7cf53 2 = .ok (.if_icmp .lt 7, 3) := by decide +kernel
theorem dJ9_max_7cf53_5 : decode cJ9_max_7cf53 5 = .ok (.iload_n 0, 1) := by decide +kernel
theorem dJ9_max_7cf53_6 : decode cJ9_max_7cf53 6 = .ok (.goto 4, 3) := by decide +kernel
theorem dJ9_max_7cf53_9 : decode cJ9_max_7cf53 9 = .ok (.iload_n 1, 1) := by decide +kernel
theorem dJ9_max_7cf53_10 : decode cJ9_max_7cf53 10 = .ok (.ireturn, 1) := by decide +kernel
theorem dJ9_min_7cf53_0 : decode cJ9_min_7cf53 0 = .ok (.iload_n 0, 1) := by decide +kernel
theorem dJ9_min_7cf53_1 : decode cJ9_min_7cf53 1 = .ok (.iload_n 1, 1) := by decide +kernel
theorem dJ9_min_7cf53_2 : decode cJ9_min_7cf53 2 = .ok (.if_icmp .gt 7, 3) := by decide +kernel
theorem dJ9_min_7cf53_5 : decode cJ9_min_7cf53 5 = .ok (.iload_n 0, 1) := by decide +kernel
theorem dJ9_min_7cf53_6 : decode cJ9_min_7cf53 6 = .ok (.goto 4, 3) := by decide +kernel
theorem dJ9_min_7cf53_9 : decode cJ9_min_7cf53 9 = .ok (.iload_n 1, 1) := by decide +kernel
theorem dJ9_min_7cf53_10 : decode cJ9_min_7cf53 10 = .ok (.ireturn, 1) := by decide +kernel
theorem dJxa1e45_init_da8c8_0 : decode cJxa1e45_init_da8c8 0 = .ok (.aload_n 0, 1) := by decide +kernel
theorem dJxa1e45_init_da8c8_1 : decode cJxa1e45_init_da8c8 1 = .ok (.invokespecial 1, 3) := by decide +kernel
theorem dJxa1e45_init_da8c8_4 : decode cJxa1e45_init_da8c8 4 = .ok (.return_, 1) := by decide +kernel
theorem dJxc12de_init_da8c8_0 : decode cJxc12de_init_da8c8 0 = .ok (.aload_n 0, 1) := by decide +kernel
theorem dJxc12de_init_da8c8_1 : decode cJxc12de_init_da8c8 1 = .ok (.invokespecial 1, 3) := by decide +kernel
theorem dJxc12de_init_da8c8_4 : decode cJxc12de_init_da8c8 4 = .ok (.aload_n 0, 1) := by decide +kernel
theorem dJxc12de_init_da8c8_5 : decode cJxc12de_init_da8c8 5 = .ok (.iconst 0, 1) := by decide +kernel
theorem dJxc12de_init_da8c8_6 : decode cJxc12de_init_da8c8 6 = .ok (.putfield 7, 3) := by decide +kernel
theorem dJxc12de_init_da8c8_9 : decode cJxc12de_init_da8c8 9 = .ok (.return_, 1) := by decide +kernel
theorem dJx4a65c_init_da8c8_0 : decode cJx4a65c_init_da8c8 0 = .ok (.aload_n 0, 1) := by decide +kernel
theorem dJx4a65c_init_da8c8_1 : decode cJx4a65c_init_da8c8 1 = .ok (.invokespecial 1, 3) := by decide +kernel
theorem dJx4a65c_init_da8c8_4 : decode cJx4a65c_init_da8c8 4 = .ok (.aload_n 0, 1) := by decide +kernel
theorem dJx4a65c_init_da8c8_5 : decode cJx4a65c_init_da8c8 5 = .ok (.getstatic 39, 3) := by decide +kernel
theorem dJx4a65c_init_da8c8_8 : decode cJx4a65c_init_da8c8 8 = .ok (.putfield 9, 3) := by decide +kernel
theorem dJx4a65c_init_da8c8_11 : decode cJx4a65c_init_da8c8 11 = .ok (.return_, 1) := by decide +kernel
theorem dJx4a65c_grow_92f84_0 : decode cJx4a65c_grow_92f84 0 = .ok (.aload_n 0, 1) := by decide +kernel
theorem dJx4a65c_grow_92f84_1 : decode cJx4a65c_grow_92f84 1 = .ok (.getfield 9, 3) := by decide +kernel
theorem dJx4a65c_grow_92f84_4 : decode cJx4a65c_grow_92f84 4 = .ok (.arraylength, 1) := by decide +kernel
theorem dJx4a65c_grow_92f84_5 : decode cJx4a65c_grow_92f84 5 = .ok (.istore_n 2, 1) := by decide +kernel
theorem dJx4a65c_grow_92f84_6 : decode cJx4a65c_grow_92f84 6 = .ok (.iload_n 2, 1) := by decide +kernel
theorem dJx4a65c_grow_92f84_7 : decode cJx4a65c_grow_92f84 7 = .ok (.ifCond .gt 13, 3) := by decide +kernel
theorem dJx4a65c_grow_92f84_10 : decode cJx4a65c_grow_92f84 10 = .ok (.aload_n 0, 1) := by decide +kernel
theorem dJx4a65c_grow_92f84_11 : decode cJx4a65c_grow_92f84 11 = .ok (.getfield 9, 3) := by decide +kernel
theorem dJx4a65c_grow_92f84_14 : decode cJx4a65c_grow_92f84 14 = .ok (.getstatic 39, 3) := by decide +kernel
theorem dJx4a65c_grow_92f84_17 : decode cJx4a65c_grow_92f84 17 = .ok (.if_acmp .eq 28, 3) := by decide +kernel
theorem dJx4a65c_grow_92f84_20 : decode cJx4a65c_grow_92f84 20 = .ok (.iload_n 2, 1) := by decide +kernel
theorem dJx4a65c_grow_92f84_21 : decode cJx4a65c_grow_92f84 21 = .ok (.iload_n 1, 1) := by decide +kernel
theorem dJx4a65c_grow_92f84_22 : decode cJx4a65c_grow_92f84 22 = .ok (.iload_n 2, 1) := by decide +kernel
theorem dJx4a65c_grow_92f84_23 : decode cJx4a65c_grow_92f84 23 = .ok (.isub, 1) := by decide +kernel
theorem dJx4a65c_grow_92f84_24 : decode cJx4a65c_grow_92f84 24 = .ok (.iload_n 2, 1) := by decide +kernel
theorem dJx4a65c_grow_92f84_25 : decode cJx4a65c_grow_92f84 25 = .ok (.iconst 1, 1) := by decide +kernel
theorem dJx4a65c_grow_92f84_26 : decode cJx4a65c_grow_92f84 26 = .ok (.ishr, 1) := by decide +kernel
theorem dJx4a65c_grow_92f84_27 : decode cJx4a65c_grow_92f84 27 = .ok (.invokestatic 73, 3) := by decide +kernel
theorem dJx4a65c_grow_92f84_30 : decode cJx4a65c_grow_92f84 30 = .ok (.istore_n 3, 1) := by decide +kernel
theorem dJx4a65c_grow_92f84_31 : decode cJx4a65c_grow_92f84 31 = .ok (.aload_n 0, 1) := by decide +kernel
theorem dJx4a65c_grow_92f84_32 : decode cJx4a65c_grow_92f84 32 = .ok (.aload_n 0, 1) := by decide +kernel
theorem dJx4a65c_grow_92f84_33 : decode cJx4a65c_grow_92f84 33 = .ok (.getfield 9, 3) := by decide +kernel
theorem dJx4a65c_grow_92f84_36 : decode cJx4a65c_grow_92f84 36 = .ok (.iload_n 3, 1) := by decide +kernel
theorem dJx4a65c_grow_92f84_37 : decode cJx4a65c_grow_92f84 37 = .ok (.invokestatic 66, 3) := by decide +kernel
theorem dJx4a65c_grow_92f84_40 : decode cJx4a65c_grow_92f84 40 = .ok (.dup_x1, 1) := by decide +kernel
theorem dJx4a65c_grow_92f84_41 : decode cJx4a65c_grow_92f84 41 = .ok (.putfield 9, 3) := by decide +kernel
theorem dJx4a65c_grow_92f84_44 : decode cJx4a65c_grow_92f84 44 = .ok (.areturn, 1) := by decide +kernel
theorem dJx4a65c_grow_92f84_45 : decode cJx4a65c_grow_92f84 45 = .ok (.aload_n 0, 1) := by decide +kernel
theorem dJx4a65c_grow_92f84_46 : decode cJx4a65c_grow_92f84 46 = .ok (.bipush 10, 2) := by decide +kernel
theorem dJx4a65c_grow_92f84_48 : decode cJx4a65c_grow_92f84 48 = .ok (.iload_n 1, 1) := by decide +kernel
theorem dJx4a65c_grow_92f84_49 : decode cJx4a65c_grow_92f84 49 = .ok (.invokestatic 79, 3) := by decide +kernel
theorem dJx4a65c_grow_92f84_52 : decode cJx4a65c_grow_92f84 52 = .ok (.anewarray 7, 3) := by decide +kernel
theorem dJx4a65c_grow_92f84_55 : decode cJx4a65c_grow_92f84 55 = .ok (.dup_x1, 1) := by decide +kernel
theorem dJx4a65c_grow_92f84_56 : decode cJx4a65c_grow_92f84 56 = .ok (.putfield 9, 3) := by decide +kernel
theorem dJx4a65c_grow_92f84_59 : decode cJx4a65c_grow_92f84 59 = .ok (.areturn, 1) := by decide +kernel
theorem dJx4a65c_grow_d5877_0 : decode cJx4a65c_grow_d5877 0 = .ok (.aload_n 0, 1) := by decide +kernel
theorem dJx4a65c_grow_d5877_1 : decode cJx4a65c_grow_d5877 1 = .ok (.aload_n 0, 1) := by decide +kernel
theorem dJx4a65c_grow_d5877_2 : decode cJx4a65c_grow_d5877 2 = .ok (.getfield 48, 3) := by decide +kernel
theorem dJx4a65c_grow_d5877_5 : decode cJx4a65c_grow_d5877 5 = .ok (.iconst 1, 1) := by decide +kernel
theorem dJx4a65c_grow_d5877_6 : decode cJx4a65c_grow_d5877 6 = .ok (.iadd, 1) := by decide +kernel
theorem dJx4a65c_grow_d5877_7 : decode cJx4a65c_grow_d5877 7 = .ok (.invokevirtual 69, 3) := by decide +kernel
theorem dJx4a65c_grow_d5877_10 : decode cJx4a65c_grow_d5877 10 = .ok (.areturn, 1) := by decide +kernel
theorem dJx4a65c_size_8abf5_0 : decode cJx4a65c_size_8abf5 0 = .ok (.aload_n 0, 1) := by decide +kernel
theorem dJx4a65c_size_8abf5_1 : decode cJx4a65c_size_8abf5 1 = .ok (.getfield 48, 3) := by decide +kernel
theorem dJx4a65c_size_8abf5_4 : decode cJx4a65c_size_8abf5 4 = .ok (.ireturn, 1) := by decide +kernel
theorem dJx4a65c_elementData_915e3_0 : decode cJx4a65c_elementData_915e3 0 = .ok (.aload_n 0, 1) := by decide +kernel
theorem dJx4a65c_elementData_915e3_1 : decode cJx4a65c_elementData_915e3 1 = .ok (.getfield 9, 3) := by decide +kernel
theorem dJx4a65c_elementData_915e3_4 : decode cJx4a65c_elementData_915e3 4 = .ok (.iload_n 1, 1) := by decide +kernel
theorem dJx4a65c_elementData_915e3_5 : decode cJx4a65c_elementData_915e3 5 = .ok (.aaload, 1) := by decide +kernel
theorem dJx4a65c_elementData_915e3_6 : decode cJx4a65c_elementData_915e3 6 = .ok (.areturn, 1) := by decide +kernel
theorem dJx4a65c_get_915e3_0 : decode cJx4a65c_get_915e3 0 = .ok (.iload_n 1, 1) := by decide +kernel
theorem dJx4a65c_get_915e3_1 : decode cJx4a65c_get_915e3 1 = .ok (.aload_n 0, 1) := by decide +kernel
theorem dJx4a65c_get_915e3_2 : decode cJx4a65c_get_915e3 2 = .ok (.getfield 48, 3) := by decide +kernel
theorem dJx4a65c_get_915e3_5 : decode cJx4a65c_get_915e3 5 = .ok (.invokestatic 118, 3) := by decide +kernel
theorem dJx4a65c_get_915e3_8 : decode cJx4a65c_get_915e3 8 = .ok (.pop, 1) := by decide +kernel
theorem dJx4a65c_get_915e3_9 : decode cJx4a65c_get_915e3 9 = .ok (.aload_n 0, 1) := by decide +kernel
theorem dJx4a65c_get_915e3_10 : decode cJx4a65c_get_915e3 10 = .ok (.iload_n 1, 1) := by decide +kernel
theorem dJx4a65c_get_915e3_11 : decode cJx4a65c_get_915e3 11 = .ok (.invokevirtual 123, 3) := by decide +kernel
theorem dJx4a65c_get_915e3_14 : decode cJx4a65c_get_915e3 14 = .ok (.areturn, 1) := by decide +kernel
theorem dJx4a65c_add_72be8_0 : decode cJx4a65c_add_72be8 0 = .ok (.iload_n 3, 1) := by decide +kernel
theorem dJx4a65c_add_72be8_1 : decode cJx4a65c_add_72be8 1 = .ok (.aload_n 2, 1) := by decide +kernel
theorem dJx4a65c_add_72be8_2 : decode cJx4a65c_add_72be8 2 = .ok (.arraylength, 1) := by decide +kernel
theorem dJx4a65c_add_72be8_3 : decode cJx4a65c_add_72be8 3 = .ok (.if_icmp .ne 8, 3) := by decide +kernel
theorem dJx4a65c_add_72be8_6 : decode cJx4a65c_add_72be8 6 = .ok (.aload_n 0, 1) := by decide +kernel
theorem dJx4a65c_add_72be8_7 : decode cJx4a65c_add_72be8 7 = .ok (.invokevirtual 129, 3) := by decide +kernel
theorem dJx4a65c_add_72be8_10 : decode cJx4a65c_add_72be8 10 = .ok (.astore_n 2, 1) := by decide +kernel
theorem dJx4a65c_add_72be8_11 : decode cJx4a65c_add_72be8 11 = .ok (.aload_n 2, 1) := by decide +kernel
theorem dJx4a65c_add_72be8_12 : decode cJx4a65c_add_72be8 12 = .ok (.iload_n 3, 1) := by decide +kernel
theorem dJx4a65c_add_72be8_13 : decode cJx4a65c_add_72be8 13 = .ok (.aload_n 1, 1) := by decide +kernel
theorem dJx4a65c_add_72be8_14 : decode cJx4a65c_add_72be8 14 = .ok (.aastore, 1) := by decide +kernel
theorem dJx4a65c_add_72be8_15 : decode cJx4a65c_add_72be8 15 = .ok (.aload_n 0, 1) := by decide +kernel
theorem dJx4a65c_add_72be8_16 : decode cJx4a65c_add_72be8 16 = .ok (.iload_n 3, 1) := by decide +kernel
theorem dJx4a65c_add_72be8_17 : decode cJx4a65c_add_72be8 17 = .ok (.iconst 1, 1) := by decide +kernel
theorem dJx4a65c_add_72be8_18 : decode cJx4a65c_add_72be8 18 = .ok (.iadd, 1) := by decide +kernel
theorem dJx4a65c_add_72be8_19 : decode cJx4a65c_add_72be8 19 = .ok (.putfield 48, 3) := by decide +kernel
theorem dJx4a65c_add_72be8_22 : decode cJx4a65c_add_72be8 22 = .ok (.return_, 1) := by decide +kernel
theorem dJx4a65c_add_9ea2d_0 : decode cJx4a65c_add_9ea2d 0 = .ok (.aload_n 0, 1) := by decide +kernel
theorem dJx4a65c_add_9ea2d_1 : decode cJx4a65c_add_9ea2d 1 = .ok (.dup, 1) := by decide +kernel
theorem dJx4a65c_add_9ea2d_2 : decode cJx4a65c_add_9ea2d 2 = .ok (.getfield 63, 3) := by decide +kernel
theorem dJx4a65c_add_9ea2d_5 : decode cJx4a65c_add_9ea2d 5 = .ok (.iconst 1, 1) := by decide +kernel
theorem dJx4a65c_add_9ea2d_6 : decode cJx4a65c_add_9ea2d 6 = .ok (.iadd, 1) := by decide +kernel
theorem dJx4a65c_add_9ea2d_7 : decode cJx4a65c_add_9ea2d 7 = .ok (.putfield 63, 3) := by decide +kernel
theorem dJx4a65c_add_9ea2d_10 : decode cJx4a65c_add_9ea2d 10 = .ok (.aload_n 0, 1) := by decide +kernel
theorem dJx4a65c_add_9ea2d_11 : decode cJx4a65c_add_9ea2d 11 = .ok (.aload_n 1, 1) := by decide +kernel
theorem dJx4a65c_add_9ea2d_12 : decode cJx4a65c_add_9ea2d 12 = .ok (.aload_n 0, 1) := by decide +kernel
theorem dJx4a65c_add_9ea2d_13 : decode cJx4a65c_add_9ea2d 13 = .ok (.getfield 9, 3) := by decide +kernel
theorem dJx4a65c_add_9ea2d_16 : decode cJx4a65c_add_9ea2d 16 = .ok (.aload_n 0, 1) := by decide +kernel
theorem dJx4a65c_add_9ea2d_17 : decode cJx4a65c_add_9ea2d 17 = .ok (.getfield 48, 3) := by decide +kernel
theorem dJx4a65c_add_9ea2d_20 : decode cJx4a65c_add_9ea2d 20 = .ok (.invokevirtual 131, 3) := by decide +kernel
theorem dJx4a65c_add_9ea2d_23 : decode cJx4a65c_add_9ea2d 23 = .ok (.iconst 1, 1) := by decide +kernel
theorem dJx4a65c_add_9ea2d_24 : decode cJx4a65c_add_9ea2d 24 = .ok (.ireturn, 1) := by decide +kernel
theorem dJ7_fill_53178_0 : decode cJ7_fill_53178 0 = .ok (.iconst 0, 1) := by decide +kernel
theorem dJ7_fill_53178_1 : decode cJ7_fill_53178 1 = .ok (.istore_n 2, 1) := by decide +kernel
theorem dJ7_fill_53178_2 : decode cJ7_fill_53178 2 = .ok (.aload_n 0, 1) := by decide +kernel
theorem dJ7_fill_53178_3 : decode cJ7_fill_53178 3 = .ok (.arraylength, 1) := by decide +kernel
theorem dJ7_fill_53178_4 : decode cJ7_fill_53178 4 = .ok (.istore_n 3, 1) := by decide +kernel
theorem dJ7_fill_53178_5 : decode cJ7_fill_53178 5 = .ok (.iload_n 2, 1) := by decide +kernel
theorem dJ7_fill_53178_6 : decode cJ7_fill_53178 6 = .ok (.iload_n 3, 1) := by decide +kernel
theorem dJ7_fill_53178_7 : decode cJ7_fill_53178 7 = .ok (.if_icmp .ge 13, 3) := by decide +kernel
theorem dJ7_fill_53178_10 : decode cJ7_fill_53178 10 = .ok (.aload_n 0, 1) := by decide +kernel
theorem dJ7_fill_53178_11 : decode cJ7_fill_53178 11 = .ok (.iload_n 2, 1) := by decide +kernel
theorem dJ7_fill_53178_12 : decode cJ7_fill_53178 12 = .ok (.iload_n 1, 1) := by decide +kernel
theorem dJ7_fill_53178_13 : decode cJ7_fill_53178 13 = .ok (.iastore, 1) := by decide +kernel
theorem dJ7_fill_53178_14 : decode cJ7_fill_53178 14 = .ok (.iinc 2 1, 3) := by decide +kernel
theorem dJ7_fill_53178_17 : decode cJ7_fill_53178 17 = .ok (.goto (-12), 3) := by decide +kernel
theorem dJ7_fill_53178_20 : decode cJ7_fill_53178 20 = .ok (.return_, 1) := by decide +kernel
theorem dJ7_copyOf_1904c_0 : decode cJ7_copyOf_1904c 0 = .ok (.aload_n 0, 1) := by decide +kernel
theorem dJ7_copyOf_1904c_1 : decode cJ7_copyOf_1904c 1 = .ok (.iload_n 1, 1) := by decide +kernel
theorem dJ7_copyOf_1904c_2 : decode cJ7_copyOf_1904c 2 = .ok (.aload_n 0, 1) := by decide +kernel
theorem dJ7_copyOf_1904c_3 : decode cJ7_copyOf_1904c 3 = .ok (.invokevirtual 86, 3) := by decide +kernel
theorem dJ7_copyOf_1904c_6 : decode cJ7_copyOf_1904c 6 = .ok (.invokestatic 300, 3) := by decide +kernel
theorem dJ7_copyOf_1904c_9 : decode cJ7_copyOf_1904c 9 = .ok (.areturn, 1) := by decide +kernel
theorem dJ7_copyOf_6403c_0 : decode cJ7_copyOf_6403c 0 = .ok (.aload_n 2, 1) := by decide +kernel
theorem dJ7_copyOf_6403c_1 : decode cJ7_copyOf_6403c 1 = .ok (.ldc 110, 2) := by decide +kernel
theorem dJ7_copyOf_6403c_3 : decode cJ7_copyOf_6403c 3 = .ok (.if_acmp .ne 10, 3) := by decide +kernel
theorem dJ7_copyOf_6403c_6 : decode cJ7_copyOf_6403c 6 = .ok (.iload_n 1, 1) := by decide +kernel
theorem dJ7_copyOf_6403c_7 : decode cJ7_copyOf_6403c 7 = .ok (.anewarray 2, 3) := by decide +kernel
theorem dJ7_copyOf_6403c_10 : decode cJ7_copyOf_6403c 10 = .ok (.goto 14, 3) := by decide +kernel
theorem dJ7_copyOf_6403c_13 : decode cJ7_copyOf_6403c 13 = .ok (.aload_n 2, 1) := by decide +kernel
theorem dJ7_copyOf_6403c_14 : decode cJ7_copyOf_6403c 14 = .ok (.invokevirtual 90, 3) := by decide +kernel
theorem dJ7_copyOf_6403c_17 : decode cJ7_copyOf_6403c 17 = .ok (.iload_n 1, 1) := by decide +kernel
theorem dJ7_copyOf_6403c_18 : decode cJ7_copyOf_6403c 18 = .ok (.invokestatic 95, 3) := by decide +kernel
theorem dJ7_copyOf_6403c_21 : decode cJ7_copyOf_6403c 21 = .ok (.checkcast 110, 3) := by decide +kernel
theorem dJ7_copyOf_6403c_24 : decode cJ7_copyOf_6403c 24 = .ok (.astore_n 3, 1) := by decide +kernel
theorem dJ7_copyOf_6403c_25 : decode cJ7_copyOf_6403c 25 = .ok (.aload_n 0, 1) := by decide +kernel
theorem dJ7_copyOf_6403c_26 : decode cJ7_copyOf_6403c 26 = .ok (.iconst 0, 1) := by decide +kernel
theorem dJ7_copyOf_6403c_27 : decode cJ7_copyOf_6403c 27 = .ok (.aload_n 3, 1) := by decide +kernel
theorem dJ7_copyOf_6403c_28 : decode cJ7_copyOf_6403c 28 = .ok (.iconst 0, 1) := by decide +kernel
theorem dJ7_copyOf_6403c_29 : decode cJ7_copyOf_6403c 29 = .ok (.aload_n 0, 1) := by decide +kernel
theorem dJ7_copyOf_6403c_30 : decode cJ7_copyOf_6403c 30 = .ok (.arraylength, 1) := by decide +kernel
theorem dJ7_copyOf_6403c_31 : decode cJ7_copyOf_6403c 31 = .ok (.iload_n 1, 1) := by decide +kernel
theorem dJ7_copyOf_6403c_32 : decode cJ7_copyOf_6403c 32 = .ok (.invokestatic 304, 3) := by decide +kernel
theorem dJ7_copyOf_6403c_35 : decode cJ7_copyOf_6403c 35 = .ok (.invokestatic 150, 3) := by decide +kernel
theorem dJ7_copyOf_6403c_38 : decode cJ7_copyOf_6403c 38 = .ok (.aload_n 3, 1) := by decide +kernel
theorem dJ7_copyOf_6403c_39 : decode cJ7_copyOf_6403c 39 = .ok (.areturn, 1) := by decide +kernel
theorem dJ15_checkIndex_7cf53_0 : decode cJ15_checkIndex_7cf53 0 = .ok (.iload_n 0, 1) := by decide +kernel
theorem dJ15_checkIndex_7cf53_1 : decode cJ15_checkIndex_7cf53 1 = .ok (.iload_n 1, 1) := by decide +kernel
theorem dJ15_checkIndex_7cf53_2 : decode cJ15_checkIndex_7cf53 2 = .ok (.aconst_null, 1) := by decide +kernel
theorem dJ15_checkIndex_7cf53_3 : decode cJ15_checkIndex_7cf53 3 = .ok (.invokestatic 105, 3) := by decide +kernel
theorem dJ15_checkIndex_7cf53_6 : decode cJ15_checkIndex_7cf53 6 = .ok (.ireturn, 1) := by decide +kernel
theorem dJ8_newLength_cabcc_0 : decode cJ8_newLength_cabcc 0 = .ok (.iload_n 0, 1) := by decide +kernel
theorem dJ8_newLength_cabcc_1 : decode cJ8_newLength_cabcc 1 = .ok (.iload_n 1, 1) := by decide +kernel
theorem dJ8_newLength_cabcc_2 : decode cJ8_newLength_cabcc 2 = .ok (.iload_n 2, 1) := by decide +kernel
theorem dJ8_newLength_cabcc_3 : decode cJ8_newLength_cabcc 3 = .ok (.invokestatic 194, 3) := by decide +kernel
theorem dJ8_newLength_cabcc_6 : decode cJ8_newLength_cabcc 6 = .ok (.iadd, 1) := by decide +kernel
theorem dJ8_newLength_cabcc_7 : decode cJ8_newLength_cabcc 7 = .ok (.istore_n 3, 1) := by decide +kernel
theorem dJ8_newLength_cabcc_8 : decode cJ8_newLength_cabcc 8 = .ok (.iconst 0, 1) := by decide +kernel
theorem dJ8_newLength_cabcc_9 : decode cJ8_newLength_cabcc 9 = .ok (.iload_n 3, 1) := by decide +kernel
theorem dJ8_newLength_cabcc_10 : decode cJ8_newLength_cabcc 10 = .ok (.if_icmp .ge 11, 3) := by decide +kernel
theorem dJ8_newLength_cabcc_13 : decode cJ8_newLength_cabcc 13 = .ok (.iload_n 3, 1) := by decide +kernel
theorem dJ8_newLength_cabcc_14 : decode cJ8_newLength_cabcc 14 = .ok (.ldc 200, 2) := by decide +kernel
theorem dJ8_newLength_cabcc_16 : decode cJ8_newLength_cabcc 16 = .ok (.if_icmp .gt 5, 3) := by decide +kernel
theorem dJ8_newLength_cabcc_19 : decode cJ8_newLength_cabcc 19 = .ok (.iload_n 3, 1) := by decide +kernel
theorem dJ8_newLength_cabcc_20 : decode cJ8_newLength_cabcc 20 = .ok (.ireturn, 1) := by decide +kernel
theorem dJ8_newLength_cabcc_21 : decode cJ8_newLength_cabcc 21 = .ok (.iload_n 0, 1) := by decide +kernel
theorem dJ8_newLength_cabcc_22 : decode cJ8_newLength_cabcc 22 = .ok (.iload_n 1, 1) := by decide +kernel
theorem dJ8_newLength_cabcc_23 : decode cJ8_newLength_cabcc 23 = .ok (.invokestatic 201, 3) := by decide +kernel
theorem dJ8_newLength_cabcc_26 : decode cJ8_newLength_cabcc 26 = .ok (.ireturn, 1) := by decide +kernel
theorem dJ8_hugeLength_7cf53_0 : decode cJ8_hugeLength_7cf53 0 = .ok (.iload_n 0, 1) := by decide +kernel
theorem dJ8_hugeLength_7cf53_1 : decode cJ8_hugeLength_7cf53 1 = .ok (.iload_n 1, 1) := by decide +kernel
theorem dJ8_hugeLength_7cf53_2 : decode cJ8_hugeLength_7cf53 2 = .ok (.iadd, 1) := by decide +kernel
theorem dJ8_hugeLength_7cf53_3 : decode cJ8_hugeLength_7cf53 3 = .ok (.istore_n 2, 1) := by decide +kernel
theorem dJ8_hugeLength_7cf53_4 : decode cJ8_hugeLength_7cf53 4 = .ok (.iload_n 2, 1) := by decide +kernel
theorem dJ8_hugeLength_7cf53_5 : decode cJ8_hugeLength_7cf53 5 = .ok (.ifCond .ge 44, 3) := by decide +kernel
theorem dJ8_hugeLength_7cf53_8 : decode cJ8_hugeLength_7cf53 8 = .ok (.new 204, 3) := by decide +kernel
theorem dJ8_hugeLength_7cf53_11 : decode cJ8_hugeLength_7cf53 11 = .ok (.dup, 1) := by decide +kernel
theorem dJ8_hugeLength_7cf53_12 : decode cJ8_hugeLength_7cf53 12 = .ok (.new 89, 3) := by decide +kernel
theorem dJ8_hugeLength_7cf53_15 : decode cJ8_hugeLength_7cf53 15 = .ok (.dup, 1) := by decide +kernel
theorem dJ8_hugeLength_7cf53_16 : decode cJ8_hugeLength_7cf53 16 = .ok (.invokespecial 91, 3) := by decide +kernel
theorem dJ8_hugeLength_7cf53_19 : decode cJ8_hugeLength_7cf53 19 = .ok (.ldc 206, 2) := by decide +kernel
theorem dJ8_hugeLength_7cf53_21 : decode cJ8_hugeLength_7cf53 21 = .ok (.invokevirtual 94, 3) := by decide +kernel
theorem dJ8_hugeLength_7cf53_24 : decode cJ8_hugeLength_7cf53 24 = .ok (.iload_n 0, 1) := by decide +kernel
theorem dJ8_hugeLength_7cf53_25 : decode cJ8_hugeLength_7cf53 25 = .ok (.invokevirtual 98, 3) := by decide +kernel
theorem dJ8_hugeLength_7cf53_28 : decode cJ8_hugeLength_7cf53 28 = .ok (.ldc 208, 2) := by decide +kernel
theorem dJ8_hugeLength_7cf53_30 : decode cJ8_hugeLength_7cf53 30 = .ok (.invokevirtual 94, 3) := by decide +kernel
theorem dJ8_hugeLength_7cf53_33 : decode cJ8_hugeLength_7cf53 33 = .ok (.iload_n 1, 1) := by decide +kernel
theorem dJ8_hugeLength_7cf53_34 : decode cJ8_hugeLength_7cf53 34 = .ok (.invokevirtual 98, 3) := by decide +kernel
theorem dJ8_hugeLength_7cf53_37 : decode cJ8_hugeLength_7cf53 37 = .ok (.ldc 210, 2) := by decide +kernel
theorem dJ8_hugeLength_7cf53_39 : decode cJ8_hugeLength_7cf53 39 = .ok (.invokevirtual 94, 3) := by decide +kernel
theorem dJ8_hugeLength_7cf53_42 : decode cJ8_hugeLength_7cf53 42 = .ok (.invokevirtual 101, 3) := by decide +kernel
theorem dJ8_hugeLength_7cf53_45 : decode cJ8_hugeLength_7cf53 45 = .ok (.invokespecial 212, 3) := by decide +kernel
theorem dJ8_hugeLength_7cf53_48 : decode cJ8_hugeLength_7cf53 48 = .ok (.athrow, 1) := by decide +kernel
theorem dJ8_hugeLength_7cf53_49 : decode cJ8_hugeLength_7cf53 49 = .ok (.iload_n 2, 1) := by decide +kernel
theorem dJ8_hugeLength_7cf53_50 : decode cJ8_hugeLength_7cf53 50 = .ok (.ldc 200, 2) := by decide +kernel
theorem dJ8_hugeLength_7cf53_52 : decode cJ8_hugeLength_7cf53 52 = .ok (.if_icmp .gt 6, 3) := by decide +kernel
theorem dJ8_hugeLength_7cf53_55 : decode cJ8_hugeLength_7cf53 55 = .ok (.ldc 200, 2) := by decide +kernel
theorem dJ8_hugeLength_7cf53_57 : decode cJ8_hugeLength_7cf53 57 = .ok (.ireturn, 1) := by decide +kernel
theorem dJ8_hugeLength_7cf53_58 : decode cJ8_hugeLength_7cf53 58 = .ok (.iload_n 2, 1) := by decide +kernel
theorem dJ8_hugeLength_7cf53_59 : decode cJ8_hugeLength_7cf53 59 = .ok (.ireturn, 1) := by decide +kernel
theorem dJ3_checkIndex_8e157_0 : decode cJ3_checkIndex_8e157 0 = .ok (.iload_n 0, 1) := by decide +kernel
theorem dJ3_checkIndex_8e157_1 : decode cJ3_checkIndex_8e157 1 = .ok (.ifCond .lt 8, 3) := by decide +kernel
theorem dJ3_checkIndex_8e157_4 : decode cJ3_checkIndex_8e157 4 = .ok (.iload_n 0, 1) := by decide +kernel
theorem dJ3_checkIndex_8e157_5 : decode cJ3_checkIndex_8e157 5 = .ok (.iload_n 1, 1) := by decide +kernel
theorem dJ3_checkIndex_8e157_6 : decode cJ3_checkIndex_8e157 6 = .ok (.if_icmp .lt 10, 3) := by decide +kernel
theorem dJ3_checkIndex_8e157_9 : decode cJ3_checkIndex_8e157 9 = .ok (.aload_n 2, 1) := by decide +kernel
theorem dJ3_checkIndex_8e157_10 : decode cJ3_checkIndex_8e157 10 = .ok (.iload_n 0, 1) := by decide +kernel
theorem dJ3_checkIndex_8e157_11 : decode cJ3_checkIndex_8e157 11 = .ok (.iload_n 1, 1) := by decide +kernel
theorem dJ3_checkIndex_8e157_12 : decode cJ3_checkIndex_8e157 12 = .ok (.invokestatic 95, 3) := by decide +kernel
theorem dJ3_checkIndex_8e157_15 : decode cJ3_checkIndex_8e157 15 = .ok (.athrow, 1) := by decide +kernel
theorem dJ3_checkIndex_8e157_16 : decode cJ3_checkIndex_8e157 16 = .ok (.iload_n 0, 1) := by decide +kernel
theorem dJ3_checkIndex_8e157_17 : decode cJ3_checkIndex_8e157 17 = .ok (.ireturn, 1) := by decide +kernel
