theorem dX7_init_0 : decode cX7_init 0 = .ok (.aload_n 0, 1) := by decide +kernel
theorem dX7_init_1 : decode cX7_init 1 = .ok (.invokespecial 1, 3) := by decide +kernel
theorem dX7_init_4 : decode cX7_init 4 = .ok (.aload_n 0, 1) := by decide +kernel
theorem dX7_init_5 : decode cX7_init 5 = .ok (.new 7, 3) := by decide +kernel
theorem dX7_init_8 : decode cX7_init 8 = .ok (.dup, 1) := by decide +kernel
theorem dX7_init_9 : decode cX7_init 9 = .ok (.invokespecial 9, 3) := by decide +kernel
theorem dX7_init_12 : decode cX7_init 12 = .ok (.putfield 10, 3) := by decide +kernel
theorem dX7_init_15 : decode cX7_init 15 = .ok (.aload_n 0, 1) := by decide +kernel
theorem dX7_init_16 : decode cX7_init 16 = .ok (.new 7, 3) := by decide +kernel
theorem dX7_init_19 : decode cX7_init 19 = .ok (.dup, 1) := by decide +kernel
theorem dX7_init_20 : decode cX7_init 20 = .ok (.invokespecial 9, 3) := by decide +kernel
theorem dX7_init_23 : decode cX7_init 23 = .ok (.putfield 16, 3) := by decide +kernel
theorem dX7_init_26 : decode cX7_init 26 = .ok (.aload_n 0, 1) := by decide +kernel
theorem dX7_init_27 : decode cX7_init 27 = .ok (.new 7, 3) := by decide +kernel
theorem dX7_init_30 : decode cX7_init 30 = .ok (.dup, 1) := by decide +kernel
theorem dX7_init_31 : decode cX7_init 31 = .ok (.invokespecial 9, 3) := by decide +kernel
theorem dX7_init_34 : decode cX7_init 34 = .ok (.putfield 19, 3) := by decide +kernel
theorem dX7_init_37 : decode cX7_init 37 = .ok (.aload_n 0, 1) := by decide +kernel
theorem dX7_init_38 : decode cX7_init 38 = .ok (.new 7, 3) := by decide +kernel
theorem dX7_init_41 : decode cX7_init 41 = .ok (.dup, 1) := by decide +kernel
theorem dX7_init_42 : decode cX7_init 42 = .ok (.invokespecial 9, 3) := by decide +kernel
theorem dX7_init_45 : decode cX7_init 45 = .ok (.putfield 22, 3) := by decide +kernel
theorem dX7_init_48 : decode cX7_init 48 = .ok (.aload_n 0, 1) := by decide +kernel
theorem dX7_init_49 : decode cX7_init 49 = .ok (.new 25, 3) := by decide +kernel
theorem dX7_init_52 : decode cX7_init 52 = .ok (.dup, 1) := by decide +kernel
theorem dX7_init_53 : decode cX7_init 53 = .ok (.invokespecial 27, 3) := by decide +kernel
theorem dX7_init_56 : decode cX7_init 56 = .ok (.putfield 28, 3) := by decide +kernel
theorem dX7_init_59 : decode cX7_init 59 = .ok (.aload_n 0, 1) := by decide +kernel
theorem dX7_init_60 : decode cX7_init 60 = .ok (.new 25, 3) := by decide +kernel
theorem dX7_init_63 : decode cX7_init 63 = .ok (.dup, 1) := by decide +kernel
theorem dX7_init_64 : decode cX7_init 64 = .ok (.invokespecial 27, 3) := by decide +kernel
theorem dX7_init_67 : decode cX7_init 67 = .ok (.putfield 32, 3) := by decide +kernel
theorem dX7_init_70 : decode cX7_init 70 = .ok (.aload_n 0, 1) := by decide +kernel
theorem dX7_init_71 : decode cX7_init 71 = .ok (.bipush 6, 2) := by decide +kernel
theorem dX7_init_73 : decode cX7_init 73 = .ok (.newarray .int, 2) := by decide +kernel
theorem dX7_init_75 : decode cX7_init 75 = .ok (.putfield 35, 3) := by decide +kernel
theorem dX7_init_78 : decode cX7_init 78 = .ok (.aload_n 0, 1) := by decide +kernel
theorem dX7_init_79 : decode cX7_init 79 = .ok (.bipush 6, 2) := by decide +kernel
theorem dX7_init_81 : decode cX7_init 81 = .ok (.newarray .int, 2) := by decide +kernel
theorem dX7_init_83 : decode cX7_init 83 = .ok (.putfield 39, 3) := by decide +kernel
theorem dX7_init_86 : decode cX7_init 86 = .ok (.aload_n 0, 1) := by decide +kernel
theorem dX7_init_87 : decode cX7_init 87 = .ok (.bipush 8, 2) := by decide +kernel
theorem dX7_init_89 : decode cX7_init 89 = .ok (.newarray .int, 2) := by decide +kernel
theorem dX7_init_91 : decode cX7_init 91 = .ok (.putfield 42, 3) := by decide +kernel
theorem dX7_init_94 : decode cX7_init 94 = .ok (.return_, 1) := by decide +kernel
theorem dX7_add_0 : decode cX7_add 0 = .ok (.iload_n 1, 1) := by decide +kernel
theorem dX7_add_1 : decode cX7_add 1 = .ok (.invokestatic 45, 3) := by decide +kernel
theorem dX7_add_4 : decode cX7_add 4 = .ok (.iload_n 2, 1) := by decide +kernel
theorem dX7_add_5 : decode cX7_add 5 = .ok (.iload_n 3, 1) := by decide +kernel
theorem dX7_add_6 : decode cX7_add 6 = .ok (.iload 4, 2) := by decide +kernel
theorem dX7_add_8 : decode cX7_add 8 = .ok (.iload 5, 2) := by decide +kernel
theorem dX7_add_10 : decode cX7_add 10 = .ok (.invokestatic 49, 3) := by decide +kernel
theorem dX7_add_13 : decode cX7_add 13 = .ok (.iload 6, 2) := by decide +kernel
theorem dX7_add_15 : decode cX7_add 15 = .ok (.iconst 1, 1) := by decide +kernel
theorem dX7_add_16 : decode cX7_add 16 = .ok (.bipush 9, 2) := by decide +kernel
theorem dX7_add_18 : decode cX7_add 18 = .ok (.invokestatic 53, 3) := by decide +kernel
theorem dX7_add_21 : decode cX7_add 21 = .ok (.aload_n 0, 1) := by decide +kernel
theorem dX7_add_22 : decode cX7_add 22 = .ok (.getfield 10, 3) := by decide +kernel
theorem dX7_add_25 : decode cX7_add 25 = .ok (.invokevirtual 57, 3) := by decide +kernel
theorem dX7_add_28 : decode cX7_add 28 = .ok (.bipush 40, 2) := by decide +kernel
theorem dX7_add_30 : decode cX7_add 30 = .ok (.if_icmp .ge 16, 3) := by decide +kernel
theorem dX7_add_33 : decode cX7_add 33 = .ok (.aload_n 0, 1) := by decide +kernel
theorem dX7_add_34 : decode cX7_add 34 = .ok (.getfield 16, 3) := by decide +kernel
theorem dX7_add_37 : decode cX7_add 37 = .ok (.invokevirtual 57, 3) := by decide +kernel
theorem dX7_add_40 : decode cX7_add 40 = .ok (.sipush 200, 3) := by decide +kernel
theorem dX7_add_43 : decode cX7_add 43 = .ok (.if_icmp .lt 13, 3) := by decide +kernel
theorem dX7_add_46 : decode cX7_add 46 = .ok (.new 61, 3) := by decide +kernel
theorem dX7_add_49 : decode cX7_add 49 = .ok (.dup, 1) := by decide +kernel
theorem dX7_add_50 : decode cX7_add 50 = .ok (.ldc 63, 2) := by decide +kernel
theorem dX7_add_52 : decode cX7_add 52 = .ok (.invokespecial 65, 3) := by decide +kernel
theorem dX7_add_55 : decode cX7_add 55 = .ok (.athrow, 1) := by decide +kernel
theorem dX7_add_56 : decode cX7_add 56 = .ok (.aload_n 0, 1) := by decide +kernel
theorem dX7_add_57 : decode cX7_add 57 = .ok (.getfield 10, 3) := by decide +kernel
theorem dX7_add_60 : decode cX7_add 60 = .ok (.invokevirtual 57, 3) := by decide +kernel
theorem dX7_add_63 : decode cX7_add 63 = .ok (.istore 7, 2) := by decide +kernel
theorem dX7_add_65 : decode cX7_add 65 = .ok (.aload_n 0, 1) := by decide +kernel
theorem dX7_add_66 : decode cX7_add 66 = .ok (.getfield 10, 3) := by decide +kernel
theorem dX7_add_69 : decode cX7_add 69 = .ok (.new 68, 3) := by decide +kernel
theorem dX7_add_72 : decode cX7_add 72 = .ok (.dup, 1) := by decide +kernel
theorem dX7_add_73 : decode cX7_add 73 = .ok (.iload_n 1, 1) := by decide +kernel
theorem dX7_add_74 : decode cX7_add 74 = .ok (.iload_n 2, 1) := by decide +kernel
theorem dX7_add_75 : decode cX7_add 75 = .ok (.iload_n 3, 1) := by decide +kernel
theorem dX7_add_76 : decode cX7_add 76 = .ok (.iload 4, 2) := by decide +kernel
theorem dX7_add_78 : decode cX7_add 78 = .ok (.iload 5, 2) := by decide +kernel
theorem dX7_add_80 : decode cX7_add 80 = .ok (.iload 6, 2) := by decide +kernel
theorem dX7_add_82 : decode cX7_add 82 = .ok (.invokespecial 70, 3) := by decide +kernel
theorem dX7_add_85 : decode cX7_add 85 = .ok (.invokevirtual 73, 3) := by decide +kernel
theorem dX7_add_88 : decode cX7_add 88 = .ok (.pop, 1) := by decide +kernel
theorem dX7_add_89 : decode cX7_add 89 = .ok (.aload_n 0, 1) := by decide +kernel
theorem dX7_add_90 : decode cX7_add 90 = .ok (.new 77, 3) := by decide +kernel
theorem dX7_add_93 : decode cX7_add 93 = .ok (.dup, 1) := by decide +kernel
theorem dX7_add_94 : decode cX7_add 94 = .ok (.iload_n 1, 1) := by decide +kernel
theorem dX7_add_95 : decode cX7_add 95 = .ok (.iconst 0, 1) := by decide +kernel
theorem dX7_add_96 : decode cX7_add 96 = .ok (.iload 7, 2) := by decide +kernel
theorem dX7_add_98 : decode cX7_add 98 = .ok (.iconst (-1), 1) := by decide +kernel
theorem dX7_add_99 : decode cX7_add 99 = .ok (.iconst (-1), 1) := by decide +kernel
theorem dX7_add_100 : decode cX7_add 100 = .ok (.invokespecial 79, 3) := by decide +kernel
theorem dX7_add_103 : decode cX7_add 103 = .ok (.invokevirtual 82, 3) := by decide +kernel
theorem dX7_add_106 : decode cX7_add 106 = .ok (.iload 7, 2) := by decide +kernel
theorem dX7_add_108 : decode cX7_add 108 = .ok (.ireturn, 1) := by decide +kernel
theorem dX7_move_0 : decode cX7_move 0 = .ok (.iload_n 1, 1) := by decide +kernel
theorem dX7_move_1 : decode cX7_move 1 = .ok (.invokestatic 45, 3) := by decide +kernel
theorem dX7_move_4 : decode cX7_move 4 = .ok (.aload_n 0, 1) := by decide +kernel
theorem dX7_move_5 : decode cX7_move 5 = .ok (.iload_n 2, 1) := by decide +kernel
theorem dX7_move_6 : decode cX7_move 6 = .ok (.invokevirtual 86, 3) := by decide +kernel
theorem dX7_move_9 : decode cX7_move 9 = .ok (.iload_n 3, 1) := by decide +kernel
theorem dX7_move_10 : decode cX7_move 10 = .ok (.bipush (-24), 2) := by decide +kernel
theorem dX7_move_12 : decode cX7_move 12 = .ok (.bipush 24, 2) := by decide +kernel
theorem dX7_move_14 : decode cX7_move 14 = .ok (.invokestatic 53, 3) := by decide +kernel
theorem dX7_move_17 : decode cX7_move 17 = .ok (.iload 4, 2) := by decide +kernel
theorem dX7_move_19 : decode cX7_move 19 = .ok (.bipush (-16), 2) := by decide +kernel
theorem dX7_move_21 : decode cX7_move 21 = .ok (.bipush 16, 2) := by decide +kernel
theorem dX7_move_23 : decode cX7_move 23 = .ok (.invokestatic 53, 3) := by decide +kernel
theorem dX7_move_26 : decode cX7_move 26 = .ok (.aload_n 0, 1) := by decide +kernel
theorem dX7_move_27 : decode cX7_move 27 = .ok (.iload_n 2, 1) := by decide +kernel
theorem dX7_move_28 : decode cX7_move 28 = .ok (.invokevirtual 89, 3) := by decide +kernel
theorem dX7_move_31 : decode cX7_move 31 = .ok (.aload_n 0, 1) := by decide +kernel
theorem dX7_move_32 : decode cX7_move 32 = .ok (.new 77, 3) := by decide +kernel
theorem dX7_move_35 : decode cX7_move 35 = .ok (.dup, 1) := by decide +kernel
theorem dX7_move_36 : decode cX7_move 36 = .ok (.iload_n 1, 1) := by decide +kernel
theorem dX7_move_37 : decode cX7_move 37 = .ok (.iconst 1, 1) := by decide +kernel
theorem dX7_move_38 : decode cX7_move 38 = .ok (.iload_n 2, 1) := by decide +kernel
theorem dX7_move_39 : decode cX7_move 39 = .ok (.iload_n 3, 1) := by decide +kernel
theorem dX7_move_40 : decode cX7_move 40 = .ok (.iload 4, 2) := by decide +kernel
theorem dX7_move_42 : decode cX7_move 42 = .ok (.invokespecial 79, 3) := by decide +kernel
theorem dX7_move_45 : decode cX7_move 45 = .ok (.invokevirtual 82, 3) := by decide +kernel
theorem dX7_move_48 : decode cX7_move 48 = .ok (.aload_n 0, 1) := by decide +kernel
theorem dX7_move_49 : decode cX7_move 49 = .ok (.getfield 28, 3) := by decide +kernel
theorem dX7_move_52 : decode cX7_move 52 = .ok (.iload_n 2, 1) := by decide +kernel
theorem dX7_move_53 : decode cX7_move 53 = .ok (.invokevirtual 92, 3) := by decide +kernel
theorem dX7_move_56 : decode cX7_move 56 = .ok (.ireturn, 1) := by decide +kernel
theorem dX7_paint_0 : decode cX7_paint 0 = .ok (.iload_n 1, 1) := by decide +kernel
theorem dX7_paint_1 : decode cX7_paint 1 = .ok (.invokestatic 45, 3) := by decide +kernel
theorem dX7_paint_4 : decode cX7_paint 4 = .ok (.aload_n 0, 1) := by decide +kernel
theorem dX7_paint_5 : decode cX7_paint 5 = .ok (.iload_n 2, 1) := by decide +kernel
theorem dX7_paint_6 : decode cX7_paint 6 = .ok (.invokevirtual 86, 3) := by decide +kernel
theorem dX7_paint_9 : decode cX7_paint 9 = .ok (.iload_n 3, 1) := by decide +kernel
theorem dX7_paint_10 : decode cX7_paint 10 = .ok (.iconst 1, 1) := by decide +kernel
theorem dX7_paint_11 : decode cX7_paint 11 = .ok (.bipush 9, 2) := by decide +kernel
theorem dX7_paint_13 : decode cX7_paint 13 = .ok (.invokestatic 53, 3) := by decide +kernel
theorem dX7_paint_16 : decode cX7_paint 16 = .ok (.aload_n 0, 1) := by decide +kernel
theorem dX7_paint_17 : decode cX7_paint 17 = .ok (.iload_n 2, 1) := by decide +kernel
theorem dX7_paint_18 : decode cX7_paint 18 = .ok (.invokevirtual 89, 3) := by decide +kernel
theorem dX7_paint_21 : decode cX7_paint 21 = .ok (.aload_n 0, 1) := by decide +kernel
theorem dX7_paint_22 : decode cX7_paint 22 = .ok (.getfield 28, 3) := by decide +kernel
theorem dX7_paint_25 : decode cX7_paint 25 = .ok (.getfield 96, 3) := by decide +kernel
theorem dX7_paint_28 : decode cX7_paint 28 = .ok (.iload_n 2, 1) := by decide +kernel
theorem dX7_paint_29 : decode cX7_paint 29 = .ok (.iaload, 1) := by decide +kernel
theorem dX7_paint_30 : decode cX7_paint 30 = .ok (.istore 4, 2) := by decide +kernel
theorem dX7_paint_32 : decode cX7_paint 32 = .ok (.aload_n 0, 1) := by decide +kernel
theorem dX7_paint_33 : decode cX7_paint 33 = .ok (.new 77, 3) := by decide +kernel
theorem dX7_paint_36 : decode cX7_paint 36 = .ok (.dup, 1) := by decide +kernel
theorem dX7_paint_37 : decode cX7_paint 37 = .ok (.iload_n 1, 1) := by decide +kernel
theorem dX7_paint_38 : decode cX7_paint 38 = .ok (.iconst 2, 1) := by decide +kernel
theorem dX7_paint_39 : decode cX7_paint 39 = .ok (.iload_n 2, 1) := by decide +kernel
theorem dX7_paint_40 : decode cX7_paint 40 = .ok (.iload_n 3, 1) := by decide +kernel
theorem dX7_paint_41 : decode cX7_paint 41 = .ok (.iconst (-1), 1) := by decide +kernel
theorem dX7_paint_42 : decode cX7_paint 42 = .ok (.invokespecial 79, 3) := by decide +kernel
theorem dX7_paint_45 : decode cX7_paint 45 = .ok (.invokevirtual 82, 3) := by decide +kernel
theorem dX7_paint_48 : decode cX7_paint 48 = .ok (.iload 4, 2) := by decide +kernel
theorem dX7_paint_50 : decode cX7_paint 50 = .ok (.ireturn, 1) := by decide +kernel
theorem dX7_layer_0 : decode cX7_layer 0 = .ok (.iload_n 1, 1) := by decide +kernel
theorem dX7_layer_1 : decode cX7_layer 1 = .ok (.invokestatic 45, 3) := by decide +kernel
theorem dX7_layer_4 : decode cX7_layer 4 = .ok (.aload_n 0, 1) := by decide +kernel
theorem dX7_layer_5 : decode cX7_layer 5 = .ok (.iload_n 2, 1) := by decide +kernel
theorem dX7_layer_6 : decode cX7_layer 6 = .ok (.invokevirtual 86, 3) := by decide +kernel
theorem dX7_layer_9 : decode cX7_layer 9 = .ok (.aload_n 0, 1) := by decide +kernel
theorem dX7_layer_10 : decode cX7_layer 10 = .ok (.iload_n 2, 1) := by decide +kernel
theorem dX7_layer_11 : decode cX7_layer 11 = .ok (.invokevirtual 89, 3) := by decide +kernel
theorem dX7_layer_14 : decode cX7_layer 14 = .ok (.aload_n 0, 1) := by decide +kernel
theorem dX7_layer_15 : decode cX7_layer 15 = .ok (.new 77, 3) := by decide +kernel
theorem dX7_layer_18 : decode cX7_layer 18 = .ok (.dup, 1) := by decide +kernel
theorem dX7_layer_19 : decode cX7_layer 19 = .ok (.iload_n 1, 1) := by decide +kernel
theorem dX7_layer_20 : decode cX7_layer 20 = .ok (.iload_n 3, 1) := by decide +kernel
theorem dX7_layer_21 : decode cX7_layer 21 = .ok (.ifCond .eq 7, 3) := by decide +kernel
theorem dX7_layer_24 : decode cX7_layer 24 = .ok (.iconst 3, 1) := by decide +kernel
theorem dX7_layer_25 : decode cX7_layer 25 = .ok (.goto 4, 3) := by decide +kernel
theorem dX7_layer_28 : decode cX7_layer 28 = .ok (.iconst 4, 1) := by decide +kernel
theorem dX7_layer_29 : decode cX7_layer 29 = .ok (.iload_n 2, 1) := by decide +kernel
theorem dX7_layer_30 : decode cX7_layer 30 = .ok (.iconst (-1), 1) := by decide +kernel
theorem dX7_layer_31 : decode cX7_layer 31 = .ok (.iconst (-1), 1) := by decide +kernel
theorem dX7_layer_32 : decode cX7_layer 32 = .ok (.invokespecial 79, 3) := by decide +kernel
theorem dX7_layer_35 : decode cX7_layer 35 = .ok (.invokevirtual 82, 3) := by decide +kernel
theorem dX7_layer_38 : decode cX7_layer 38 = .ok (.aload_n 0, 1) := by decide +kernel
theorem dX7_layer_39 : decode cX7_layer 39 = .ok (.getfield 28, 3) := by decide +kernel
theorem dX7_layer_42 : decode cX7_layer 42 = .ok (.getfield 99, 3) := by decide +kernel
theorem dX7_layer_45 : decode cX7_layer 45 = .ok (.invokestatic 103, 3) := by decide +kernel
theorem dX7_layer_48 : decode cX7_layer 48 = .ok (.ireturn, 1) := by decide +kernel
theorem dX7_join_0 : decode cX7_join 0 = .ok (.iload_n 1, 1) := by decide +kernel
theorem dX7_join_1 : decode cX7_join 1 = .ok (.invokestatic 45, 3) := by decide +kernel
theorem dX7_join_4 : decode cX7_join 4 = .ok (.aload_n 0, 1) := by decide +kernel
theorem dX7_join_5 : decode cX7_join 5 = .ok (.iload_n 2, 1) := by decide +kernel
theorem dX7_join_6 : decode cX7_join 6 = .ok (.invokevirtual 86, 3) := by decide +kernel
theorem dX7_join_9 : decode cX7_join 9 = .ok (.aload_n 0, 1) := by decide +kernel
theorem dX7_join_10 : decode cX7_join 10 = .ok (.iload_n 3, 1) := by decide +kernel
theorem dX7_join_11 : decode cX7_join 11 = .ok (.invokevirtual 86, 3) := by decide +kernel
theorem dX7_join_14 : decode cX7_join 14 = .ok (.iload_n 2, 1) := by decide +kernel
theorem dX7_join_15 : decode cX7_join 15 = .ok (.iload_n 3, 1) := by decide +kernel
theorem dX7_join_16 : decode cX7_join 16 = .ok (.if_icmp .ne 13, 3) := by decide +kernel
theorem dX7_join_19 : decode cX7_join 19 = .ok (.new 109, 3) := by decide +kernel
theorem dX7_join_22 : decode cX7_join 22 = .ok (.dup, 1) := by decide +kernel
theorem dX7_join_23 : decode cX7_join 23 = .ok (.ldc 111, 2) := by decide +kernel
theorem dX7_join_25 : decode cX7_join 25 = .ok (.invokespecial 113, 3) := by decide +kernel
theorem dX7_join_28 : decode cX7_join 28 = .ok (.athrow, 1) := by decide +kernel
theorem dX7_join_29 : decode cX7_join 29 = .ok (.aload_n 0, 1) := by decide +kernel
theorem dX7_join_30 : decode cX7_join 30 = .ok (.iload_n 2, 1) := by decide +kernel
theorem dX7_join_31 : decode cX7_join 31 = .ok (.invokevirtual 89, 3) := by decide +kernel
theorem dX7_join_34 : decode cX7_join 34 = .ok (.aload_n 0, 1) := by decide +kernel
theorem dX7_join_35 : decode cX7_join 35 = .ok (.iload_n 3, 1) := by decide +kernel
theorem dX7_join_36 : decode cX7_join 36 = .ok (.invokevirtual 89, 3) := by decide +kernel
theorem dX7_join_39 : decode cX7_join 39 = .ok (.aload_n 0, 1) := by decide +kernel
theorem dX7_join_40 : decode cX7_join 40 = .ok (.new 77, 3) := by decide +kernel
theorem dX7_join_43 : decode cX7_join 43 = .ok (.dup, 1) := by decide +kernel
theorem dX7_join_44 : decode cX7_join 44 = .ok (.iload_n 1, 1) := by decide +kernel
theorem dX7_join_45 : decode cX7_join 45 = .ok (.iconst 5, 1) := by decide +kernel
theorem dX7_join_46 : decode cX7_join 46 = .ok (.iload_n 2, 1) := by decide +kernel
theorem dX7_join_47 : decode cX7_join 47 = .ok (.iload_n 3, 1) := by decide +kernel
theorem dX7_join_48 : decode cX7_join 48 = .ok (.iconst (-1), 1) := by decide +kernel
theorem dX7_join_49 : decode cX7_join 49 = .ok (.invokespecial 79, 3) := by decide +kernel
theorem dX7_join_52 : decode cX7_join 52 = .ok (.invokevirtual 82, 3) := by decide +kernel
theorem dX7_join_55 : decode cX7_join 55 = .ok (.aload_n 0, 1) := by decide +kernel
theorem dX7_join_56 : decode cX7_join 56 = .ok (.getfield 28, 3) := by decide +kernel
theorem dX7_join_59 : decode cX7_join 59 = .ok (.iload_n 2, 1) := by decide +kernel
theorem dX7_join_60 : decode cX7_join 60 = .ok (.invokevirtual 92, 3) := by decide +kernel
theorem dX7_join_63 : decode cX7_join 63 = .ok (.ireturn, 1) := by decide +kernel
theorem dX7_part_0 : decode cX7_part 0 = .ok (.iload_n 1, 1) := by decide +kernel
theorem dX7_part_1 : decode cX7_part 1 = .ok (.invokestatic 45, 3) := by decide +kernel
theorem dX7_part_4 : decode cX7_part 4 = .ok (.aload_n 0, 1) := by decide +kernel
theorem dX7_part_5 : decode cX7_part 5 = .ok (.iload_n 2, 1) := by decide +kernel
theorem dX7_part_6 : decode cX7_part 6 = .ok (.invokevirtual 86, 3) := by decide +kernel
theorem dX7_part_9 : decode cX7_part 9 = .ok (.aload_n 0, 1) := by decide +kernel
theorem dX7_part_10 : decode cX7_part 10 = .ok (.iload_n 2, 1) := by decide +kernel
theorem dX7_part_11 : decode cX7_part 11 = .ok (.invokevirtual 89, 3) := by decide +kernel
theorem dX7_part_14 : decode cX7_part 14 = .ok (.aload_n 0, 1) := by decide +kernel
theorem dX7_part_15 : decode cX7_part 15 = .ok (.getfield 28, 3) := by decide +kernel
theorem dX7_part_18 : decode cX7_part 18 = .ok (.iload_n 2, 1) := by decide +kernel
theorem dX7_part_19 : decode cX7_part 19 = .ok (.invokevirtual 92, 3) := by decide +kernel
theorem dX7_part_22 : decode cX7_part 22 = .ok (.iconst 1, 1) := by decide +kernel
theorem dX7_part_23 : decode cX7_part 23 = .ok (.isub, 1) := by decide +kernel
theorem dX7_part_24 : decode cX7_part 24 = .ok (.istore_n 3, 1) := by decide +kernel
theorem dX7_part_25 : decode cX7_part 25 = .ok (.aload_n 0, 1) := by decide +kernel
theorem dX7_part_26 : decode cX7_part 26 = .ok (.new 77, 3) := by decide +kernel
theorem dX7_part_29 : decode cX7_part 29 = .ok (.dup, 1) := by decide +kernel
theorem dX7_part_30 : decode cX7_part 30 = .ok (.iload_n 1, 1) := by decide +kernel
theorem dX7_part_31 : decode cX7_part 31 = .ok (.bipush 6, 2) := by decide +kernel
theorem dX7_part_33 : decode cX7_part 33 = .ok (.iload_n 2, 1) := by decide +kernel
theorem dX7_part_34 : decode cX7_part 34 = .ok (.iconst (-1), 1) := by decide +kernel
theorem dX7_part_35 : decode cX7_part 35 = .ok (.iconst (-1), 1) := by decide +kernel
theorem dX7_part_36 : decode cX7_part 36 = .ok (.invokespecial 79, 3) := by decide +kernel
theorem dX7_part_39 : decode cX7_part 39 = .ok (.invokevirtual 82, 3) := by decide +kernel
theorem dX7_part_42 : decode cX7_part 42 = .ok (.iload_n 3, 1) := by decide +kernel
theorem dX7_part_43 : decode cX7_part 43 = .ok (.ireturn, 1) := by decide +kernel
theorem dX7_drop_0 : decode cX7_drop 0 = .ok (.iload_n 1, 1) := by decide +kernel
theorem dX7_drop_1 : decode cX7_drop 1 = .ok (.invokestatic 45, 3) := by decide +kernel
theorem dX7_drop_4 : decode cX7_drop 4 = .ok (.aload_n 0, 1) := by decide +kernel
theorem dX7_drop_5 : decode cX7_drop 5 = .ok (.iload_n 2, 1) := by decide +kernel
theorem dX7_drop_6 : decode cX7_drop 6 = .ok (.invokevirtual 86, 3) := by decide +kernel
theorem dX7_drop_9 : decode cX7_drop 9 = .ok (.aload_n 0, 1) := by decide +kernel
theorem dX7_drop_10 : decode cX7_drop 10 = .ok (.iload_n 2, 1) := by decide +kernel
theorem dX7_drop_11 : decode cX7_drop 11 = .ok (.invokevirtual 89, 3) := by decide +kernel
theorem dX7_drop_14 : decode cX7_drop 14 = .ok (.aload_n 0, 1) := by decide +kernel
theorem dX7_drop_15 : decode cX7_drop 15 = .ok (.new 77, 3) := by decide +kernel
theorem dX7_drop_18 : decode cX7_drop 18 = .ok (.dup, 1) := by decide +kernel
theorem dX7_drop_19 : decode cX7_drop 19 = .ok (.iload_n 1, 1) := by decide +kernel
theorem dX7_drop_20 : decode cX7_drop 20 = .ok (.bipush 7, 2) := by decide +kernel
theorem dX7_drop_22 : decode cX7_drop 22 = .ok (.iload_n 2, 1) := by decide +kernel
theorem dX7_drop_23 : decode cX7_drop 23 = .ok (.iconst (-1), 1) := by decide +kernel
theorem dX7_drop_24 : decode cX7_drop 24 = .ok (.iconst (-1), 1) := by decide +kernel
theorem dX7_drop_25 : decode cX7_drop 25 = .ok (.invokespecial 79, 3) := by decide +kernel
theorem dX7_drop_28 : decode cX7_drop 28 = .ok (.invokevirtual 82, 3) := by decide +kernel
theorem dX7_drop_31 : decode cX7_drop 31 = .ok (.aload_n 0, 1) := by decide +kernel
theorem dX7_drop_32 : decode cX7_drop 32 = .ok (.getfield 28, 3) := by decide +kernel
theorem dX7_drop_35 : decode cX7_drop 35 = .ok (.getfield 99, 3) := by decide +kernel
theorem dX7_drop_38 : decode cX7_drop 38 = .ok (.invokestatic 103, 3) := by decide +kernel
theorem dX7_drop_41 : decode cX7_drop 41 = .ok (.ireturn, 1) := by decide +kernel
theorem dX7_undo_0 : decode cX7_undo 0 = .ok (.iload_n 1, 1) := by decide +kernel
theorem dX7_undo_1 : decode cX7_undo 1 = .ok (.invokestatic 45, 3) := by decide +kernel
theorem dX7_undo_4 : decode cX7_undo 4 = .ok (.aload_n 0, 1) := by decide +kernel
theorem dX7_undo_5 : decode cX7_undo 5 = .ok (.iload_n 1, 1) := by decide +kernel
theorem dX7_undo_6 : decode cX7_undo 6 = .ok (.invokevirtual 114, 3) := by decide +kernel
theorem dX7_undo_9 : decode cX7_undo 9 = .ok (.istore_n 2, 1) := by decide +kernel
theorem dX7_undo_10 : decode cX7_undo 10 = .ok (.iload_n 2, 1) := by decide +kernel
theorem dX7_undo_11 : decode cX7_undo 11 = .ok (.iconst (-1), 1) := by decide +kernel
theorem dX7_undo_12 : decode cX7_undo 12 = .ok (.if_icmp .eq 12, 3) := by decide +kernel
theorem dX7_undo_15 : decode cX7_undo 15 = .ok (.aload_n 0, 1) := by decide +kernel
theorem dX7_undo_16 : decode cX7_undo 16 = .ok (.iload_n 2, 1) := by decide +kernel
theorem dX7_undo_17 : decode cX7_undo 17 = .ok (.invokevirtual 117, 3) := by decide +kernel
theorem dX7_undo_20 : decode cX7_undo 20 = .ok (.iconst (-1), 1) := by decide +kernel
theorem dX7_undo_21 : decode cX7_undo 21 = .ok (.if_icmp .eq 13, 3) := by decide +kernel
theorem dX7_undo_24 : decode cX7_undo 24 = .ok (.new 61, 3) := by decide +kernel
theorem dX7_undo_27 : decode cX7_undo 27 = .ok (.dup, 1) := by decide +kernel
theorem dX7_undo_28 : decode cX7_undo 28 = .ok (.ldc 120, 2) := by decide +kernel
theorem dX7_undo_30 : decode cX7_undo 30 = .ok (.invokespecial 65, 3) := by decide +kernel
theorem dX7_undo_33 : decode cX7_undo 33 = .ok (.athrow, 1) := by decide +kernel
theorem dX7_undo_34 : decode cX7_undo 34 = .ok (.aload_n 0, 1) := by decide +kernel
theorem dX7_undo_35 : decode cX7_undo 35 = .ok (.iload_n 2, 1) := by decide +kernel
theorem dX7_undo_36 : decode cX7_undo 36 = .ok (.iconst 0, 1) := by decide +kernel
theorem dX7_undo_37 : decode cX7_undo 37 = .ok (.invokevirtual 122, 3) := by decide +kernel
theorem dX7_undo_40 : decode cX7_undo 40 = .ok (.aload_n 0, 1) := by decide +kernel
theorem dX7_undo_41 : decode cX7_undo 41 = .ok (.aload_n 0, 1) := by decide +kernel
theorem dX7_undo_42 : decode cX7_undo 42 = .ok (.getfield 28, 3) := by decide +kernel
theorem dX7_undo_45 : decode cX7_undo 45 = .ok (.invokevirtual 126, 3) := by decide +kernel
theorem dX7_undo_48 : decode cX7_undo 48 = .ok (.iload_n 2, 1) := by decide +kernel
theorem dX7_undo_49 : decode cX7_undo 49 = .ok (.ireturn, 1) := by decide +kernel
theorem dX7_redo_0 : decode cX7_redo 0 = .ok (.iload_n 1, 1) := by decide +kernel
theorem dX7_redo_1 : decode cX7_redo 1 = .ok (.invokestatic 45, 3) := by decide +kernel
theorem dX7_redo_4 : decode cX7_redo 4 = .ok (.aload_n 0, 1) := by decide +kernel
theorem dX7_redo_5 : decode cX7_redo 5 = .ok (.iload_n 1, 1) := by decide +kernel
theorem dX7_redo_6 : decode cX7_redo 6 = .ok (.invokevirtual 130, 3) := by decide +kernel
theorem dX7_redo_9 : decode cX7_redo 9 = .ok (.istore_n 2, 1) := by decide +kernel
theorem dX7_redo_10 : decode cX7_redo 10 = .ok (.iload_n 2, 1) := by decide +kernel
theorem dX7_redo_11 : decode cX7_redo 11 = .ok (.iconst (-1), 1) := by decide +kernel
theorem dX7_redo_12 : decode cX7_redo 12 = .ok (.if_icmp .ne 13, 3) := by decide +kernel
theorem dX7_redo_15 : decode cX7_redo 15 = .ok (.new 61, 3) := by decide +kernel
theorem dX7_redo_18 : decode cX7_redo 18 = .ok (.dup, 1) := by decide +kernel
theorem dX7_redo_19 : decode cX7_redo 19 = .ok (.ldc 133, 2) := by decide +kernel
theorem dX7_redo_21 : decode cX7_redo 21 = .ok (.invokespecial 65, 3) := by decide +kernel
theorem dX7_redo_24 : decode cX7_redo 24 = .ok (.athrow, 1) := by decide +kernel
theorem dX7_redo_25 : decode cX7_redo 25 = .ok (.aload_n 0, 1) := by decide +kernel
theorem dX7_redo_26 : decode cX7_redo 26 = .ok (.iload_n 2, 1) := by decide +kernel
theorem dX7_redo_27 : decode cX7_redo 27 = .ok (.iconst 1, 1) := by decide +kernel
theorem dX7_redo_28 : decode cX7_redo 28 = .ok (.invokevirtual 122, 3) := by decide +kernel
theorem dX7_redo_31 : decode cX7_redo 31 = .ok (.aload_n 0, 1) := by decide +kernel
theorem dX7_redo_32 : decode cX7_redo 32 = .ok (.aload_n 0, 1) := by decide +kernel
theorem dX7_redo_33 : decode cX7_redo 33 = .ok (.getfield 28, 3) := by decide +kernel
theorem dX7_redo_36 : decode cX7_redo 36 = .ok (.invokevirtual 126, 3) := by decide +kernel
theorem dX7_redo_39 : decode cX7_redo 39 = .ok (.iload_n 2, 1) := by decide +kernel
theorem dX7_redo_40 : decode cX7_redo 40 = .ok (.ireturn, 1) := by decide +kernel
theorem dX7_acts_0 : decode cX7_acts 0 = .ok (.aload_n 0, 1) := by decide +kernel
theorem dX7_acts_1 : decode cX7_acts 1 = .ok (.getfield 16, 3) := by decide +kernel
theorem dX7_acts_4 : decode cX7_acts 4 = .ok (.invokevirtual 57, 3) := by decide +kernel
theorem dX7_acts_7 : decode cX7_acts 7 = .ok (.ireturn, 1) := by decide +kernel
theorem dX7_isLive_0 : decode cX7_isLive 0 = .ok (.aload_n 0, 1) := by decide +kernel
theorem dX7_isLive_1 : decode cX7_isLive 1 = .ok (.iload_n 1, 1) := by decide +kernel
theorem dX7_isLive_2 : decode cX7_isLive 2 = .ok (.invokevirtual 135, 3) := by decide +kernel
theorem dX7_isLive_5 : decode cX7_isLive 5 = .ok (.getfield 139, 3) := by decide +kernel
theorem dX7_isLive_8 : decode cX7_isLive 8 = .ok (.ireturn, 1) := by decide +kernel
theorem dX7_holder_0 : decode cX7_holder 0 = .ok (.aload_n 0, 1) := by decide +kernel
theorem dX7_holder_1 : decode cX7_holder 1 = .ok (.iload_n 1, 1) := by decide +kernel
theorem dX7_holder_2 : decode cX7_holder 2 = .ok (.invokevirtual 135, 3) := by decide +kernel
theorem dX7_holder_5 : decode cX7_holder 5 = .ok (.pop, 1) := by decide +kernel
theorem dX7_holder_6 : decode cX7_holder 6 = .ok (.aload_n 0, 1) := by decide +kernel
theorem dX7_holder_7 : decode cX7_holder 7 = .ok (.iload_n 1, 1) := by decide +kernel
theorem dX7_holder_8 : decode cX7_holder 8 = .ok (.invokevirtual 117, 3) := by decide +kernel
theorem dX7_holder_11 : decode cX7_holder 11 = .ok (.ireturn, 1) := by decide +kernel
theorem dX7_shapes_0 : decode cX7_shapes 0 = .ok (.aload_n 0, 1) := by decide +kernel
theorem dX7_shapes_1 : decode cX7_shapes 1 = .ok (.getfield 10, 3) := by decide +kernel
theorem dX7_shapes_4 : decode cX7_shapes 4 = .ok (.invokevirtual 57, 3) := by decide +kernel
theorem dX7_shapes_7 : decode cX7_shapes 7 = .ok (.ireturn, 1) := by decide +kernel
theorem dX7_there_0 : decode cX7_there 0 = .ok (.aload_n 0, 1) := by decide +kernel
theorem dX7_there_1 : decode cX7_there 1 = .ok (.getfield 28, 3) := by decide +kernel
theorem dX7_there_4 : decode cX7_there 4 = .ok (.getfield 99, 3) := by decide +kernel
theorem dX7_there_7 : decode cX7_there 7 = .ok (.lreturn, 1) := by decide +kernel
theorem dX7_place_0 : decode cX7_place 0 = .ok (.aload_n 0, 1) := by decide +kernel
theorem dX7_place_1 : decode cX7_place 1 = .ok (.iload_n 1, 1) := by decide +kernel
theorem dX7_place_2 : decode cX7_place 2 = .ok (.invokevirtual 86, 3) := by decide +kernel
theorem dX7_place_5 : decode cX7_place 5 = .ok (.aload_n 0, 1) := by decide +kernel
theorem dX7_place_6 : decode cX7_place 6 = .ok (.getfield 28, 3) := by decide +kernel
theorem dX7_place_9 : decode cX7_place 9 = .ok (.iload_n 1, 1) := by decide +kernel
theorem dX7_place_10 : decode cX7_place 10 = .ok (.invokevirtual 143, 3) := by decide +kernel
theorem dX7_place_13 : decode cX7_place 13 = .ok (.ifCond .ne 13, 3) := by decide +kernel
theorem dX7_place_16 : decode cX7_place 16 = .ok (.new 61, 3) := by decide +kernel
theorem dX7_place_19 : decode cX7_place 19 = .ok (.dup, 1) := by decide +kernel
theorem dX7_place_20 : decode cX7_place 20 = .ok (.ldc 147, 2) := by decide +kernel
theorem dX7_place_22 : decode cX7_place 22 = .ok (.invokespecial 65, 3) := by decide +kernel
theorem dX7_place_25 : decode cX7_place 25 = .ok (.athrow, 1) := by decide +kernel
theorem dX7_place_26 : decode cX7_place 26 = .ok (.sipush 10000, 3) := by decide +kernel
theorem dX7_place_29 : decode cX7_place 29 = .ok (.aload_n 0, 1) := by decide +kernel
theorem dX7_place_30 : decode cX7_place 30 = .ok (.getfield 28, 3) := by decide +kernel
theorem dX7_place_33 : decode cX7_place 33 = .ok (.getfield 149, 3) := by decide +kernel
theorem dX7_place_36 : decode cX7_place 36 = .ok (.iload_n 1, 1) := by decide +kernel
theorem dX7_place_37 : decode cX7_place 37 = .ok (.iaload, 1) := by decide +kernel
theorem dX7_place_38 : decode cX7_place 38 = .ok (.imul, 1) := by decide +kernel
theorem dX7_place_39 : decode cX7_place 39 = .ok (.aload_n 0, 1) := by decide +kernel
theorem dX7_place_40 : decode cX7_place 40 = .ok (.getfield 28, 3) := by decide +kernel
theorem dX7_place_43 : decode cX7_place 43 = .ok (.getfield 152, 3) := by decide +kernel
theorem dX7_place_46 : decode cX7_place 46 = .ok (.iload_n 1, 1) := by decide +kernel
theorem dX7_place_47 : decode cX7_place 47 = .ok (.iaload, 1) := by decide +kernel
theorem dX7_place_48 : decode cX7_place 48 = .ok (.iadd, 1) := by decide +kernel
theorem dX7_place_49 : decode cX7_place 49 = .ok (.ireturn, 1) := by decide +kernel
theorem dX7_colour_0 : decode cX7_colour 0 = .ok (.aload_n 0, 1) := by decide +kernel
theorem dX7_colour_1 : decode cX7_colour 1 = .ok (.iload_n 1, 1) := by decide +kernel
theorem dX7_colour_2 : decode cX7_colour 2 = .ok (.invokevirtual 86, 3) := by decide +kernel
theorem dX7_colour_5 : decode cX7_colour 5 = .ok (.aload_n 0, 1) := by decide +kernel
theorem dX7_colour_6 : decode cX7_colour 6 = .ok (.getfield 28, 3) := by decide +kernel
theorem dX7_colour_9 : decode cX7_colour 9 = .ok (.iload_n 1, 1) := by decide +kernel
theorem dX7_colour_10 : decode cX7_colour 10 = .ok (.invokevirtual 143, 3) := by decide +kernel
theorem dX7_colour_13 : decode cX7_colour 13 = .ok (.ifCond .eq 15, 3) := by decide +kernel
theorem dX7_colour_16 : decode cX7_colour 16 = .ok (.aload_n 0, 1) := by decide +kernel
theorem dX7_colour_17 : decode cX7_colour 17 = .ok (.getfield 28, 3) := by decide +kernel
theorem dX7_colour_20 : decode cX7_colour 20 = .ok (.getfield 96, 3) := by decide +kernel
theorem dX7_colour_23 : decode cX7_colour 23 = .ok (.iload_n 1, 1) := by decide +kernel
theorem dX7_colour_24 : decode cX7_colour 24 = .ok (.iaload, 1) := by decide +kernel
theorem dX7_colour_25 : decode cX7_colour 25 = .ok (.goto 4, 3) := by decide +kernel
theorem dX7_colour_28 : decode cX7_colour 28 = .ok (.iconst 0, 1) := by decide +kernel
theorem dX7_colour_29 : decode cX7_colour 29 = .ok (.ireturn, 1) := by decide +kernel
theorem dX7_above_0 : decode cX7_above 0 = .ok (.aload_n 0, 1) := by decide +kernel
theorem dX7_above_1 : decode cX7_above 1 = .ok (.iload_n 1, 1) := by decide +kernel
theorem dX7_above_2 : decode cX7_above 2 = .ok (.invokevirtual 86, 3) := by decide +kernel
theorem dX7_above_5 : decode cX7_above 5 = .ok (.aload_n 0, 1) := by decide +kernel
theorem dX7_above_6 : decode cX7_above 6 = .ok (.getfield 28, 3) := by decide +kernel
theorem dX7_above_9 : decode cX7_above 9 = .ok (.iload_n 1, 1) := by decide +kernel
theorem dX7_above_10 : decode cX7_above 10 = .ok (.invokevirtual 143, 3) := by decide +kernel
theorem dX7_above_13 : decode cX7_above 13 = .ok (.ifCond .eq 14, 3) := by decide +kernel
theorem dX7_above_16 : decode cX7_above 16 = .ok (.aload_n 0, 1) := by decide +kernel
theorem dX7_above_17 : decode cX7_above 17 = .ok (.getfield 28, 3) := by decide +kernel
theorem dX7_above_20 : decode cX7_above 20 = .ok (.iload_n 1, 1) := by decide +kernel
theorem dX7_above_21 : decode cX7_above 21 = .ok (.invokevirtual 155, 3) := by decide +kernel
theorem dX7_above_24 : decode cX7_above 24 = .ok (.goto 4, 3) := by decide +kernel
theorem dX7_above_27 : decode cX7_above 27 = .ok (.iconst (-1), 1) := by decide +kernel
theorem dX7_above_28 : decode cX7_above 28 = .ok (.ireturn, 1) := by decide +kernel
theorem dX7_group_0 : decode cX7_group 0 = .ok (.aload_n 0, 1) := by decide +kernel
theorem dX7_group_1 : decode cX7_group 1 = .ok (.iload_n 1, 1) := by decide +kernel
theorem dX7_group_2 : decode cX7_group 2 = .ok (.invokevirtual 86, 3) := by decide +kernel
theorem dX7_group_5 : decode cX7_group 5 = .ok (.aload_n 0, 1) := by decide +kernel
theorem dX7_group_6 : decode cX7_group 6 = .ok (.getfield 28, 3) := by decide +kernel
theorem dX7_group_9 : decode cX7_group 9 = .ok (.iload_n 1, 1) := by decide +kernel
theorem dX7_group_10 : decode cX7_group 10 = .ok (.invokevirtual 143, 3) := by decide +kernel
theorem dX7_group_13 : decode cX7_group 13 = .ok (.ifCond .eq 15, 3) := by decide +kernel
theorem dX7_group_16 : decode cX7_group 16 = .ok (.aload_n 0, 1) := by decide +kernel
theorem dX7_group_17 : decode cX7_group 17 = .ok (.getfield 28, 3) := by decide +kernel
theorem dX7_group_20 : decode cX7_group 20 = .ok (.getfield 158, 3) := by decide +kernel
theorem dX7_group_23 : decode cX7_group 23 = .ok (.iload_n 1, 1) := by decide +kernel
theorem dX7_group_24 : decode cX7_group 24 = .ok (.laload, 1) := by decide +kernel
theorem dX7_group_25 : decode cX7_group 25 = .ok (.goto 4, 3) := by decide +kernel
theorem dX7_group_28 : decode cX7_group 28 = .ok (.lconst 0, 1) := by decide +kernel
theorem dX7_group_29 : decode cX7_group 29 = .ok (.lreturn, 1) := by decide +kernel
theorem dX7_seen_0 : decode cX7_seen 0 = .ok (.iload_n 1, 1) := by decide +kernel
theorem dX7_seen_1 : decode cX7_seen 1 = .ok (.iload_n 2, 1) := by decide +kernel
theorem dX7_seen_2 : decode cX7_seen 2 = .ok (.bipush 24, 2) := by decide +kernel
theorem dX7_seen_4 : decode cX7_seen 4 = .ok (.bipush 16, 2) := by decide +kernel
theorem dX7_seen_6 : decode cX7_seen 6 = .ok (.invokestatic 162, 3) := by decide +kernel
theorem dX7_seen_9 : decode cX7_seen 9 = .ok (.aload_n 0, 1) := by decide +kernel
theorem dX7_seen_10 : decode cX7_seen 10 = .ok (.getfield 28, 3) := by decide +kernel
theorem dX7_seen_13 : decode cX7_seen 13 = .ok (.iload_n 1, 1) := by decide +kernel
theorem dX7_seen_14 : decode cX7_seen 14 = .ok (.iload_n 2, 1) := by decide +kernel
theorem dX7_seen_15 : decode cX7_seen 15 = .ok (.aload_n 0, 1) := by decide +kernel
theorem dX7_seen_16 : decode cX7_seen 16 = .ok (.getfield 165, 3) := by decide +kernel
theorem dX7_seen_19 : decode cX7_seen 19 = .ok (.invokevirtual 168, 3) := by decide +kernel
theorem dX7_seen_22 : decode cX7_seen 22 = .ok (.ireturn, 1) := by decide +kernel
theorem dX7_seenAnew_0 : decode cX7_seenAnew 0 = .ok (.iload_n 1, 1) := by decide +kernel
theorem dX7_seenAnew_1 : decode cX7_seenAnew 1 = .ok (.iload_n 2, 1) := by decide +kernel
theorem dX7_seenAnew_2 : decode cX7_seenAnew 2 = .ok (.bipush 24, 2) := by decide +kernel
theorem dX7_seenAnew_4 : decode cX7_seenAnew 4 = .ok (.bipush 16, 2) := by decide +kernel
theorem dX7_seenAnew_6 : decode cX7_seenAnew 6 = .ok (.invokestatic 162, 3) := by decide +kernel
theorem dX7_seenAnew_9 : decode cX7_seenAnew 9 = .ok (.aload_n 0, 1) := by decide +kernel
theorem dX7_seenAnew_10 : decode cX7_seenAnew 10 = .ok (.aload_n 0, 1) := by decide +kernel
theorem dX7_seenAnew_11 : decode cX7_seenAnew 11 = .ok (.getfield 32, 3) := by decide +kernel
theorem dX7_seenAnew_14 : decode cX7_seenAnew 14 = .ok (.invokevirtual 126, 3) := by decide +kernel
theorem dX7_seenAnew_17 : decode cX7_seenAnew 17 = .ok (.aload_n 0, 1) := by decide +kernel
theorem dX7_seenAnew_18 : decode cX7_seenAnew 18 = .ok (.getfield 32, 3) := by decide +kernel
theorem dX7_seenAnew_21 : decode cX7_seenAnew 21 = .ok (.iload_n 1, 1) := by decide +kernel
theorem dX7_seenAnew_22 : decode cX7_seenAnew 22 = .ok (.iload_n 2, 1) := by decide +kernel
theorem dX7_seenAnew_23 : decode cX7_seenAnew 23 = .ok (.aload_n 0, 1) := by decide +kernel
theorem dX7_seenAnew_24 : decode cX7_seenAnew 24 = .ok (.getfield 165, 3) := by decide +kernel
theorem dX7_seenAnew_27 : decode cX7_seenAnew 27 = .ok (.invokevirtual 168, 3) := by decide +kernel
theorem dX7_seenAnew_30 : decode cX7_seenAnew 30 = .ok (.ireturn, 1) := by decide +kernel
theorem dX7_freeze_0 : decode cX7_freeze 0 = .ok (.iload_n 1, 1) := by decide +kernel
theorem dX7_freeze_1 : decode cX7_freeze 1 = .ok (.invokestatic 45, 3) := by decide +kernel
theorem dX7_freeze_4 : decode cX7_freeze 4 = .ok (.iload_n 2, 1) := by decide +kernel
theorem dX7_freeze_5 : decode cX7_freeze 5 = .ok (.iload_n 3, 1) := by decide +kernel
theorem dX7_freeze_6 : decode cX7_freeze 6 = .ok (.iload 4, 2) := by decide +kernel
theorem dX7_freeze_8 : decode cX7_freeze 8 = .ok (.iload 5, 2) := by decide +kernel
theorem dX7_freeze_10 : decode cX7_freeze 10 = .ok (.invokestatic 49, 3) := by decide +kernel
theorem dX7_freeze_13 : decode cX7_freeze 13 = .ok (.iload 6, 2) := by decide +kernel
theorem dX7_freeze_15 : decode cX7_freeze 15 = .ok (.iconst 1, 1) := by decide +kernel
theorem dX7_freeze_16 : decode cX7_freeze 16 = .ok (.bipush 20, 2) := by decide +kernel
theorem dX7_freeze_18 : decode cX7_freeze 18 = .ok (.invokestatic 53, 3) := by decide +kernel
theorem dX7_freeze_21 : decode cX7_freeze 21 = .ok (.iload 7, 2) := by decide +kernel
theorem dX7_freeze_23 : decode cX7_freeze 23 = .ok (.iconst 0, 1) := by decide +kernel
theorem dX7_freeze_24 : decode cX7_freeze 24 = .ok (.ldc 172, 2) := by decide +kernel
theorem dX7_freeze_26 : decode cX7_freeze 26 = .ok (.invokestatic 53, 3) := by decide +kernel
theorem dX7_freeze_29 : decode cX7_freeze 29 = .ok (.new 173, 3) := by decide +kernel
theorem dX7_freeze_32 : decode cX7_freeze 32 = .ok (.dup, 1) := by decide +kernel
theorem dX7_freeze_33 : decode cX7_freeze 33 = .ok (.iload_n 2, 1) := by decide +kernel
theorem dX7_freeze_34 : decode cX7_freeze 34 = .ok (.iload_n 3, 1) := by decide +kernel
theorem dX7_freeze_35 : decode cX7_freeze 35 = .ok (.iload 4, 2) := by decide +kernel
theorem dX7_freeze_37 : decode cX7_freeze 37 = .ok (.iload 5, 2) := by decide +kernel
theorem dX7_freeze_39 : decode cX7_freeze 39 = .ok (.invokespecial 175, 3) := by decide +kernel
theorem dX7_freeze_42 : decode cX7_freeze 42 = .ok (.astore 8, 2) := by decide +kernel
theorem dX7_freeze_44 : decode cX7_freeze 44 = .ok (.aload_n 0, 1) := by decide +kernel
theorem dX7_freeze_45 : decode cX7_freeze 45 = .ok (.getfield 19, 3) := by decide +kernel
theorem dX7_freeze_48 : decode cX7_freeze 48 = .ok (.invokevirtual 57, 3) := by decide +kernel
theorem dX7_freeze_51 : decode cX7_freeze 51 = .ok (.bipush 8, 2) := by decide +kernel
theorem dX7_freeze_53 : decode cX7_freeze 53 = .ok (.if_icmp .ge 19, 3) := by decide +kernel
theorem dX7_freeze_56 : decode cX7_freeze 56 = .ok (.aload 8, 2) := by decide +kernel
theorem dX7_freeze_58 : decode cX7_freeze 58 = .ok (.aload_n 0, 1) := by decide +kernel
theorem dX7_freeze_59 : decode cX7_freeze 59 = .ok (.getfield 28, 3) := by decide +kernel
theorem dX7_freeze_62 : decode cX7_freeze 62 = .ok (.aload_n 0, 1) := by decide +kernel
theorem dX7_freeze_63 : decode cX7_freeze 63 = .ok (.getfield 165, 3) := by decide +kernel
theorem dX7_freeze_66 : decode cX7_freeze 66 = .ok (.invokevirtual 177, 3) := by decide +kernel
theorem dX7_freeze_69 : decode cX7_freeze 69 = .ok (.ifCond .ne 13, 3) := by decide +kernel
theorem dX7_freeze_72 : decode cX7_freeze 72 = .ok (.new 61, 3) := by decide +kernel
theorem dX7_freeze_75 : decode cX7_freeze 75 = .ok (.dup, 1) := by decide +kernel
theorem dX7_freeze_76 : decode cX7_freeze 76 = .ok (.ldc 181, 2) := by decide +kernel
theorem dX7_freeze_78 : decode cX7_freeze 78 = .ok (.invokespecial 65, 3) := by decide +kernel
theorem dX7_freeze_81 : decode cX7_freeze 81 = .ok (.athrow, 1) := by decide +kernel
theorem dX7_freeze_82 : decode cX7_freeze 82 = .ok (.new 183, 3) := by decide +kernel
theorem dX7_freeze_85 : decode cX7_freeze 85 = .ok (.dup, 1) := by decide +kernel
theorem dX7_freeze_86 : decode cX7_freeze 86 = .ok (.iload_n 1, 1) := by decide +kernel
theorem dX7_freeze_87 : decode cX7_freeze 87 = .ok (.aload 8, 2) := by decide +kernel
theorem dX7_freeze_89 : decode cX7_freeze 89 = .ok (.iload 7, 2) := by decide +kernel
theorem dX7_freeze_91 : decode cX7_freeze 91 = .ok (.invokespecial 185, 3) := by decide +kernel
theorem dX7_freeze_94 : decode cX7_freeze 94 = .ok (.astore 9, 2) := by decide +kernel
theorem dX7_freeze_96 : decode cX7_freeze 96 = .ok (.aload 9, 2) := by decide +kernel
theorem dX7_freeze_98 : decode cX7_freeze 98 = .ok (.iload 6, 2) := by decide +kernel
theorem dX7_freeze_100 : decode cX7_freeze 100 = .ok (.invokevirtual 188, 3) := by decide +kernel
theorem dX7_freeze_103 : decode cX7_freeze 103 = .ok (.aload 9, 2) := by decide +kernel
theorem dX7_freeze_105 : decode cX7_freeze 105 = .ok (.getfield 191, 3) := by decide +kernel
theorem dX7_freeze_108 : decode cX7_freeze 108 = .ok (.aload_n 0, 1) := by decide +kernel
theorem dX7_freeze_109 : decode cX7_freeze 109 = .ok (.getfield 28, 3) := by decide +kernel
theorem dX7_freeze_112 : decode cX7_freeze 112 = .ok (.invokevirtual 194, 3) := by decide +kernel
theorem dX7_freeze_115 : decode cX7_freeze 115 = .ok (.aload_n 0, 1) := by decide +kernel
theorem dX7_freeze_116 : decode cX7_freeze 116 = .ok (.aload 9, 2) := by decide +kernel
theorem dX7_freeze_118 : decode cX7_freeze 118 = .ok (.invokevirtual 197, 3) := by decide +kernel
theorem dX7_freeze_121 : decode cX7_freeze 121 = .ok (.aload_n 0, 1) := by decide +kernel
theorem dX7_freeze_122 : decode cX7_freeze 122 = .ok (.getfield 19, 3) := by decide +kernel
theorem dX7_freeze_125 : decode cX7_freeze 125 = .ok (.aload 9, 2) := by decide +kernel
theorem dX7_freeze_127 : decode cX7_freeze 127 = .ok (.invokevirtual 73, 3) := by decide +kernel
theorem dX7_freeze_130 : decode cX7_freeze 130 = .ok (.pop, 1) := by decide +kernel
theorem dX7_freeze_131 : decode cX7_freeze 131 = .ok (.aload_n 0, 1) := by decide +kernel
theorem dX7_freeze_132 : decode cX7_freeze 132 = .ok (.getfield 19, 3) := by decide +kernel
theorem dX7_freeze_135 : decode cX7_freeze 135 = .ok (.invokevirtual 57, 3) := by decide +kernel
theorem dX7_freeze_138 : decode cX7_freeze 138 = .ok (.iconst 1, 1) := by decide +kernel
theorem dX7_freeze_139 : decode cX7_freeze 139 = .ok (.isub, 1) := by decide +kernel
theorem dX7_freeze_140 : decode cX7_freeze 140 = .ok (.ireturn, 1) := by decide +kernel
theorem dX7_withdraw_0 : decode cX7_withdraw 0 = .ok (.aload_n 0, 1) := by decide +kernel
theorem dX7_withdraw_1 : decode cX7_withdraw 1 = .ok (.iload_n 1, 1) := by decide +kernel
theorem dX7_withdraw_2 : decode cX7_withdraw 2 = .ok (.invokevirtual 201, 3) := by decide +kernel
theorem dX7_withdraw_5 : decode cX7_withdraw 5 = .ok (.astore_n 2, 1) := by decide +kernel
theorem dX7_withdraw_6 : decode cX7_withdraw 6 = .ok (.aload_n 2, 1) := by decide +kernel
theorem dX7_withdraw_7 : decode cX7_withdraw 7 = .ok (.getfield 205, 3) := by decide +kernel
theorem dX7_withdraw_10 : decode cX7_withdraw 10 = .ok (.ifCond .ne 10, 3) := by decide +kernel
theorem dX7_withdraw_13 : decode cX7_withdraw 13 = .ok (.aload_n 2, 1) := by decide +kernel
theorem dX7_withdraw_14 : decode cX7_withdraw 14 = .ok (.getfield 208, 3) := by decide +kernel
theorem dX7_withdraw_17 : decode cX7_withdraw 17 = .ok (.ifCond .le 13, 3) := by decide +kernel
theorem dX7_withdraw_20 : decode cX7_withdraw 20 = .ok (.new 61, 3) := by decide +kernel
theorem dX7_withdraw_23 : decode cX7_withdraw 23 = .ok (.dup, 1) := by decide +kernel
theorem dX7_withdraw_24 : decode cX7_withdraw 24 = .ok (.ldc 212, 2) := by decide +kernel
theorem dX7_withdraw_26 : decode cX7_withdraw 26 = .ok (.invokespecial 65, 3) := by decide +kernel
theorem dX7_withdraw_29 : decode cX7_withdraw 29 = .ok (.athrow, 1) := by decide +kernel
theorem dX7_withdraw_30 : decode cX7_withdraw 30 = .ok (.aload_n 2, 1) := by decide +kernel
theorem dX7_withdraw_31 : decode cX7_withdraw 31 = .ok (.invokevirtual 214, 3) := by decide +kernel
theorem dX7_withdraw_34 : decode cX7_withdraw 34 = .ok (.istore_n 3, 1) := by decide +kernel
theorem dX7_withdraw_35 : decode cX7_withdraw 35 = .ok (.aload_n 2, 1) := by decide +kernel
theorem dX7_withdraw_36 : decode cX7_withdraw 36 = .ok (.iconst 1, 1) := by decide +kernel
theorem dX7_withdraw_37 : decode cX7_withdraw 37 = .ok (.putfield 205, 3) := by decide +kernel
theorem dX7_withdraw_40 : decode cX7_withdraw 40 = .ok (.iload_n 3, 1) := by decide +kernel
theorem dX7_withdraw_41 : decode cX7_withdraw 41 = .ok (.ireturn, 1) := by decide +kernel
theorem dX7_viewed_0 : decode cX7_viewed 0 = .ok (.aload_n 0, 1) := by decide +kernel
theorem dX7_viewed_1 : decode cX7_viewed 1 = .ok (.iload_n 1, 1) := by decide +kernel
theorem dX7_viewed_2 : decode cX7_viewed 2 = .ok (.invokevirtual 201, 3) := by decide +kernel
theorem dX7_viewed_5 : decode cX7_viewed 5 = .ok (.astore 4, 2) := by decide +kernel
theorem dX7_viewed_7 : decode cX7_viewed 7 = .ok (.aload 4, 2) := by decide +kernel
theorem dX7_viewed_9 : decode cX7_viewed 9 = .ok (.getfield 217, 3) := by decide +kernel
theorem dX7_viewed_12 : decode cX7_viewed 12 = .ok (.astore 5, 2) := by decide +kernel
theorem dX7_viewed_14 : decode cX7_viewed 14 = .ok (.iload_n 2, 1) := by decide +kernel
theorem dX7_viewed_15 : decode cX7_viewed 15 = .ok (.iload_n 3, 1) := by decide +kernel
theorem dX7_viewed_16 : decode cX7_viewed 16 = .ok (.aload 5, 2) := by decide +kernel
theorem dX7_viewed_18 : decode cX7_viewed 18 = .ok (.getfield 221, 3) := by decide +kernel
theorem dX7_viewed_21 : decode cX7_viewed 21 = .ok (.aload 5, 2) := by decide +kernel
theorem dX7_viewed_23 : decode cX7_viewed 23 = .ok (.getfield 224, 3) := by decide +kernel
theorem dX7_viewed_26 : decode cX7_viewed 26 = .ok (.invokestatic 162, 3) := by decide +kernel
theorem dX7_viewed_29 : decode cX7_viewed 29 = .ok (.aload 4, 2) := by decide +kernel
theorem dX7_viewed_31 : decode cX7_viewed 31 = .ok (.getfield 191, 3) := by decide +kernel
theorem dX7_viewed_34 : decode cX7_viewed 34 = .ok (.aload 5, 2) := by decide +kernel
theorem dX7_viewed_36 : decode cX7_viewed 36 = .ok (.getfield 227, 3) := by decide +kernel
theorem dX7_viewed_39 : decode cX7_viewed 39 = .ok (.iload_n 2, 1) := by decide +kernel
theorem dX7_viewed_40 : decode cX7_viewed 40 = .ok (.iadd, 1) := by decide +kernel
theorem dX7_viewed_41 : decode cX7_viewed 41 = .ok (.aload 5, 2) := by decide +kernel
theorem dX7_viewed_43 : decode cX7_viewed 43 = .ok (.getfield 230, 3) := by decide +kernel
theorem dX7_viewed_46 : decode cX7_viewed 46 = .ok (.iload_n 3, 1) := by decide +kernel
theorem dX7_viewed_47 : decode cX7_viewed 47 = .ok (.iadd, 1) := by decide +kernel
theorem dX7_viewed_48 : decode cX7_viewed 48 = .ok (.aload_n 0, 1) := by decide +kernel
theorem dX7_viewed_49 : decode cX7_viewed 49 = .ok (.getfield 165, 3) := by decide +kernel
theorem dX7_viewed_52 : decode cX7_viewed 52 = .ok (.invokevirtual 168, 3) := by decide +kernel
theorem dX7_viewed_55 : decode cX7_viewed 55 = .ok (.istore 6, 2) := by decide +kernel
theorem dX7_viewed_57 : decode cX7_viewed 57 = .ok (.iload 6, 2) := by decide +kernel
theorem dX7_viewed_59 : decode cX7_viewed 59 = .ok (.iconst (-1), 1) := by decide +kernel
theorem dX7_viewed_60 : decode cX7_viewed 60 = .ok (.if_icmp .ne 7, 3) := by decide +kernel
theorem dX7_viewed_63 : decode cX7_viewed 63 = .ok (.iconst 0, 1) := by decide +kernel
theorem dX7_viewed_64 : decode cX7_viewed 64 = .ok (.goto 14, 3) := by decide +kernel
theorem dX7_viewed_67 : decode cX7_viewed 67 = .ok (.aload 4, 2) := by decide +kernel
theorem dX7_viewed_69 : decode cX7_viewed 69 = .ok (.getfield 191, 3) := by decide +kernel
theorem dX7_viewed_72 : decode cX7_viewed 72 = .ok (.getfield 96, 3) := by decide +kernel
theorem dX7_viewed_75 : decode cX7_viewed 75 = .ok (.iload 6, 2) := by decide +kernel
theorem dX7_viewed_77 : decode cX7_viewed 77 = .ok (.iaload, 1) := by decide +kernel
theorem dX7_viewed_78 : decode cX7_viewed 78 = .ok (.ireturn, 1) := by decide +kernel
theorem dX7_area_0 : decode cX7_area 0 = .ok (.aload_n 0, 1) := by decide +kernel
theorem dX7_area_1 : decode cX7_area 1 = .ok (.iload_n 1, 1) := by decide +kernel
theorem dX7_area_2 : decode cX7_area 2 = .ok (.invokevirtual 201, 3) := by decide +kernel
theorem dX7_area_5 : decode cX7_area 5 = .ok (.astore_n 3, 1) := by decide +kernel
theorem dX7_area_6 : decode cX7_area 6 = .ok (.iload_n 2, 1) := by decide +kernel
theorem dX7_area_7 : decode cX7_area 7 = .ok (.invokestatic 45, 3) := by decide +kernel
theorem dX7_area_10 : decode cX7_area 10 = .ok (.aload_n 3, 1) := by decide +kernel
theorem dX7_area_11 : decode cX7_area 11 = .ok (.getfield 233, 3) := by decide +kernel
theorem dX7_area_14 : decode cX7_area 14 = .ok (.iload_n 2, 1) := by decide +kernel
theorem dX7_area_15 : decode cX7_area 15 = .ok (.iaload, 1) := by decide +kernel
theorem dX7_area_16 : decode cX7_area 16 = .ok (.ireturn, 1) := by decide +kernel
theorem dX7_sell_0 : decode cX7_sell 0 = .ok (.aload_n 0, 1) := by decide +kernel
theorem dX7_sell_1 : decode cX7_sell 1 = .ok (.iload_n 1, 1) := by decide +kernel
theorem dX7_sell_2 : decode cX7_sell 2 = .ok (.invokevirtual 201, 3) := by decide +kernel
theorem dX7_sell_5 : decode cX7_sell 5 = .ok (.astore_n 3, 1) := by decide +kernel
theorem dX7_sell_6 : decode cX7_sell 6 = .ok (.iload_n 2, 1) := by decide +kernel
theorem dX7_sell_7 : decode cX7_sell 7 = .ok (.invokestatic 236, 3) := by decide +kernel
theorem dX7_sell_10 : decode cX7_sell 10 = .ok (.aload_n 3, 1) := by decide +kernel
theorem dX7_sell_11 : decode cX7_sell 11 = .ok (.getfield 208, 3) := by decide +kernel
theorem dX7_sell_14 : decode cX7_sell 14 = .ok (.istore 4, 2) := by decide +kernel
theorem dX7_sell_16 : decode cX7_sell 16 = .ok (.aload_n 3, 1) := by decide +kernel
theorem dX7_sell_17 : decode cX7_sell 17 = .ok (.getfield 205, 3) := by decide +kernel
theorem dX7_sell_20 : decode cX7_sell 20 = .ok (.ifCond .ne 15, 3) := by decide +kernel
theorem dX7_sell_23 : decode cX7_sell 23 = .ok (.iload 4, 2) := by decide +kernel
theorem dX7_sell_25 : decode cX7_sell 25 = .ok (.aload_n 3, 1) := by decide +kernel
theorem dX7_sell_26 : decode cX7_sell 26 = .ok (.getfield 239, 3) := by decide +kernel
theorem dX7_sell_29 : decode cX7_sell 29 = .ok (.invokevirtual 57, 3) := by decide +kernel
theorem dX7_sell_32 : decode cX7_sell 32 = .ok (.if_icmp .lt 13, 3) := by decide +kernel
theorem dX7_sell_35 : decode cX7_sell 35 = .ok (.new 61, 3) := by decide +kernel
theorem dX7_sell_38 : decode cX7_sell 38 = .ok (.dup, 1) := by decide +kernel
theorem dX7_sell_39 : decode cX7_sell 39 = .ok (.ldc 242, 2) := by decide +kernel
theorem dX7_sell_41 : decode cX7_sell 41 = .ok (.invokespecial 65, 3) := by decide +kernel
theorem dX7_sell_44 : decode cX7_sell 44 = .ok (.athrow, 1) := by decide +kernel
theorem dX7_sell_45 : decode cX7_sell 45 = .ok (.aload_n 3, 1) := by decide +kernel
theorem dX7_sell_46 : decode cX7_sell 46 = .ok (.getfield 244, 3) := by decide +kernel
theorem dX7_sell_49 : decode cX7_sell 49 = .ok (.bipush 10, 2) := by decide +kernel
theorem dX7_sell_51 : decode cX7_sell 51 = .ok (.idiv, 1) := by decide +kernel
theorem dX7_sell_52 : decode cX7_sell 52 = .ok (.istore 5, 2) := by decide +kernel
theorem dX7_sell_54 : decode cX7_sell 54 = .ok (.aload_n 3, 1) := by decide +kernel
theorem dX7_sell_55 : decode cX7_sell 55 = .ok (.getfield 239, 3) := by decide +kernel
theorem dX7_sell_58 : decode cX7_sell 58 = .ok (.iload 4, 2) := by decide +kernel
theorem dX7_sell_60 : decode cX7_sell 60 = .ok (.invokevirtual 247, 3) := by decide +kernel
theorem dX7_sell_63 : decode cX7_sell 63 = .ok (.checkcast 251, 3) := by decide +kernel
theorem dX7_sell_66 : decode cX7_sell 66 = .ok (.iload_n 2, 1) := by decide +kernel
theorem dX7_sell_67 : decode cX7_sell 67 = .ok (.aload_n 3, 1) := by decide +kernel
theorem dX7_sell_68 : decode cX7_sell 68 = .ok (.getfield 244, 3) := by decide +kernel
theorem dX7_sell_71 : decode cX7_sell 71 = .ok (.invokevirtual 253, 3) := by decide +kernel
theorem dX7_sell_74 : decode cX7_sell 74 = .ok (.aload_n 3, 1) := by decide +kernel
theorem dX7_sell_75 : decode cX7_sell 75 = .ok (.dup, 1) := by decide +kernel
theorem dX7_sell_76 : decode cX7_sell 76 = .ok (.getfield 208, 3) := by decide +kernel
theorem dX7_sell_79 : decode cX7_sell 79 = .ok (.iconst 1, 1) := by decide +kernel
theorem dX7_sell_80 : decode cX7_sell 80 = .ok (.iadd, 1) := by decide +kernel
theorem dX7_sell_81 : decode cX7_sell 81 = .ok (.putfield 208, 3) := by decide +kernel
theorem dX7_sell_84 : decode cX7_sell 84 = .ok (.aload_n 0, 1) := by decide +kernel
theorem dX7_sell_85 : decode cX7_sell 85 = .ok (.getfield 42, 3) := by decide +kernel
theorem dX7_sell_88 : decode cX7_sell 88 = .ok (.iload_n 2, 1) := by decide +kernel
theorem dX7_sell_89 : decode cX7_sell 89 = .ok (.dup2, 1) := by decide +kernel
theorem dX7_sell_90 : decode cX7_sell 90 = .ok (.iaload, 1) := by decide +kernel
theorem dX7_sell_91 : decode cX7_sell 91 = .ok (.aload_n 3, 1) := by decide +kernel
theorem dX7_sell_92 : decode cX7_sell 92 = .ok (.getfield 244, 3) := by decide +kernel
theorem dX7_sell_95 : decode cX7_sell 95 = .ok (.isub, 1) := by decide +kernel
theorem dX7_sell_96 : decode cX7_sell 96 = .ok (.iastore, 1) := by decide +kernel
theorem dX7_sell_97 : decode cX7_sell 97 = .ok (.aload_n 0, 1) := by decide +kernel
theorem dX7_sell_98 : decode cX7_sell 98 = .ok (.dup, 1) := by decide +kernel
theorem dX7_sell_99 : decode cX7_sell 99 = .ok (.getfield 257, 3) := by decide +kernel
theorem dX7_sell_102 : decode cX7_sell 102 = .ok (.iload 5, 2) := by decide +kernel
theorem dX7_sell_104 : decode cX7_sell 104 = .ok (.iadd, 1) := by decide +kernel
theorem dX7_sell_105 : decode cX7_sell 105 = .ok (.putfield 257, 3) := by decide +kernel
theorem dX7_sell_108 : decode cX7_sell 108 = .ok (.aload_n 0, 1) := by decide +kernel
theorem dX7_sell_109 : decode cX7_sell 109 = .ok (.new 260, 3) := by decide +kernel
theorem dX7_sell_112 : decode cX7_sell 112 = .ok (.dup, 1) := by decide +kernel
theorem dX7_sell_113 : decode cX7_sell 113 = .ok (.iload_n 1, 1) := by decide +kernel
theorem dX7_sell_114 : decode cX7_sell 114 = .ok (.iconst (-1), 1) := by decide +kernel
theorem dX7_sell_115 : decode cX7_sell 115 = .ok (.aload_n 3, 1) := by decide +kernel
theorem dX7_sell_116 : decode cX7_sell 116 = .ok (.getfield 244, 3) := by decide +kernel
theorem dX7_sell_119 : decode cX7_sell 119 = .ok (.iload 5, 2) := by decide +kernel
theorem dX7_sell_121 : decode cX7_sell 121 = .ok (.isub, 1) := by decide +kernel
theorem dX7_sell_122 : decode cX7_sell 122 = .ok (.invokespecial 262, 3) := by decide +kernel
theorem dX7_sell_125 : decode cX7_sell 125 = .ok (.invokevirtual 264, 3) := by decide +kernel
theorem dX7_sell_128 : decode cX7_sell 128 = .ok (.iload 4, 2) := by decide +kernel
theorem dX7_sell_130 : decode cX7_sell 130 = .ok (.ireturn, 1) := by decide +kernel
theorem dX7_resell_0 : decode cX7_resell 0 = .ok (.aload_n 0, 1) := by decide +kernel
theorem dX7_resell_1 : decode cX7_resell 1 = .ok (.iload_n 1, 1) := by decide +kernel
theorem dX7_resell_2 : decode cX7_resell 2 = .ok (.iload_n 2, 1) := by decide +kernel
theorem dX7_resell_3 : decode cX7_resell 3 = .ok (.invokevirtual 268, 3) := by decide +kernel
theorem dX7_resell_6 : decode cX7_resell 6 = .ok (.astore 5, 2) := by decide +kernel
theorem dX7_resell_8 : decode cX7_resell 8 = .ok (.iload_n 3, 1) := by decide +kernel
theorem dX7_resell_9 : decode cX7_resell 9 = .ok (.invokestatic 236, 3) := by decide +kernel
theorem dX7_resell_12 : decode cX7_resell 12 = .ok (.iload 4, 2) := by decide +kernel
theorem dX7_resell_14 : decode cX7_resell 14 = .ok (.iconst 0, 1) := by decide +kernel
theorem dX7_resell_15 : decode cX7_resell 15 = .ok (.ldc 172, 2) := by decide +kernel
theorem dX7_resell_17 : decode cX7_resell 17 = .ok (.invokestatic 53, 3) := by decide +kernel
theorem dX7_resell_20 : decode cX7_resell 20 = .ok (.aload 5, 2) := by decide +kernel
theorem dX7_resell_22 : decode cX7_resell 22 = .ok (.getfield 272, 3) := by decide +kernel
theorem dX7_resell_25 : decode cX7_resell 25 = .ok (.iconst 1, 1) := by decide +kernel
theorem dX7_resell_26 : decode cX7_resell 26 = .ok (.if_icmp .ne 12, 3) := by decide +kernel
theorem dX7_resell_29 : decode cX7_resell 29 = .ok (.aload 5, 2) := by decide +kernel
theorem dX7_resell_31 : decode cX7_resell 31 = .ok (.getfield 275, 3) := by decide +kernel
theorem dX7_resell_34 : decode cX7_resell 34 = .ok (.iload_n 3, 1) := by decide +kernel
theorem dX7_resell_35 : decode cX7_resell 35 = .ok (.if_icmp .ne 14, 3) := by decide +kernel
theorem dX7_resell_38 : decode cX7_resell 38 = .ok (.new 61, 3) := by decide +kernel
theorem dX7_resell_41 : decode cX7_resell 41 = .ok (.dup, 1) := by decide +kernel
theorem dX7_resell_42 : decode cX7_resell 42 = .ok (.ldc_w 278, 3) := by decide +kernel
theorem dX7_resell_45 : decode cX7_resell 45 = .ok (.invokespecial 65, 3) := by decide +kernel
theorem dX7_resell_48 : decode cX7_resell 48 = .ok (.athrow, 1) := by decide +kernel
theorem dX7_resell_49 : decode cX7_resell 49 = .ok (.iload 4, 2) := by decide +kernel
theorem dX7_resell_51 : decode cX7_resell 51 = .ok (.iconst 5, 1) := by decide +kernel
theorem dX7_resell_52 : decode cX7_resell 52 = .ok (.idiv, 1) := by decide +kernel
theorem dX7_resell_53 : decode cX7_resell 53 = .ok (.istore 6, 2) := by decide +kernel
theorem dX7_resell_55 : decode cX7_resell 55 = .ok (.aload_n 0, 1) := by decide +kernel
theorem dX7_resell_56 : decode cX7_resell 56 = .ok (.aload 5, 2) := by decide +kernel
theorem dX7_resell_58 : decode cX7_resell 58 = .ok (.getfield 275, 3) := by decide +kernel
theorem dX7_resell_61 : decode cX7_resell 61 = .ok (.iload 4, 2) := by decide +kernel
theorem dX7_resell_63 : decode cX7_resell 63 = .ok (.iload 6, 2) := by decide +kernel
theorem dX7_resell_65 : decode cX7_resell 65 = .ok (.isub, 1) := by decide +kernel
theorem dX7_resell_66 : decode cX7_resell 66 = .ok (.invokevirtual 280, 3) := by decide +kernel
theorem dX7_resell_69 : decode cX7_resell 69 = .ok (.aload_n 0, 1) := by decide +kernel
theorem dX7_resell_70 : decode cX7_resell 70 = .ok (.iload_n 3, 1) := by decide +kernel
theorem dX7_resell_71 : decode cX7_resell 71 = .ok (.iload 4, 2) := by decide +kernel
theorem dX7_resell_73 : decode cX7_resell 73 = .ok (.ineg, 1) := by decide +kernel
theorem dX7_resell_74 : decode cX7_resell 74 = .ok (.invokevirtual 280, 3) := by decide +kernel
theorem dX7_resell_77 : decode cX7_resell 77 = .ok (.aload 5, 2) := by decide +kernel
theorem dX7_resell_79 : decode cX7_resell 79 = .ok (.iload_n 3, 1) := by decide +kernel
theorem dX7_resell_80 : decode cX7_resell 80 = .ok (.iload 4, 2) := by decide +kernel
theorem dX7_resell_82 : decode cX7_resell 82 = .ok (.invokevirtual 253, 3) := by decide +kernel
theorem dX7_resell_85 : decode cX7_resell 85 = .ok (.aload_n 0, 1) := by decide +kernel
theorem dX7_resell_86 : decode cX7_resell 86 = .ok (.new 260, 3) := by decide +kernel
theorem dX7_resell_89 : decode cX7_resell 89 = .ok (.dup, 1) := by decide +kernel
theorem dX7_resell_90 : decode cX7_resell 90 = .ok (.iload_n 1, 1) := by decide +kernel
theorem dX7_resell_91 : decode cX7_resell 91 = .ok (.iconst (-1), 1) := by decide +kernel
theorem dX7_resell_92 : decode cX7_resell 92 = .ok (.iload 6, 2) := by decide +kernel
theorem dX7_resell_94 : decode cX7_resell 94 = .ok (.invokespecial 262, 3) := by decide +kernel
theorem dX7_resell_97 : decode cX7_resell 97 = .ok (.invokevirtual 264, 3) := by decide +kernel
theorem dX7_resell_100 : decode cX7_resell 100 = .ok (.iload 6, 2) := by decide +kernel
theorem dX7_resell_102 : decode cX7_resell 102 = .ok (.ireturn, 1) := by decide +kernel
theorem dX7_takeDown_0 : decode cX7_takeDown 0 = .ok (.aload_n 0, 1) := by decide +kernel
theorem dX7_takeDown_1 : decode cX7_takeDown 1 = .ok (.iload_n 1, 1) := by decide +kernel
theorem dX7_takeDown_2 : decode cX7_takeDown 2 = .ok (.invokevirtual 86, 3) := by decide +kernel
theorem dX7_takeDown_5 : decode cX7_takeDown 5 = .ok (.aload_n 0, 1) := by decide +kernel
theorem dX7_takeDown_6 : decode cX7_takeDown 6 = .ok (.iload_n 1, 1) := by decide +kernel
theorem dX7_takeDown_7 : decode cX7_takeDown 7 = .ok (.invokevirtual 283, 3) := by decide +kernel
theorem dX7_takeDown_10 : decode cX7_takeDown 10 = .ok (.ifCond .eq 14, 3) := by decide +kernel
theorem dX7_takeDown_13 : decode cX7_takeDown 13 = .ok (.new 61, 3) := by decide +kernel
theorem dX7_takeDown_16 : decode cX7_takeDown 16 = .ok (.dup, 1) := by decide +kernel
theorem dX7_takeDown_17 : decode cX7_takeDown 17 = .ok (.ldc_w 286, 3) := by decide +kernel
theorem dX7_takeDown_20 : decode cX7_takeDown 20 = .ok (.invokespecial 65, 3) := by decide +kernel
theorem dX7_takeDown_23 : decode cX7_takeDown 23 = .ok (.athrow, 1) := by decide +kernel
theorem dX7_takeDown_24 : decode cX7_takeDown 24 = .ok (.aload_n 0, 1) := by decide +kernel
theorem dX7_takeDown_25 : decode cX7_takeDown 25 = .ok (.getfield 10, 3) := by decide +kernel
theorem dX7_takeDown_28 : decode cX7_takeDown 28 = .ok (.iload_n 1, 1) := by decide +kernel
theorem dX7_takeDown_29 : decode cX7_takeDown 29 = .ok (.invokevirtual 247, 3) := by decide +kernel
theorem dX7_takeDown_32 : decode cX7_takeDown 32 = .ok (.checkcast 68, 3) := by decide +kernel
theorem dX7_takeDown_35 : decode cX7_takeDown 35 = .ok (.getfield 288, 3) := by decide +kernel
theorem dX7_takeDown_38 : decode cX7_takeDown 38 = .ok (.istore_n 2, 1) := by decide +kernel
theorem dX7_takeDown_39 : decode cX7_takeDown 39 = .ok (.iconst 0, 1) := by decide +kernel
theorem dX7_takeDown_40 : decode cX7_takeDown 40 = .ok (.istore_n 3, 1) := by decide +kernel
theorem dX7_takeDown_41 : decode cX7_takeDown 41 = .ok (.iconst 0, 1) := by decide +kernel
theorem dX7_takeDown_42 : decode cX7_takeDown 42 = .ok (.istore 4, 2) := by decide +kernel
theorem dX7_takeDown_44 : decode cX7_takeDown 44 = .ok (.iload 4, 2) := by decide +kernel
theorem dX7_takeDown_46 : decode cX7_takeDown 46 = .ok (.aload_n 0, 1) := by decide +kernel
theorem dX7_takeDown_47 : decode cX7_takeDown 47 = .ok (.getfield 19, 3) := by decide +kernel
theorem dX7_takeDown_50 : decode cX7_takeDown 50 = .ok (.invokevirtual 57, 3) := by decide +kernel
theorem dX7_takeDown_53 : decode cX7_takeDown 53 = .ok (.if_icmp .ge 53, 3) := by decide +kernel
theorem dX7_takeDown_56 : decode cX7_takeDown 56 = .ok (.aload_n 0, 1) := by decide +kernel
theorem dX7_takeDown_57 : decode cX7_takeDown 57 = .ok (.getfield 19, 3) := by decide +kernel
theorem dX7_takeDown_60 : decode cX7_takeDown 60 = .ok (.iload 4, 2) := by decide +kernel
theorem dX7_takeDown_62 : decode cX7_takeDown 62 = .ok (.invokevirtual 247, 3) := by decide +kernel
theorem dX7_takeDown_65 : decode cX7_takeDown 65 = .ok (.checkcast 183, 3) := by decide +kernel
theorem dX7_takeDown_68 : decode cX7_takeDown 68 = .ok (.astore 5, 2) := by decide +kernel
theorem dX7_takeDown_70 : decode cX7_takeDown 70 = .ok (.aload 5, 2) := by decide +kernel
theorem dX7_takeDown_72 : decode cX7_takeDown 72 = .ok (.getfield 217, 3) := by decide +kernel
theorem dX7_takeDown_75 : decode cX7_takeDown 75 = .ok (.aload 5, 2) := by decide +kernel
theorem dX7_takeDown_77 : decode cX7_takeDown 77 = .ok (.getfield 191, 3) := by decide +kernel
theorem dX7_takeDown_80 : decode cX7_takeDown 80 = .ok (.iload_n 1, 1) := by decide +kernel
theorem dX7_takeDown_81 : decode cX7_takeDown 81 = .ok (.aload_n 0, 1) := by decide +kernel
theorem dX7_takeDown_82 : decode cX7_takeDown 82 = .ok (.getfield 165, 3) := by decide +kernel
theorem dX7_takeDown_85 : decode cX7_takeDown 85 = .ok (.invokevirtual 291, 3) := by decide +kernel
theorem dX7_takeDown_88 : decode cX7_takeDown 88 = .ok (.ifCond .le 12, 3) := by decide +kernel
theorem dX7_takeDown_91 : decode cX7_takeDown 91 = .ok (.iload_n 3, 1) := by decide +kernel
theorem dX7_takeDown_92 : decode cX7_takeDown 92 = .ok (.aload 5, 2) := by decide +kernel
theorem dX7_takeDown_94 : decode cX7_takeDown 94 = .ok (.iload_n 2, 1) := by decide +kernel
theorem dX7_takeDown_95 : decode cX7_takeDown 95 = .ok (.invokevirtual 295, 3) := by decide +kernel
theorem dX7_takeDown_98 : decode cX7_takeDown 98 = .ok (.iadd, 1) := by decide +kernel
theorem dX7_takeDown_99 : decode cX7_takeDown 99 = .ok (.istore_n 3, 1) := by decide +kernel
theorem dX7_takeDown_100 : decode cX7_takeDown 100 = .ok (.iinc 4 1, 3) := by decide +kernel
theorem dX7_takeDown_103 : decode cX7_takeDown 103 = .ok (.goto (-59), 3) := by decide +kernel
theorem dX7_takeDown_106 : decode cX7_takeDown 106 = .ok (.aload_n 0, 1) := by decide +kernel
theorem dX7_takeDown_107 : decode cX7_takeDown 107 = .ok (.dup, 1) := by decide +kernel
theorem dX7_takeDown_108 : decode cX7_takeDown 108 = .ok (.getfield 165, 3) := by decide +kernel
theorem dX7_takeDown_111 : decode cX7_takeDown 111 = .ok (.iload_n 1, 1) := by decide +kernel
theorem dX7_takeDown_112 : decode cX7_takeDown 112 = .ok (.invokestatic 298, 3) := by decide +kernel
theorem dX7_takeDown_115 : decode cX7_takeDown 115 = .ok (.lor, 1) := by decide +kernel
theorem dX7_takeDown_116 : decode cX7_takeDown 116 = .ok (.putfield 165, 3) := by decide +kernel
theorem dX7_takeDown_119 : decode cX7_takeDown 119 = .ok (.iload_n 3, 1) := by decide +kernel
theorem dX7_takeDown_120 : decode cX7_takeDown 120 = .ok (.ireturn, 1) := by decide +kernel
theorem dX7_accept_0 : decode cX7_accept 0 = .ok (.aload_n 0, 1) := by decide +kernel
theorem dX7_accept_1 : decode cX7_accept 1 = .ok (.iload_n 1, 1) := by decide +kernel
theorem dX7_accept_2 : decode cX7_accept 2 = .ok (.iload_n 2, 1) := by decide +kernel
theorem dX7_accept_3 : decode cX7_accept 3 = .ok (.invokevirtual 302, 3) := by decide +kernel
theorem dX7_accept_6 : decode cX7_accept 6 = .ok (.astore_n 3, 1) := by decide +kernel
theorem dX7_accept_7 : decode cX7_accept 7 = .ok (.aload_n 3, 1) := by decide +kernel
theorem dX7_accept_8 : decode cX7_accept 8 = .ok (.iconst 1, 1) := by decide +kernel
theorem dX7_accept_9 : decode cX7_accept 9 = .ok (.putfield 272, 3) := by decide +kernel
theorem dX7_accept_12 : decode cX7_accept 12 = .ok (.aload_n 3, 1) := by decide +kernel
theorem dX7_accept_13 : decode cX7_accept 13 = .ok (.getfield 275, 3) := by decide +kernel
theorem dX7_accept_16 : decode cX7_accept 16 = .ok (.ireturn, 1) := by decide +kernel
theorem dX7_giveBack_0 : decode cX7_giveBack 0 = .ok (.aload_n 0, 1) := by decide +kernel
theorem dX7_giveBack_1 : decode cX7_giveBack 1 = .ok (.iload_n 1, 1) := by decide +kernel
theorem dX7_giveBack_2 : decode cX7_giveBack 2 = .ok (.iload_n 2, 1) := by decide +kernel
theorem dX7_giveBack_3 : decode cX7_giveBack 3 = .ok (.invokevirtual 302, 3) := by decide +kernel
theorem dX7_giveBack_6 : decode cX7_giveBack 6 = .ok (.astore_n 3, 1) := by decide +kernel
theorem dX7_giveBack_7 : decode cX7_giveBack 7 = .ok (.aload_n 3, 1) := by decide +kernel
theorem dX7_giveBack_8 : decode cX7_giveBack 8 = .ok (.getfield 305, 3) := by decide +kernel
theorem dX7_giveBack_11 : decode cX7_giveBack 11 = .ok (.istore 4, 2) := by decide +kernel
theorem dX7_giveBack_13 : decode cX7_giveBack 13 = .ok (.aload_n 0, 1) := by decide +kernel
theorem dX7_giveBack_14 : decode cX7_giveBack 14 = .ok (.aload_n 3, 1) := by decide +kernel
theorem dX7_giveBack_15 : decode cX7_giveBack 15 = .ok (.getfield 275, 3) := by decide +kernel
theorem dX7_giveBack_18 : decode cX7_giveBack 18 = .ok (.iload 4, 2) := by decide +kernel
theorem dX7_giveBack_20 : decode cX7_giveBack 20 = .ok (.invokevirtual 280, 3) := by decide +kernel
theorem dX7_giveBack_23 : decode cX7_giveBack 23 = .ok (.aload_n 0, 1) := by decide +kernel
theorem dX7_giveBack_24 : decode cX7_giveBack 24 = .ok (.new 260, 3) := by decide +kernel
theorem dX7_giveBack_27 : decode cX7_giveBack 27 = .ok (.dup, 1) := by decide +kernel
theorem dX7_giveBack_28 : decode cX7_giveBack 28 = .ok (.iconst (-1), 1) := by decide +kernel
theorem dX7_giveBack_29 : decode cX7_giveBack 29 = .ok (.aload_n 3, 1) := by decide +kernel
theorem dX7_giveBack_30 : decode cX7_giveBack 30 = .ok (.getfield 308, 3) := by decide +kernel
theorem dX7_giveBack_33 : decode cX7_giveBack 33 = .ok (.iload 4, 2) := by decide +kernel
theorem dX7_giveBack_35 : decode cX7_giveBack 35 = .ok (.ineg, 1) := by decide +kernel
theorem dX7_giveBack_36 : decode cX7_giveBack 36 = .ok (.invokespecial 262, 3) := by decide +kernel
theorem dX7_giveBack_39 : decode cX7_giveBack 39 = .ok (.invokevirtual 264, 3) := by decide +kernel
theorem dX7_giveBack_42 : decode cX7_giveBack 42 = .ok (.aload_n 3, 1) := by decide +kernel
theorem dX7_giveBack_43 : decode cX7_giveBack 43 = .ok (.iconst 3, 1) := by decide +kernel
theorem dX7_giveBack_44 : decode cX7_giveBack 44 = .ok (.putfield 272, 3) := by decide +kernel
theorem dX7_giveBack_47 : decode cX7_giveBack 47 = .ok (.aload_n 3, 1) := by decide +kernel
theorem dX7_giveBack_48 : decode cX7_giveBack 48 = .ok (.iconst (-1), 1) := by decide +kernel
theorem dX7_giveBack_49 : decode cX7_giveBack 49 = .ok (.putfield 275, 3) := by decide +kernel
theorem dX7_giveBack_52 : decode cX7_giveBack 52 = .ok (.iload 4, 2) := by decide +kernel
theorem dX7_giveBack_54 : decode cX7_giveBack 54 = .ok (.ireturn, 1) := by decide +kernel
theorem dX7_copyState_0 : decode cX7_copyState 0 = .ok (.aload_n 0, 1) := by decide +kernel
theorem dX7_copyState_1 : decode cX7_copyState 1 = .ok (.iload_n 1, 1) := by decide +kernel
theorem dX7_copyState_2 : decode cX7_copyState 2 = .ok (.iload_n 2, 1) := by decide +kernel
theorem dX7_copyState_3 : decode cX7_copyState 3 = .ok (.invokevirtual 268, 3) := by decide +kernel
theorem dX7_copyState_6 : decode cX7_copyState 6 = .ok (.getfield 272, 3) := by decide +kernel
theorem dX7_copyState_9 : decode cX7_copyState 9 = .ok (.ireturn, 1) := by decide +kernel
theorem dX7_owner_0 : decode cX7_owner 0 = .ok (.aload_n 0, 1) := by decide +kernel
theorem dX7_owner_1 : decode cX7_owner 1 = .ok (.iload_n 1, 1) := by decide +kernel
theorem dX7_owner_2 : decode cX7_owner 2 = .ok (.iload_n 2, 1) := by decide +kernel
theorem dX7_owner_3 : decode cX7_owner 3 = .ok (.invokevirtual 268, 3) := by decide +kernel
theorem dX7_owner_6 : decode cX7_owner 6 = .ok (.getfield 275, 3) := by decide +kernel
theorem dX7_owner_9 : decode cX7_owner 9 = .ok (.ireturn, 1) := by decide +kernel
theorem dX7_money_0 : decode cX7_money 0 = .ok (.iload_n 1, 1) := by decide +kernel
theorem dX7_money_1 : decode cX7_money 1 = .ok (.invokestatic 45, 3) := by decide +kernel
theorem dX7_money_4 : decode cX7_money 4 = .ok (.aload_n 0, 1) := by decide +kernel
theorem dX7_money_5 : decode cX7_money 5 = .ok (.getfield 35, 3) := by decide +kernel
theorem dX7_money_8 : decode cX7_money 8 = .ok (.iload_n 1, 1) := by decide +kernel
theorem dX7_money_9 : decode cX7_money 9 = .ok (.iaload, 1) := by decide +kernel
theorem dX7_money_10 : decode cX7_money 10 = .ok (.ireturn, 1) := by decide +kernel
theorem dX7_moneyAnew_0 : decode cX7_moneyAnew 0 = .ok (.iload_n 1, 1) := by decide +kernel
theorem dX7_moneyAnew_1 : decode cX7_moneyAnew 1 = .ok (.invokestatic 45, 3) := by decide +kernel
theorem dX7_moneyAnew_4 : decode cX7_moneyAnew 4 = .ok (.aload_n 0, 1) := by decide +kernel
theorem dX7_moneyAnew_5 : decode cX7_moneyAnew 5 = .ok (.getfield 39, 3) := by decide +kernel
theorem dX7_moneyAnew_8 : decode cX7_moneyAnew 8 = .ok (.iconst 0, 1) := by decide +kernel
theorem dX7_moneyAnew_9 : decode cX7_moneyAnew 9 = .ok (.invokestatic 311, 3) := by decide +kernel
theorem dX7_moneyAnew_12 : decode cX7_moneyAnew 12 = .ok (.iconst 0, 1) := by decide +kernel
theorem dX7_moneyAnew_13 : decode cX7_moneyAnew 13 = .ok (.istore_n 2, 1) := by decide +kernel
theorem dX7_moneyAnew_14 : decode cX7_moneyAnew 14 = .ok (.iload_n 2, 1) := by decide +kernel
theorem dX7_moneyAnew_15 : decode cX7_moneyAnew 15 = .ok (.aload_n 0, 1) := by decide +kernel
theorem dX7_moneyAnew_16 : decode cX7_moneyAnew 16 = .ok (.getfield 22, 3) := by decide +kernel
theorem dX7_moneyAnew_19 : decode cX7_moneyAnew 19 = .ok (.invokevirtual 57, 3) := by decide +kernel
theorem dX7_moneyAnew_22 : decode cX7_moneyAnew 22 = .ok (.if_icmp .ge 28, 3) := by decide +kernel
theorem dX7_moneyAnew_25 : decode cX7_moneyAnew 25 = .ok (.aload_n 0, 1) := by decide +kernel
theorem dX7_moneyAnew_26 : decode cX7_moneyAnew 26 = .ok (.aload_n 0, 1) := by decide +kernel
theorem dX7_moneyAnew_27 : decode cX7_moneyAnew 27 = .ok (.getfield 22, 3) := by decide +kernel
theorem dX7_moneyAnew_30 : decode cX7_moneyAnew 30 = .ok (.iload_n 2, 1) := by decide +kernel
theorem dX7_moneyAnew_31 : decode cX7_moneyAnew 31 = .ok (.invokevirtual 247, 3) := by decide +kernel
theorem dX7_moneyAnew_34 : decode cX7_moneyAnew 34 = .ok (.checkcast 260, 3) := by decide +kernel
theorem dX7_moneyAnew_37 : decode cX7_moneyAnew 37 = .ok (.aload_n 0, 1) := by decide +kernel
theorem dX7_moneyAnew_38 : decode cX7_moneyAnew 38 = .ok (.getfield 39, 3) := by decide +kernel
theorem dX7_moneyAnew_41 : decode cX7_moneyAnew 41 = .ok (.invokevirtual 317, 3) := by decide +kernel
theorem dX7_moneyAnew_44 : decode cX7_moneyAnew 44 = .ok (.iinc 2 1, 3) := by decide +kernel
theorem dX7_moneyAnew_47 : decode cX7_moneyAnew 47 = .ok (.goto (-33), 3) := by decide +kernel
theorem dX7_moneyAnew_50 : decode cX7_moneyAnew 50 = .ok (.aload_n 0, 1) := by decide +kernel
theorem dX7_moneyAnew_51 : decode cX7_moneyAnew 51 = .ok (.getfield 39, 3) := by decide +kernel
theorem dX7_moneyAnew_54 : decode cX7_moneyAnew 54 = .ok (.iload_n 1, 1) := by decide +kernel
theorem dX7_moneyAnew_55 : decode cX7_moneyAnew 55 = .ok (.iaload, 1) := by decide +kernel
theorem dX7_moneyAnew_56 : decode cX7_moneyAnew 56 = .ok (.ireturn, 1) := by decide +kernel
theorem dX7_purse_0 : decode cX7_purse 0 = .ok (.iload_n 1, 1) := by decide +kernel
theorem dX7_purse_1 : decode cX7_purse 1 = .ok (.invokestatic 236, 3) := by decide +kernel
theorem dX7_purse_4 : decode cX7_purse 4 = .ok (.aload_n 0, 1) := by decide +kernel
theorem dX7_purse_5 : decode cX7_purse 5 = .ok (.getfield 42, 3) := by decide +kernel
theorem dX7_purse_8 : decode cX7_purse 8 = .ok (.iload_n 1, 1) := by decide +kernel
theorem dX7_purse_9 : decode cX7_purse 9 = .ok (.iaload, 1) := by decide +kernel
theorem dX7_purse_10 : decode cX7_purse 10 = .ok (.ireturn, 1) := by decide +kernel
theorem dX7_house_0 : decode cX7_house 0 = .ok (.aload_n 0, 1) := by decide +kernel
theorem dX7_house_1 : decode cX7_house 1 = .ok (.getfield 257, 3) := by decide +kernel
theorem dX7_house_4 : decode cX7_house 4 = .ok (.ireturn, 1) := by decide +kernel
theorem dX7_checkHand_0 : decode cX7_checkHand 0 = .ok (.iload_n 0, 1) := by decide +kernel
theorem dX7_checkHand_1 : decode cX7_checkHand 1 = .ok (.ifCond .lt 9, 3) := by decide +kernel
theorem dX7_checkHand_4 : decode cX7_checkHand 4 = .ok (.iload_n 0, 1) := by decide +kernel
theorem dX7_checkHand_5 : decode cX7_checkHand 5 = .ok (.bipush 6, 2) := by decide +kernel
theorem dX7_checkHand_7 : decode cX7_checkHand 7 = .ok (.if_icmp .lt 14, 3) := by decide +kernel
theorem dX7_checkHand_10 : decode cX7_checkHand 10 = .ok (.new 321, 3) := by decide +kernel
theorem dX7_checkHand_13 : decode cX7_checkHand 13 = .ok (.dup, 1) := by decide +kernel
theorem dX7_checkHand_14 : decode cX7_checkHand 14 = .ok (.ldc_w 323, 3) := by decide +kernel
theorem dX7_checkHand_17 : decode cX7_checkHand 17 = .ok (.invokespecial 325, 3) := by decide +kernel
theorem dX7_checkHand_20 : decode cX7_checkHand 20 = .ok (.athrow, 1) := by decide +kernel
theorem dX7_checkHand_21 : decode cX7_checkHand 21 = .ok (.return_, 1) := by decide +kernel
theorem dX7_checkBuyer_0 : decode cX7_checkBuyer 0 = .ok (.iload_n 0, 1) := by decide +kernel
theorem dX7_checkBuyer_1 : decode cX7_checkBuyer 1 = .ok (.ifCond .lt 9, 3) := by decide +kernel
theorem dX7_checkBuyer_4 : decode cX7_checkBuyer 4 = .ok (.iload_n 0, 1) := by decide +kernel
theorem dX7_checkBuyer_5 : decode cX7_checkBuyer 5 = .ok (.bipush 8, 2) := by decide +kernel
theorem dX7_checkBuyer_7 : decode cX7_checkBuyer 7 = .ok (.if_icmp .lt 14, 3) := by decide +kernel
theorem dX7_checkBuyer_10 : decode cX7_checkBuyer 10 = .ok (.new 321, 3) := by decide +kernel
theorem dX7_checkBuyer_13 : decode cX7_checkBuyer 13 = .ok (.dup, 1) := by decide +kernel
theorem dX7_checkBuyer_14 : decode cX7_checkBuyer 14 = .ok (.ldc_w 326, 3) := by decide +kernel
theorem dX7_checkBuyer_17 : decode cX7_checkBuyer 17 = .ok (.invokespecial 325, 3) := by decide +kernel
theorem dX7_checkBuyer_20 : decode cX7_checkBuyer 20 = .ok (.athrow, 1) := by decide +kernel
theorem dX7_checkBuyer_21 : decode cX7_checkBuyer 21 = .ok (.return_, 1) := by decide +kernel
theorem dX7_checkCell_0 : decode cX7_checkCell 0 = .ok (.iload_n 0, 1) := by decide +kernel
theorem dX7_checkCell_1 : decode cX7_checkCell 1 = .ok (.ifCond .lt 17, 3) := by decide +kernel
theorem dX7_checkCell_4 : decode cX7_checkCell 4 = .ok (.iload_n 0, 1) := by decide +kernel
theorem dX7_checkCell_5 : decode cX7_checkCell 5 = .ok (.iload_n 2, 1) := by decide +kernel
theorem dX7_checkCell_6 : decode cX7_checkCell 6 = .ok (.if_icmp .ge 12, 3) := by decide +kernel
theorem dX7_checkCell_9 : decode cX7_checkCell 9 = .ok (.iload_n 1, 1) := by decide +kernel
theorem dX7_checkCell_10 : decode cX7_checkCell 10 = .ok (.ifCond .lt 8, 3) := by decide +kernel
theorem dX7_checkCell_13 : decode cX7_checkCell 13 = .ok (.iload_n 1, 1) := by decide +kernel
theorem dX7_checkCell_14 : decode cX7_checkCell 14 = .ok (.iload_n 3, 1) := by decide +kernel
theorem dX7_checkCell_15 : decode cX7_checkCell 15 = .ok (.if_icmp .lt 14, 3) := by decide +kernel
theorem dX7_checkCell_18 : decode cX7_checkCell 18 = .ok (.new 321, 3) := by decide +kernel
theorem dX7_checkCell_21 : decode cX7_checkCell 21 = .ok (.dup, 1) := by decide +kernel
theorem dX7_checkCell_22 : decode cX7_checkCell 22 = .ok (.ldc_w 328, 3) := by decide +kernel
theorem dX7_checkCell_25 : decode cX7_checkCell 25 = .ok (.invokespecial 325, 3) := by decide +kernel
theorem dX7_checkCell_28 : decode cX7_checkCell 28 = .ok (.athrow, 1) := by decide +kernel
theorem dX7_checkCell_29 : decode cX7_checkCell 29 = .ok (.return_, 1) := by decide +kernel
theorem dX7_checkRange_0 : decode cX7_checkRange 0 = .ok (.iload_n 0, 1) := by decide +kernel
theorem dX7_checkRange_1 : decode cX7_checkRange 1 = .ok (.iload_n 1, 1) := by decide +kernel
theorem dX7_checkRange_2 : decode cX7_checkRange 2 = .ok (.if_icmp .lt 8, 3) := by decide +kernel
theorem dX7_checkRange_5 : decode cX7_checkRange 5 = .ok (.iload_n 0, 1) := by decide +kernel
theorem dX7_checkRange_6 : decode cX7_checkRange 6 = .ok (.iload_n 2, 1) := by decide +kernel
theorem dX7_checkRange_7 : decode cX7_checkRange 7 = .ok (.if_icmp .le 14, 3) := by decide +kernel
theorem dX7_checkRange_10 : decode cX7_checkRange 10 = .ok (.new 109, 3) := by decide +kernel
theorem dX7_checkRange_13 : decode cX7_checkRange 13 = .ok (.dup, 1) := by decide +kernel
theorem dX7_checkRange_14 : decode cX7_checkRange 14 = .ok (.ldc_w 330, 3) := by decide +kernel
theorem dX7_checkRange_17 : decode cX7_checkRange 17 = .ok (.invokespecial 113, 3) := by decide +kernel
theorem dX7_checkRange_20 : decode cX7_checkRange 20 = .ok (.athrow, 1) := by decide +kernel
theorem dX7_checkRange_21 : decode cX7_checkRange 21 = .ok (.return_, 1) := by decide +kernel
theorem dX7_checkRectangle_0 : decode cX7_checkRectangle 0 = .ok (.iload_n 0, 1) := by decide +kernel
theorem dX7_checkRectangle_1 : decode cX7_checkRectangle 1 = .ok (.iconst 0, 1) := by decide +kernel
theorem dX7_checkRectangle_2 : decode cX7_checkRectangle 2 = .ok (.bipush 23, 2) := by decide +kernel
theorem dX7_checkRectangle_4 : decode cX7_checkRectangle 4 = .ok (.invokestatic 53, 3) := by decide +kernel
theorem dX7_checkRectangle_7 : decode cX7_checkRectangle 7 = .ok (.iload_n 1, 1) := by decide +kernel
theorem dX7_checkRectangle_8 : decode cX7_checkRectangle 8 = .ok (.iconst 0, 1) := by decide +kernel
theorem dX7_checkRectangle_9 : decode cX7_checkRectangle 9 = .ok (.bipush 15, 2) := by decide +kernel
theorem dX7_checkRectangle_11 : decode cX7_checkRectangle 11 = .ok (.invokestatic 53, 3) := by decide +kernel
theorem dX7_checkRectangle_14 : decode cX7_checkRectangle 14 = .ok (.iload_n 2, 1) := by decide +kernel
theorem dX7_checkRectangle_15 : decode cX7_checkRectangle 15 = .ok (.iconst 1, 1) := by decide +kernel
theorem dX7_checkRectangle_16 : decode cX7_checkRectangle 16 = .ok (.bipush 24, 2) := by decide +kernel
theorem dX7_checkRectangle_18 : decode cX7_checkRectangle 18 = .ok (.iload_n 0, 1) := by decide +kernel
theorem dX7_checkRectangle_19 : decode cX7_checkRectangle 19 = .ok (.isub, 1) := by decide +kernel
theorem dX7_checkRectangle_20 : decode cX7_checkRectangle 20 = .ok (.invokestatic 53, 3) := by decide +kernel
theorem dX7_checkRectangle_23 : decode cX7_checkRectangle 23 = .ok (.iload_n 3, 1) := by decide +kernel
theorem dX7_checkRectangle_24 : decode cX7_checkRectangle 24 = .ok (.iconst 1, 1) := by decide +kernel
theorem dX7_checkRectangle_25 : decode cX7_checkRectangle 25 = .ok (.bipush 16, 2) := by decide +kernel
theorem dX7_checkRectangle_27 : decode cX7_checkRectangle 27 = .ok (.iload_n 1, 1) := by decide +kernel
theorem dX7_checkRectangle_28 : decode cX7_checkRectangle 28 = .ok (.isub, 1) := by decide +kernel
theorem dX7_checkRectangle_29 : decode cX7_checkRectangle 29 = .ok (.invokestatic 53, 3) := by decide +kernel
theorem dX7_checkRectangle_32 : decode cX7_checkRectangle 32 = .ok (.return_, 1) := by decide +kernel
theorem dX7_checkShape_0 : decode cX7_checkShape 0 = .ok (.aload_n 0, 1) := by decide +kernel
theorem dX7_checkShape_1 : decode cX7_checkShape 1 = .ok (.iload_n 1, 1) := by decide +kernel
theorem dX7_checkShape_2 : decode cX7_checkShape 2 = .ok (.invokevirtual 332, 3) := by decide +kernel
theorem dX7_checkShape_5 : decode cX7_checkShape 5 = .ok (.ifCond .ne 14, 3) := by decide +kernel
theorem dX7_checkShape_8 : decode cX7_checkShape 8 = .ok (.new 321, 3) := by decide +kernel
theorem dX7_checkShape_11 : decode cX7_checkShape 11 = .ok (.dup, 1) := by decide +kernel
theorem dX7_checkShape_12 : decode cX7_checkShape 12 = .ok (.ldc_w 335, 3) := by decide +kernel
theorem dX7_checkShape_15 : decode cX7_checkShape 15 = .ok (.invokespecial 325, 3) := by decide +kernel
theorem dX7_checkShape_18 : decode cX7_checkShape 18 = .ok (.athrow, 1) := by decide +kernel
theorem dX7_checkShape_19 : decode cX7_checkShape 19 = .ok (.return_, 1) := by decide +kernel
theorem dX7_checkCanAct_0 : decode cX7_checkCanAct 0 = .ok (.aload_n 0, 1) := by decide +kernel
theorem dX7_checkCanAct_1 : decode cX7_checkCanAct 1 = .ok (.getfield 28, 3) := by decide +kernel
theorem dX7_checkCanAct_4 : decode cX7_checkCanAct 4 = .ok (.iload_n 1, 1) := by decide +kernel
theorem dX7_checkCanAct_5 : decode cX7_checkCanAct 5 = .ok (.invokevirtual 143, 3) := by decide +kernel
theorem dX7_checkCanAct_8 : decode cX7_checkCanAct 8 = .ok (.ifCond .eq 24, 3) := by decide +kernel
theorem dX7_checkCanAct_11 : decode cX7_checkCanAct 11 = .ok (.aload_n 0, 1) := by decide +kernel
theorem dX7_checkCanAct_12 : decode cX7_checkCanAct 12 = .ok (.iload_n 1, 1) := by decide +kernel
theorem dX7_checkCanAct_13 : decode cX7_checkCanAct 13 = .ok (.invokevirtual 283, 3) := by decide +kernel
theorem dX7_checkCanAct_16 : decode cX7_checkCanAct 16 = .ok (.ifCond .ne 16, 3) := by decide +kernel
theorem dX7_checkCanAct_19 : decode cX7_checkCanAct 19 = .ok (.aload_n 0, 1) := by decide +kernel
theorem dX7_checkCanAct_20 : decode cX7_checkCanAct 20 = .ok (.getfield 16, 3) := by decide +kernel
theorem dX7_checkCanAct_23 : decode cX7_checkCanAct 23 = .ok (.invokevirtual 57, 3) := by decide +kernel
theorem dX7_checkCanAct_26 : decode cX7_checkCanAct 26 = .ok (.sipush 200, 3) := by decide +kernel
theorem dX7_checkCanAct_29 : decode cX7_checkCanAct 29 = .ok (.if_icmp .lt 14, 3) := by decide +kernel
theorem dX7_checkCanAct_32 : decode cX7_checkCanAct 32 = .ok (.new 61, 3) := by decide +kernel
theorem dX7_checkCanAct_35 : decode cX7_checkCanAct 35 = .ok (.dup, 1) := by decide +kernel
theorem dX7_checkCanAct_36 : decode cX7_checkCanAct 36 = .ok (.ldc_w 337, 3) := by decide +kernel
theorem dX7_checkCanAct_39 : decode cX7_checkCanAct 39 = .ok (.invokespecial 65, 3) := by decide +kernel
theorem dX7_checkCanAct_42 : decode cX7_checkCanAct 42 = .ok (.athrow, 1) := by decide +kernel
theorem dX7_checkCanAct_43 : decode cX7_checkCanAct 43 = .ok (.return_, 1) := by decide +kernel
theorem dX7_checkedAct_0 : decode cX7_checkedAct 0 = .ok (.iload_n 1, 1) := by decide +kernel
theorem dX7_checkedAct_1 : decode cX7_checkedAct 1 = .ok (.ifCond .lt 14, 3) := by decide +kernel
theorem dX7_checkedAct_4 : decode cX7_checkedAct 4 = .ok (.iload_n 1, 1) := by decide +kernel
theorem dX7_checkedAct_5 : decode cX7_checkedAct 5 = .ok (.aload_n 0, 1) := by decide +kernel
theorem dX7_checkedAct_6 : decode cX7_checkedAct 6 = .ok (.getfield 16, 3) := by decide +kernel
theorem dX7_checkedAct_9 : decode cX7_checkedAct 9 = .ok (.invokevirtual 57, 3) := by decide +kernel
theorem dX7_checkedAct_12 : decode cX7_checkedAct 12 = .ok (.if_icmp .lt 14, 3) := by decide +kernel
theorem dX7_checkedAct_15 : decode cX7_checkedAct 15 = .ok (.new 321, 3) := by decide +kernel
theorem dX7_checkedAct_18 : decode cX7_checkedAct 18 = .ok (.dup, 1) := by decide +kernel
theorem dX7_checkedAct_19 : decode cX7_checkedAct 19 = .ok (.ldc_w 339, 3) := by decide +kernel
theorem dX7_checkedAct_22 : decode cX7_checkedAct 22 = .ok (.invokespecial 325, 3) := by decide +kernel
theorem dX7_checkedAct_25 : decode cX7_checkedAct 25 = .ok (.athrow, 1) := by decide +kernel
theorem dX7_checkedAct_26 : decode cX7_checkedAct 26 = .ok (.aload_n 0, 1) := by decide +kernel
theorem dX7_checkedAct_27 : decode cX7_checkedAct 27 = .ok (.getfield 16, 3) := by decide +kernel
theorem dX7_checkedAct_30 : decode cX7_checkedAct 30 = .ok (.iload_n 1, 1) := by decide +kernel
theorem dX7_checkedAct_31 : decode cX7_checkedAct 31 = .ok (.invokevirtual 247, 3) := by decide +kernel
theorem dX7_checkedAct_34 : decode cX7_checkedAct 34 = .ok (.checkcast 77, 3) := by decide +kernel
theorem dX7_checkedAct_37 : decode cX7_checkedAct 37 = .ok (.areturn, 1) := by decide +kernel
theorem dX7_checkedEdition_0 : decode cX7_checkedEdition 0 = .ok (.aload_n 0, 1) := by decide +kernel
theorem dX7_checkedEdition_1 : decode cX7_checkedEdition 1 = .ok (.iload_n 1, 1) := by decide +kernel
theorem dX7_checkedEdition_2 : decode cX7_checkedEdition 2 = .ok (.invokevirtual 341, 3) := by decide +kernel
theorem dX7_checkedEdition_5 : decode cX7_checkedEdition 5 = .ok (.ifCond .ne 14, 3) := by decide +kernel
theorem dX7_checkedEdition_8 : decode cX7_checkedEdition 8 = .ok (.new 321, 3) := by decide +kernel
theorem dX7_checkedEdition_11 : decode cX7_checkedEdition 11 = .ok (.dup, 1) := by decide +kernel
theorem dX7_checkedEdition_12 : decode cX7_checkedEdition 12 = .ok (.ldc_w 344, 3) := by decide +kernel
theorem dX7_checkedEdition_15 : decode cX7_checkedEdition 15 = .ok (.invokespecial 325, 3) := by decide +kernel
theorem dX7_checkedEdition_18 : decode cX7_checkedEdition 18 = .ok (.athrow, 1) := by decide +kernel
theorem dX7_checkedEdition_19 : decode cX7_checkedEdition 19 = .ok (.aload_n 0, 1) := by decide +kernel
theorem dX7_checkedEdition_20 : decode cX7_checkedEdition 20 = .ok (.getfield 19, 3) := by decide +kernel
theorem dX7_checkedEdition_23 : decode cX7_checkedEdition 23 = .ok (.iload_n 1, 1) := by decide +kernel
theorem dX7_checkedEdition_24 : decode cX7_checkedEdition 24 = .ok (.invokevirtual 247, 3) := by decide +kernel
theorem dX7_checkedEdition_27 : decode cX7_checkedEdition 27 = .ok (.checkcast 183, 3) := by decide +kernel
theorem dX7_checkedEdition_30 : decode cX7_checkedEdition 30 = .ok (.areturn, 1) := by decide +kernel
theorem dX7_checkedCopy_0 : decode cX7_checkedCopy 0 = .ok (.aload_n 0, 1) := by decide +kernel
theorem dX7_checkedCopy_1 : decode cX7_checkedCopy 1 = .ok (.iload_n 1, 1) := by decide +kernel
theorem dX7_checkedCopy_2 : decode cX7_checkedCopy 2 = .ok (.invokevirtual 201, 3) := by decide +kernel
theorem dX7_checkedCopy_5 : decode cX7_checkedCopy 5 = .ok (.getfield 239, 3) := by decide +kernel
theorem dX7_checkedCopy_8 : decode cX7_checkedCopy 8 = .ok (.astore_n 3, 1) := by decide +kernel
theorem dX7_checkedCopy_9 : decode cX7_checkedCopy 9 = .ok (.iload_n 2, 1) := by decide +kernel
theorem dX7_checkedCopy_10 : decode cX7_checkedCopy 10 = .ok (.ifCond .lt 11, 3) := by decide +kernel
theorem dX7_checkedCopy_13 : decode cX7_checkedCopy 13 = .ok (.iload_n 2, 1) := by decide +kernel
theorem dX7_checkedCopy_14 : decode cX7_checkedCopy 14 = .ok (.aload_n 3, 1) := by decide +kernel
theorem dX7_checkedCopy_15 : decode cX7_checkedCopy 15 = .ok (.invokevirtual 57, 3) := by decide +kernel
theorem dX7_checkedCopy_18 : decode cX7_checkedCopy 18 = .ok (.if_icmp .lt 14, 3) := by decide +kernel
theorem dX7_checkedCopy_21 : decode cX7_checkedCopy 21 = .ok (.new 321, 3) := by decide +kernel
theorem dX7_checkedCopy_24 : decode cX7_checkedCopy 24 = .ok (.dup, 1) := by decide +kernel
theorem dX7_checkedCopy_25 : decode cX7_checkedCopy 25 = .ok (.ldc_w 346, 3) := by decide +kernel
theorem dX7_checkedCopy_28 : decode cX7_checkedCopy 28 = .ok (.invokespecial 325, 3) := by decide +kernel
theorem dX7_checkedCopy_31 : decode cX7_checkedCopy 31 = .ok (.athrow, 1) := by decide +kernel
theorem dX7_checkedCopy_32 : decode cX7_checkedCopy 32 = .ok (.aload_n 3, 1) := by decide +kernel
theorem dX7_checkedCopy_33 : decode cX7_checkedCopy 33 = .ok (.iload_n 2, 1) := by decide +kernel
theorem dX7_checkedCopy_34 : decode cX7_checkedCopy 34 = .ok (.invokevirtual 247, 3) := by decide +kernel
theorem dX7_checkedCopy_37 : decode cX7_checkedCopy 37 = .ok (.checkcast 251, 3) := by decide +kernel
theorem dX7_checkedCopy_40 : decode cX7_checkedCopy 40 = .ok (.areturn, 1) := by decide +kernel
theorem dX7_checkedChangedCopy_0 : decode cX7_checkedChangedCopy 0 = .ok (.aload_n 0, 1) := by decide +kernel
theorem dX7_checkedChangedCopy_1 : decode cX7_checkedChangedCopy 1 = .ok (.iload_n 1, 1) := by decide +kernel
theorem dX7_checkedChangedCopy_2 : decode cX7_checkedChangedCopy 2 = .ok (.iload_n 2, 1) := by decide +kernel
theorem dX7_checkedChangedCopy_3 : decode cX7_checkedChangedCopy 3 = .ok (.invokevirtual 268, 3) := by decide +kernel
theorem dX7_checkedChangedCopy_6 : decode cX7_checkedChangedCopy 6 = .ok (.astore_n 3, 1) := by decide +kernel
theorem dX7_checkedChangedCopy_7 : decode cX7_checkedChangedCopy 7 = .ok (.aload_n 3, 1) := by decide +kernel
theorem dX7_checkedChangedCopy_8 : decode cX7_checkedChangedCopy 8 = .ok (.getfield 272, 3) := by decide +kernel
theorem dX7_checkedChangedCopy_11 : decode cX7_checkedChangedCopy 11 = .ok (.iconst 2, 1) := by decide +kernel
theorem dX7_checkedChangedCopy_12 : decode cX7_checkedChangedCopy 12 = .ok (.if_icmp .eq 14, 3) := by decide +kernel
theorem dX7_checkedChangedCopy_15 : decode cX7_checkedChangedCopy 15 = .ok (.new 61, 3) := by decide +kernel
theorem dX7_checkedChangedCopy_18 : decode cX7_checkedChangedCopy 18 = .ok (.dup, 1) := by decide +kernel
theorem dX7_checkedChangedCopy_19 : decode cX7_checkedChangedCopy 19 = .ok (.ldc_w 348, 3) := by decide +kernel
theorem dX7_checkedChangedCopy_22 : decode cX7_checkedChangedCopy 22 = .ok (.invokespecial 65, 3) := by decide +kernel
theorem dX7_checkedChangedCopy_25 : decode cX7_checkedChangedCopy 25 = .ok (.athrow, 1) := by decide +kernel
theorem dX7_checkedChangedCopy_26 : decode cX7_checkedChangedCopy 26 = .ok (.aload_n 3, 1) := by decide +kernel
theorem dX7_checkedChangedCopy_27 : decode cX7_checkedChangedCopy 27 = .ok (.areturn, 1) := by decide +kernel
theorem dX7_isShape_0 : decode cX7_isShape 0 = .ok (.iload_n 1, 1) := by decide +kernel
theorem dX7_isShape_1 : decode cX7_isShape 1 = .ok (.ifCond .lt 18, 3) := by decide +kernel
theorem dX7_isShape_4 : decode cX7_isShape 4 = .ok (.iload_n 1, 1) := by decide +kernel
theorem dX7_isShape_5 : decode cX7_isShape 5 = .ok (.aload_n 0, 1) := by decide +kernel
theorem dX7_isShape_6 : decode cX7_isShape 6 = .ok (.getfield 10, 3) := by decide +kernel
theorem dX7_isShape_9 : decode cX7_isShape 9 = .ok (.invokevirtual 57, 3) := by decide +kernel
theorem dX7_isShape_12 : decode cX7_isShape 12 = .ok (.if_icmp .ge 7, 3) := by decide +kernel
theorem dX7_isShape_15 : decode cX7_isShape 15 = .ok (.iconst 1, 1) := by decide +kernel
theorem dX7_isShape_16 : decode cX7_isShape 16 = .ok (.goto 4, 3) := by decide +kernel
theorem dX7_isShape_19 : decode cX7_isShape 19 = .ok (.iconst 0, 1) := by decide +kernel
theorem dX7_isShape_20 : decode cX7_isShape 20 = .ok (.ireturn, 1) := by decide +kernel
theorem dX7_isEdition_0 : decode cX7_isEdition 0 = .ok (.iload_n 1, 1) := by decide +kernel
theorem dX7_isEdition_1 : decode cX7_isEdition 1 = .ok (.ifCond .lt 18, 3) := by decide +kernel
theorem dX7_isEdition_4 : decode cX7_isEdition 4 = .ok (.iload_n 1, 1) := by decide +kernel
theorem dX7_isEdition_5 : decode cX7_isEdition 5 = .ok (.aload_n 0, 1) := by decide +kernel
theorem dX7_isEdition_6 : decode cX7_isEdition 6 = .ok (.getfield 19, 3) := by decide +kernel
theorem dX7_isEdition_9 : decode cX7_isEdition 9 = .ok (.invokevirtual 57, 3) := by decide +kernel
theorem dX7_isEdition_12 : decode cX7_isEdition 12 = .ok (.if_icmp .ge 7, 3) := by decide +kernel
theorem dX7_isEdition_15 : decode cX7_isEdition 15 = .ok (.iconst 1, 1) := by decide +kernel
theorem dX7_isEdition_16 : decode cX7_isEdition 16 = .ok (.goto 4, 3) := by decide +kernel
theorem dX7_isEdition_19 : decode cX7_isEdition 19 = .ok (.iconst 0, 1) := by decide +kernel
theorem dX7_isEdition_20 : decode cX7_isEdition 20 = .ok (.ireturn, 1) := by decide +kernel
theorem dX7_isTakenDown_0 : decode cX7_isTakenDown 0 = .ok (.aload_n 0, 1) := by decide +kernel
theorem dX7_isTakenDown_1 : decode cX7_isTakenDown 1 = .ok (.getfield 165, 3) := by decide +kernel
theorem dX7_isTakenDown_4 : decode cX7_isTakenDown 4 = .ok (.iload_n 1, 1) := by decide +kernel
theorem dX7_isTakenDown_5 : decode cX7_isTakenDown 5 = .ok (.invokestatic 298, 3) := by decide +kernel
theorem dX7_isTakenDown_8 : decode cX7_isTakenDown 8 = .ok (.land, 1) := by decide +kernel
theorem dX7_isTakenDown_9 : decode cX7_isTakenDown 9 = .ok (.lconst 0, 1) := by decide +kernel
theorem dX7_isTakenDown_10 : decode cX7_isTakenDown 10 = .ok (.lcmp, 1) := by decide +kernel
theorem dX7_isTakenDown_11 : decode cX7_isTakenDown 11 = .ok (.ifCond .eq 7, 3) := by decide +kernel
theorem dX7_isTakenDown_14 : decode cX7_isTakenDown 14 = .ok (.iconst 1, 1) := by decide +kernel
theorem dX7_isTakenDown_15 : decode cX7_isTakenDown 15 = .ok (.goto 4, 3) := by decide +kernel
theorem dX7_isTakenDown_18 : decode cX7_isTakenDown 18 = .ok (.iconst 0, 1) := by decide +kernel
theorem dX7_isTakenDown_19 : decode cX7_isTakenDown 19 = .ok (.ireturn, 1) := by decide +kernel
theorem dX7_bit_0 : decode cX7_bit 0 = .ok (.lconst 1, 1) := by decide +kernel
theorem dX7_bit_1 : decode cX7_bit 1 = .ok (.iload_n 0, 1) := by decide +kernel
theorem dX7_bit_2 : decode cX7_bit 2 = .ok (.lshl, 1) := by decide +kernel
theorem dX7_bit_3 : decode cX7_bit 3 = .ok (.lreturn, 1) := by decide +kernel
theorem dX7_columnSet_0 : decode cX7_columnSet 0 = .ok (.iconst 1, 1) := by decide +kernel
theorem dX7_columnSet_1 : decode cX7_columnSet 1 = .ok (.iload_n 1, 1) := by decide +kernel
theorem dX7_columnSet_2 : decode cX7_columnSet 2 = .ok (.ishl, 1) := by decide +kernel
theorem dX7_columnSet_3 : decode cX7_columnSet 3 = .ok (.iconst 1, 1) := by decide +kernel
theorem dX7_columnSet_4 : decode cX7_columnSet 4 = .ok (.isub, 1) := by decide +kernel
theorem dX7_columnSet_5 : decode cX7_columnSet 5 = .ok (.iload_n 0, 1) := by decide +kernel
theorem dX7_columnSet_6 : decode cX7_columnSet 6 = .ok (.ishl, 1) := by decide +kernel
theorem dX7_columnSet_7 : decode cX7_columnSet 7 = .ok (.ireturn, 1) := by decide +kernel
theorem dX7_tell_0 : decode cX7_tell 0 = .ok (.iconst 0, 1) := by decide +kernel
theorem dX7_tell_1 : decode cX7_tell 1 = .ok (.istore_n 2, 1) := by decide +kernel
theorem dX7_tell_2 : decode cX7_tell 2 = .ok (.iload_n 2, 1) := by decide +kernel
theorem dX7_tell_3 : decode cX7_tell 3 = .ok (.aload_n 0, 1) := by decide +kernel
theorem dX7_tell_4 : decode cX7_tell 4 = .ok (.getfield 16, 3) := by decide +kernel
theorem dX7_tell_7 : decode cX7_tell 7 = .ok (.invokevirtual 57, 3) := by decide +kernel
theorem dX7_tell_10 : decode cX7_tell 10 = .ok (.if_icmp .ge 37, 3) := by decide +kernel
theorem dX7_tell_13 : decode cX7_tell 13 = .ok (.aload_n 0, 1) := by decide +kernel
theorem dX7_tell_14 : decode cX7_tell 14 = .ok (.getfield 16, 3) := by decide +kernel
theorem dX7_tell_17 : decode cX7_tell 17 = .ok (.iload_n 2, 1) := by decide +kernel
theorem dX7_tell_18 : decode cX7_tell 18 = .ok (.invokevirtual 247, 3) := by decide +kernel
theorem dX7_tell_21 : decode cX7_tell 21 = .ok (.checkcast 77, 3) := by decide +kernel
theorem dX7_tell_24 : decode cX7_tell 24 = .ok (.astore_n 3, 1) := by decide +kernel
theorem dX7_tell_25 : decode cX7_tell 25 = .ok (.aload_n 3, 1) := by decide +kernel
theorem dX7_tell_26 : decode cX7_tell 26 = .ok (.getfield 350, 3) := by decide +kernel
theorem dX7_tell_29 : decode cX7_tell 29 = .ok (.aload_n 1, 1) := by decide +kernel
theorem dX7_tell_30 : decode cX7_tell 30 = .ok (.getfield 350, 3) := by decide +kernel
theorem dX7_tell_33 : decode cX7_tell 33 = .ok (.if_icmp .ne 8, 3) := by decide +kernel
theorem dX7_tell_36 : decode cX7_tell 36 = .ok (.aload_n 3, 1) := by decide +kernel
theorem dX7_tell_37 : decode cX7_tell 37 = .ok (.iconst 0, 1) := by decide +kernel
theorem dX7_tell_38 : decode cX7_tell 38 = .ok (.putfield 353, 3) := by decide +kernel
theorem dX7_tell_41 : decode cX7_tell 41 = .ok (.iinc 2 1, 3) := by decide +kernel
theorem dX7_tell_44 : decode cX7_tell 44 = .ok (.goto (-42), 3) := by decide +kernel
theorem dX7_tell_47 : decode cX7_tell 47 = .ok (.aload_n 0, 1) := by decide +kernel
theorem dX7_tell_48 : decode cX7_tell 48 = .ok (.getfield 16, 3) := by decide +kernel
theorem dX7_tell_51 : decode cX7_tell 51 = .ok (.aload_n 1, 1) := by decide +kernel
theorem dX7_tell_52 : decode cX7_tell 52 = .ok (.invokevirtual 73, 3) := by decide +kernel
theorem dX7_tell_55 : decode cX7_tell 55 = .ok (.pop, 1) := by decide +kernel
theorem dX7_tell_56 : decode cX7_tell 56 = .ok (.aload_n 0, 1) := by decide +kernel
theorem dX7_tell_57 : decode cX7_tell 57 = .ok (.aload_n 1, 1) := by decide +kernel
theorem dX7_tell_58 : decode cX7_tell 58 = .ok (.aload_n 0, 1) := by decide +kernel
theorem dX7_tell_59 : decode cX7_tell 59 = .ok (.getfield 28, 3) := by decide +kernel
theorem dX7_tell_62 : decode cX7_tell 62 = .ok (.invokevirtual 356, 3) := by decide +kernel
theorem dX7_tell_65 : decode cX7_tell 65 = .ok (.return_, 1) := by decide +kernel
theorem dX7_doAllActs_0 : decode cX7_doAllActs 0 = .ok (.aload_n 1, 1) := by decide +kernel
theorem dX7_doAllActs_1 : decode cX7_doAllActs 1 = .ok (.invokevirtual 360, 3) := by decide +kernel
theorem dX7_doAllActs_4 : decode cX7_doAllActs 4 = .ok (.iconst 0, 1) := by decide +kernel
theorem dX7_doAllActs_5 : decode cX7_doAllActs 5 = .ok (.istore_n 2, 1) := by decide +kernel
theorem dX7_doAllActs_6 : decode cX7_doAllActs 6 = .ok (.iload_n 2, 1) := by decide +kernel
theorem dX7_doAllActs_7 : decode cX7_doAllActs 7 = .ok (.aload_n 0, 1) := by decide +kernel
theorem dX7_doAllActs_8 : decode cX7_doAllActs 8 = .ok (.getfield 16, 3) := by decide +kernel
theorem dX7_doAllActs_11 : decode cX7_doAllActs 11 = .ok (.invokevirtual 57, 3) := by decide +kernel
theorem dX7_doAllActs_14 : decode cX7_doAllActs 14 = .ok (.if_icmp .ge 34, 3) := by decide +kernel
theorem dX7_doAllActs_17 : decode cX7_doAllActs 17 = .ok (.aload_n 0, 1) := by decide +kernel
theorem dX7_doAllActs_18 : decode cX7_doAllActs 18 = .ok (.getfield 16, 3) := by decide +kernel
theorem dX7_doAllActs_21 : decode cX7_doAllActs 21 = .ok (.iload_n 2, 1) := by decide +kernel
theorem dX7_doAllActs_22 : decode cX7_doAllActs 22 = .ok (.invokevirtual 247, 3) := by decide +kernel
theorem dX7_doAllActs_25 : decode cX7_doAllActs 25 = .ok (.checkcast 77, 3) := by decide +kernel
theorem dX7_doAllActs_28 : decode cX7_doAllActs 28 = .ok (.astore_n 3, 1) := by decide +kernel
theorem dX7_doAllActs_29 : decode cX7_doAllActs 29 = .ok (.aload_n 3, 1) := by decide +kernel
theorem dX7_doAllActs_30 : decode cX7_doAllActs 30 = .ok (.getfield 139, 3) := by decide +kernel
theorem dX7_doAllActs_33 : decode cX7_doAllActs 33 = .ok (.ifCond .eq 9, 3) := by decide +kernel
theorem dX7_doAllActs_36 : decode cX7_doAllActs 36 = .ok (.aload_n 0, 1) := by decide +kernel
theorem dX7_doAllActs_37 : decode cX7_doAllActs 37 = .ok (.aload_n 3, 1) := by decide +kernel
theorem dX7_doAllActs_38 : decode cX7_doAllActs 38 = .ok (.aload_n 1, 1) := by decide +kernel
theorem dX7_doAllActs_39 : decode cX7_doAllActs 39 = .ok (.invokevirtual 356, 3) := by decide +kernel
theorem dX7_doAllActs_42 : decode cX7_doAllActs 42 = .ok (.iinc 2 1, 3) := by decide +kernel
theorem dX7_doAllActs_45 : decode cX7_doAllActs 45 = .ok (.goto (-39), 3) := by decide +kernel
theorem dX7_doAllActs_48 : decode cX7_doAllActs 48 = .ok (.return_, 1) := by decide +kernel
theorem dX7_perform_0 : decode cX7_perform 0 = .ok (.aload_n 1, 1) := by decide +kernel
theorem dX7_perform_1 : decode cX7_perform 1 = .ok (.getfield 363, 3) := by decide +kernel
theorem dX7_perform_4 : decode cX7_perform 4 = .ok (.ifCond .eq 11, 3) := by decide +kernel
theorem dX7_perform_7 : decode cX7_perform 7 = .ok (.aload_n 2, 1) := by decide +kernel
theorem dX7_perform_8 : decode cX7_perform 8 = .ok (.aload_n 1, 1) := by decide +kernel
theorem dX7_perform_9 : decode cX7_perform 9 = .ok (.invokevirtual 366, 3) := by decide +kernel
theorem dX7_perform_12 : decode cX7_perform 12 = .ok (.goto 36, 3) := by decide +kernel
theorem dX7_perform_15 : decode cX7_perform 15 = .ok (.aload_n 0, 1) := by decide +kernel
theorem dX7_perform_16 : decode cX7_perform 16 = .ok (.aload_n 1, 1) := by decide +kernel
theorem dX7_perform_17 : decode cX7_perform 17 = .ok (.getfield 369, 3) := by decide +kernel
theorem dX7_perform_20 : decode cX7_perform 20 = .ok (.invokevirtual 332, 3) := by decide +kernel
theorem dX7_perform_23 : decode cX7_perform 23 = .ok (.ifCond .eq 25, 3) := by decide +kernel
theorem dX7_perform_26 : decode cX7_perform 26 = .ok (.aload_n 2, 1) := by decide +kernel
theorem dX7_perform_27 : decode cX7_perform 27 = .ok (.aload_n 1, 1) := by decide +kernel
theorem dX7_perform_28 : decode cX7_perform 28 = .ok (.getfield 369, 3) := by decide +kernel
theorem dX7_perform_31 : decode cX7_perform 31 = .ok (.aload_n 0, 1) := by decide +kernel
theorem dX7_perform_32 : decode cX7_perform 32 = .ok (.getfield 10, 3) := by decide +kernel
theorem dX7_perform_35 : decode cX7_perform 35 = .ok (.aload_n 1, 1) := by decide +kernel
theorem dX7_perform_36 : decode cX7_perform 36 = .ok (.getfield 369, 3) := by decide +kernel
theorem dX7_perform_39 : decode cX7_perform 39 = .ok (.invokevirtual 247, 3) := by decide +kernel
theorem dX7_perform_42 : decode cX7_perform 42 = .ok (.checkcast 68, 3) := by decide +kernel
theorem dX7_perform_45 : decode cX7_perform 45 = .ok (.invokevirtual 372, 3) := by decide +kernel
theorem dX7_perform_48 : decode cX7_perform 48 = .ok (.return_, 1) := by decide +kernel
theorem dX7_latestLiveAct_0 : decode cX7_latestLiveAct 0 = .ok (.aload_n 0, 1) := by decide +kernel
theorem dX7_latestLiveAct_1 : decode cX7_latestLiveAct 1 = .ok (.getfield 16, 3) := by decide +kernel
theorem dX7_latestLiveAct_4 : decode cX7_latestLiveAct 4 = .ok (.invokevirtual 57, 3) := by decide +kernel
theorem dX7_latestLiveAct_7 : decode cX7_latestLiveAct 7 = .ok (.iconst 1, 1) := by decide +kernel
theorem dX7_latestLiveAct_8 : decode cX7_latestLiveAct 8 = .ok (.isub, 1) := by decide +kernel
theorem dX7_latestLiveAct_9 : decode cX7_latestLiveAct 9 = .ok (.istore_n 2, 1) := by decide +kernel
theorem dX7_latestLiveAct_10 : decode cX7_latestLiveAct 10 = .ok (.iload_n 2, 1) := by decide +kernel
theorem dX7_latestLiveAct_11 : decode cX7_latestLiveAct 11 = .ok (.ifCond .lt 38, 3) := by decide +kernel
theorem dX7_latestLiveAct_14 : decode cX7_latestLiveAct 14 = .ok (.aload_n 0, 1) := by decide +kernel
theorem dX7_latestLiveAct_15 : decode cX7_latestLiveAct 15 = .ok (.getfield 16, 3) := by decide +kernel
theorem dX7_latestLiveAct_18 : decode cX7_latestLiveAct 18 = .ok (.iload_n 2, 1) := by decide +kernel
theorem dX7_latestLiveAct_19 : decode cX7_latestLiveAct 19 = .ok (.invokevirtual 247, 3) := by decide +kernel
theorem dX7_latestLiveAct_22 : decode cX7_latestLiveAct 22 = .ok (.checkcast 77, 3) := by decide +kernel
theorem dX7_latestLiveAct_25 : decode cX7_latestLiveAct 25 = .ok (.astore_n 3, 1) := by decide +kernel
theorem dX7_latestLiveAct_26 : decode cX7_latestLiveAct 26 = .ok (.aload_n 3, 1) := by decide +kernel
theorem dX7_latestLiveAct_27 : decode cX7_latestLiveAct 27 = .ok (.getfield 350, 3) := by decide +kernel
theorem dX7_latestLiveAct_30 : decode cX7_latestLiveAct 30 = .ok (.iload_n 1, 1) := by decide +kernel
theorem dX7_latestLiveAct_31 : decode cX7_latestLiveAct 31 = .ok (.if_icmp .ne 12, 3) := by decide +kernel
theorem dX7_latestLiveAct_34 : decode cX7_latestLiveAct 34 = .ok (.aload_n 3, 1) := by decide +kernel
theorem dX7_latestLiveAct_35 : decode cX7_latestLiveAct 35 = .ok (.getfield 139, 3) := by decide +kernel
theorem dX7_latestLiveAct_38 : decode cX7_latestLiveAct 38 = .ok (.ifCond .eq 5, 3) := by decide +kernel
theorem dX7_latestLiveAct_41 : decode cX7_latestLiveAct 41 = .ok (.iload_n 2, 1) := by decide +kernel
theorem dX7_latestLiveAct_42 : decode cX7_latestLiveAct 42 = .ok (.ireturn, 1) := by decide +kernel
theorem dX7_latestLiveAct_43 : decode cX7_latestLiveAct 43 = .ok (.iinc 2 (-1), 3) := by decide +kernel
theorem dX7_latestLiveAct_46 : decode cX7_latestLiveAct 46 = .ok (.goto (-36), 3) := by decide +kernel
theorem dX7_latestLiveAct_49 : decode cX7_latestLiveAct 49 = .ok (.iconst (-1), 1) := by decide +kernel
theorem dX7_latestLiveAct_50 : decode cX7_latestLiveAct 50 = .ok (.ireturn, 1) := by decide +kernel
theorem dX7_actUndoneLast_0 : decode cX7_actUndoneLast 0 = .ok (.iconst 0, 1) := by decide +kernel
theorem dX7_actUndoneLast_1 : decode cX7_actUndoneLast 1 = .ok (.istore_n 2, 1) := by decide +kernel
theorem dX7_actUndoneLast_2 : decode cX7_actUndoneLast 2 = .ok (.iload_n 2, 1) := by decide +kernel
theorem dX7_actUndoneLast_3 : decode cX7_actUndoneLast 3 = .ok (.aload_n 0, 1) := by decide +kernel
theorem dX7_actUndoneLast_4 : decode cX7_actUndoneLast 4 = .ok (.getfield 16, 3) := by decide +kernel
theorem dX7_actUndoneLast_7 : decode cX7_actUndoneLast 7 = .ok (.invokevirtual 57, 3) := by decide +kernel
theorem dX7_actUndoneLast_10 : decode cX7_actUndoneLast 10 = .ok (.if_icmp .ge 38, 3) := by decide +kernel
theorem dX7_actUndoneLast_13 : decode cX7_actUndoneLast 13 = .ok (.aload_n 0, 1) := by decide +kernel
theorem dX7_actUndoneLast_14 : decode cX7_actUndoneLast 14 = .ok (.getfield 16, 3) := by decide +kernel
theorem dX7_actUndoneLast_17 : decode cX7_actUndoneLast 17 = .ok (.iload_n 2, 1) := by decide +kernel
theorem dX7_actUndoneLast_18 : decode cX7_actUndoneLast 18 = .ok (.invokevirtual 247, 3) := by decide +kernel
theorem dX7_actUndoneLast_21 : decode cX7_actUndoneLast 21 = .ok (.checkcast 77, 3) := by decide +kernel
theorem dX7_actUndoneLast_24 : decode cX7_actUndoneLast 24 = .ok (.astore_n 3, 1) := by decide +kernel
theorem dX7_actUndoneLast_25 : decode cX7_actUndoneLast 25 = .ok (.aload_n 3, 1) := by decide +kernel
theorem dX7_actUndoneLast_26 : decode cX7_actUndoneLast 26 = .ok (.getfield 350, 3) := by decide +kernel
theorem dX7_actUndoneLast_29 : decode cX7_actUndoneLast 29 = .ok (.iload_n 1, 1) := by decide +kernel
theorem dX7_actUndoneLast_30 : decode cX7_actUndoneLast 30 = .ok (.if_icmp .ne 12, 3) := by decide +kernel
theorem dX7_actUndoneLast_33 : decode cX7_actUndoneLast 33 = .ok (.aload_n 3, 1) := by decide +kernel
theorem dX7_actUndoneLast_34 : decode cX7_actUndoneLast 34 = .ok (.getfield 353, 3) := by decide +kernel
theorem dX7_actUndoneLast_37 : decode cX7_actUndoneLast 37 = .ok (.ifCond .eq 5, 3) := by decide +kernel
theorem dX7_actUndoneLast_40 : decode cX7_actUndoneLast 40 = .ok (.iload_n 2, 1) := by decide +kernel
theorem dX7_actUndoneLast_41 : decode cX7_actUndoneLast 41 = .ok (.ireturn, 1) := by decide +kernel
theorem dX7_actUndoneLast_42 : decode cX7_actUndoneLast 42 = .ok (.iinc 2 1, 3) := by decide +kernel
theorem dX7_actUndoneLast_45 : decode cX7_actUndoneLast 45 = .ok (.goto (-43), 3) := by decide +kernel
theorem dX7_actUndoneLast_48 : decode cX7_actUndoneLast 48 = .ok (.iconst (-1), 1) := by decide +kernel
theorem dX7_actUndoneLast_49 : decode cX7_actUndoneLast 49 = .ok (.ireturn, 1) := by decide +kernel
theorem dX7_setLive_0 : decode cX7_setLive 0 = .ok (.iload_n 1, 1) := by decide +kernel
theorem dX7_setLive_1 : decode cX7_setLive 1 = .ok (.ifCond .lt 44, 3) := by decide +kernel
theorem dX7_setLive_4 : decode cX7_setLive 4 = .ok (.iload_n 1, 1) := by decide +kernel
theorem dX7_setLive_5 : decode cX7_setLive 5 = .ok (.aload_n 0, 1) := by decide +kernel
theorem dX7_setLive_6 : decode cX7_setLive 6 = .ok (.getfield 16, 3) := by decide +kernel
theorem dX7_setLive_9 : decode cX7_setLive 9 = .ok (.invokevirtual 57, 3) := by decide +kernel
theorem dX7_setLive_12 : decode cX7_setLive 12 = .ok (.if_icmp .ge 33, 3) := by decide +kernel
theorem dX7_setLive_15 : decode cX7_setLive 15 = .ok (.aload_n 0, 1) := by decide +kernel
theorem dX7_setLive_16 : decode cX7_setLive 16 = .ok (.getfield 16, 3) := by decide +kernel
theorem dX7_setLive_19 : decode cX7_setLive 19 = .ok (.iload_n 1, 1) := by decide +kernel
theorem dX7_setLive_20 : decode cX7_setLive 20 = .ok (.invokevirtual 247, 3) := by decide +kernel
theorem dX7_setLive_23 : decode cX7_setLive 23 = .ok (.checkcast 77, 3) := by decide +kernel
theorem dX7_setLive_26 : decode cX7_setLive 26 = .ok (.astore_n 3, 1) := by decide +kernel
theorem dX7_setLive_27 : decode cX7_setLive 27 = .ok (.aload_n 3, 1) := by decide +kernel
theorem dX7_setLive_28 : decode cX7_setLive 28 = .ok (.iload_n 2, 1) := by decide +kernel
theorem dX7_setLive_29 : decode cX7_setLive 29 = .ok (.putfield 139, 3) := by decide +kernel
theorem dX7_setLive_32 : decode cX7_setLive 32 = .ok (.aload_n 3, 1) := by decide +kernel
theorem dX7_setLive_33 : decode cX7_setLive 33 = .ok (.iload_n 2, 1) := by decide +kernel
theorem dX7_setLive_34 : decode cX7_setLive 34 = .ok (.ifCond .ne 7, 3) := by decide +kernel
theorem dX7_setLive_37 : decode cX7_setLive 37 = .ok (.iconst 1, 1) := by decide +kernel
theorem dX7_setLive_38 : decode cX7_setLive 38 = .ok (.goto 4, 3) := by decide +kernel
theorem dX7_setLive_41 : decode cX7_setLive 41 = .ok (.iconst 0, 1) := by decide +kernel
theorem dX7_setLive_42 : decode cX7_setLive 42 = .ok (.putfield 353, 3) := by decide +kernel
theorem dX7_setLive_45 : decode cX7_setLive 45 = .ok (.return_, 1) := by decide +kernel
theorem dX7_lowestHolder_0 : decode cX7_lowestHolder 0 = .ok (.iconst 0, 1) := by decide +kernel
theorem dX7_lowestHolder_1 : decode cX7_lowestHolder 1 = .ok (.istore_n 2, 1) := by decide +kernel
theorem dX7_lowestHolder_2 : decode cX7_lowestHolder 2 = .ok (.iload_n 2, 1) := by decide +kernel
theorem dX7_lowestHolder_3 : decode cX7_lowestHolder 3 = .ok (.aload_n 0, 1) := by decide +kernel
theorem dX7_lowestHolder_4 : decode cX7_lowestHolder 4 = .ok (.getfield 19, 3) := by decide +kernel
theorem dX7_lowestHolder_7 : decode cX7_lowestHolder 7 = .ok (.invokevirtual 57, 3) := by decide +kernel
theorem dX7_lowestHolder_10 : decode cX7_lowestHolder 10 = .ok (.if_icmp .ge 29, 3) := by decide +kernel
theorem dX7_lowestHolder_13 : decode cX7_lowestHolder 13 = .ok (.aload_n 0, 1) := by decide +kernel
theorem dX7_lowestHolder_14 : decode cX7_lowestHolder 14 = .ok (.getfield 19, 3) := by decide +kernel
theorem dX7_lowestHolder_17 : decode cX7_lowestHolder 17 = .ok (.iload_n 2, 1) := by decide +kernel
theorem dX7_lowestHolder_18 : decode cX7_lowestHolder 18 = .ok (.invokevirtual 247, 3) := by decide +kernel
theorem dX7_lowestHolder_21 : decode cX7_lowestHolder 21 = .ok (.checkcast 183, 3) := by decide +kernel
theorem dX7_lowestHolder_24 : decode cX7_lowestHolder 24 = .ok (.iload_n 1, 1) := by decide +kernel
theorem dX7_lowestHolder_25 : decode cX7_lowestHolder 25 = .ok (.invokevirtual 376, 3) := by decide +kernel
theorem dX7_lowestHolder_28 : decode cX7_lowestHolder 28 = .ok (.ifCond .eq 5, 3) := by decide +kernel
theorem dX7_lowestHolder_31 : decode cX7_lowestHolder 31 = .ok (.iload_n 2, 1) := by decide +kernel
theorem dX7_lowestHolder_32 : decode cX7_lowestHolder 32 = .ok (.ireturn, 1) := by decide +kernel
theorem dX7_lowestHolder_33 : decode cX7_lowestHolder 33 = .ok (.iinc 2 1, 3) := by decide +kernel
theorem dX7_lowestHolder_36 : decode cX7_lowestHolder 36 = .ok (.goto (-34), 3) := by decide +kernel
theorem dX7_lowestHolder_39 : decode cX7_lowestHolder 39 = .ok (.iconst (-1), 1) := by decide +kernel
theorem dX7_lowestHolder_40 : decode cX7_lowestHolder 40 = .ok (.ireturn, 1) := by decide +kernel
theorem dX7_measureAndHold_0 : decode cX7_measureAndHold 0 = .ok (.iconst 0, 1) := by decide +kernel
theorem dX7_measureAndHold_1 : decode cX7_measureAndHold 1 = .ok (.istore_n 2, 1) := by decide +kernel
theorem dX7_measureAndHold_2 : decode cX7_measureAndHold 2 = .ok (.iload_n 2, 1) := by decide +kernel
theorem dX7_measureAndHold_3 : decode cX7_measureAndHold 3 = .ok (.aload_n 0, 1) := by decide +kernel
theorem dX7_measureAndHold_4 : decode cX7_measureAndHold 4 = .ok (.getfield 10, 3) := by decide +kernel
theorem dX7_measureAndHold_7 : decode cX7_measureAndHold 7 = .ok (.invokevirtual 57, 3) := by decide +kernel
theorem dX7_measureAndHold_10 : decode cX7_measureAndHold 10 = .ok (.if_icmp .ge 55, 3) := by decide +kernel
theorem dX7_measureAndHold_13 : decode cX7_measureAndHold 13 = .ok (.aload_n 1, 1) := by decide +kernel
theorem dX7_measureAndHold_14 : decode cX7_measureAndHold 14 = .ok (.getfield 217, 3) := by decide +kernel
theorem dX7_measureAndHold_17 : decode cX7_measureAndHold 17 = .ok (.aload_n 0, 1) := by decide +kernel
theorem dX7_measureAndHold_18 : decode cX7_measureAndHold 18 = .ok (.getfield 28, 3) := by decide +kernel
theorem dX7_measureAndHold_21 : decode cX7_measureAndHold 21 = .ok (.iload_n 2, 1) := by decide +kernel
theorem dX7_measureAndHold_22 : decode cX7_measureAndHold 22 = .ok (.aload_n 0, 1) := by decide +kernel
theorem dX7_measureAndHold_23 : decode cX7_measureAndHold 23 = .ok (.getfield 165, 3) := by decide +kernel
theorem dX7_measureAndHold_26 : decode cX7_measureAndHold 26 = .ok (.invokevirtual 291, 3) := by decide +kernel
theorem dX7_measureAndHold_29 : decode cX7_measureAndHold 29 = .ok (.istore_n 3, 1) := by decide +kernel
theorem dX7_measureAndHold_30 : decode cX7_measureAndHold 30 = .ok (.iload_n 3, 1) := by decide +kernel
theorem dX7_measureAndHold_31 : decode cX7_measureAndHold 31 = .ok (.ifCond .le 28, 3) := by decide +kernel
theorem dX7_measureAndHold_34 : decode cX7_measureAndHold 34 = .ok (.aload_n 1, 1) := by decide +kernel
theorem dX7_measureAndHold_35 : decode cX7_measureAndHold 35 = .ok (.aload_n 0, 1) := by decide +kernel
theorem dX7_measureAndHold_36 : decode cX7_measureAndHold 36 = .ok (.getfield 10, 3) := by decide +kernel
theorem dX7_measureAndHold_39 : decode cX7_measureAndHold 39 = .ok (.iload_n 2, 1) := by decide +kernel
theorem dX7_measureAndHold_40 : decode cX7_measureAndHold 40 = .ok (.invokevirtual 247, 3) := by decide +kernel
theorem dX7_measureAndHold_43 : decode cX7_measureAndHold 43 = .ok (.checkcast 68, 3) := by decide +kernel
theorem dX7_measureAndHold_46 : decode cX7_measureAndHold 46 = .ok (.getfield 288, 3) := by decide +kernel
theorem dX7_measureAndHold_49 : decode cX7_measureAndHold 49 = .ok (.iload_n 3, 1) := by decide +kernel
theorem dX7_measureAndHold_50 : decode cX7_measureAndHold 50 = .ok (.invokevirtual 379, 3) := by decide +kernel
theorem dX7_measureAndHold_53 : decode cX7_measureAndHold 53 = .ok (.aload_n 0, 1) := by decide +kernel
theorem dX7_measureAndHold_54 : decode cX7_measureAndHold 54 = .ok (.iload_n 2, 1) := by decide +kernel
theorem dX7_measureAndHold_55 : decode cX7_measureAndHold 55 = .ok (.aload_n 1, 1) := by decide +kernel
theorem dX7_measureAndHold_56 : decode cX7_measureAndHold 56 = .ok (.invokevirtual 382, 3) := by decide +kernel
theorem dX7_measureAndHold_59 : decode cX7_measureAndHold 59 = .ok (.iinc 2 1, 3) := by decide +kernel
theorem dX7_measureAndHold_62 : decode cX7_measureAndHold 62 = .ok (.goto (-60), 3) := by decide +kernel
theorem dX7_measureAndHold_65 : decode cX7_measureAndHold 65 = .ok (.return_, 1) := by decide +kernel
theorem dX7_holdActsOf_0 : decode cX7_holdActsOf 0 = .ok (.iconst 0, 1) := by decide +kernel
theorem dX7_holdActsOf_1 : decode cX7_holdActsOf 1 = .ok (.istore_n 3, 1) := by decide +kernel
theorem dX7_holdActsOf_2 : decode cX7_holdActsOf 2 = .ok (.iload_n 3, 1) := by decide +kernel
theorem dX7_holdActsOf_3 : decode cX7_holdActsOf 3 = .ok (.aload_n 0, 1) := by decide +kernel
theorem dX7_holdActsOf_4 : decode cX7_holdActsOf 4 = .ok (.getfield 16, 3) := by decide +kernel
theorem dX7_holdActsOf_7 : decode cX7_holdActsOf 7 = .ok (.invokevirtual 57, 3) := by decide +kernel
theorem dX7_holdActsOf_10 : decode cX7_holdActsOf 10 = .ok (.if_icmp .ge 44, 3) := by decide +kernel
theorem dX7_holdActsOf_13 : decode cX7_holdActsOf 13 = .ok (.aload_n 0, 1) := by decide +kernel
theorem dX7_holdActsOf_14 : decode cX7_holdActsOf 14 = .ok (.getfield 16, 3) := by decide +kernel
theorem dX7_holdActsOf_17 : decode cX7_holdActsOf 17 = .ok (.iload_n 3, 1) := by decide +kernel
theorem dX7_holdActsOf_18 : decode cX7_holdActsOf 18 = .ok (.invokevirtual 247, 3) := by decide +kernel
theorem dX7_holdActsOf_21 : decode cX7_holdActsOf 21 = .ok (.checkcast 77, 3) := by decide +kernel
theorem dX7_holdActsOf_24 : decode cX7_holdActsOf 24 = .ok (.astore 4, 2) := by decide +kernel
theorem dX7_holdActsOf_26 : decode cX7_holdActsOf 26 = .ok (.aload 4, 2) := by decide +kernel
theorem dX7_holdActsOf_28 : decode cX7_holdActsOf 28 = .ok (.getfield 139, 3) := by decide +kernel
theorem dX7_holdActsOf_31 : decode cX7_holdActsOf 31 = .ok (.ifCond .eq 17, 3) := by decide +kernel
theorem dX7_holdActsOf_34 : decode cX7_holdActsOf 34 = .ok (.aload 4, 2) := by decide +kernel
theorem dX7_holdActsOf_36 : decode cX7_holdActsOf 36 = .ok (.iload_n 1, 1) := by decide +kernel
theorem dX7_holdActsOf_37 : decode cX7_holdActsOf 37 = .ok (.invokevirtual 386, 3) := by decide +kernel
theorem dX7_holdActsOf_40 : decode cX7_holdActsOf 40 = .ok (.ifCond .eq 8, 3) := by decide +kernel
theorem dX7_holdActsOf_43 : decode cX7_holdActsOf 43 = .ok (.aload_n 2, 1) := by decide +kernel
theorem dX7_holdActsOf_44 : decode cX7_holdActsOf 44 = .ok (.iload_n 3, 1) := by decide +kernel
theorem dX7_holdActsOf_45 : decode cX7_holdActsOf 45 = .ok (.invokevirtual 389, 3) := by decide +kernel
theorem dX7_holdActsOf_48 : decode cX7_holdActsOf 48 = .ok (.iinc 3 1, 3) := by decide +kernel
theorem dX7_holdActsOf_51 : decode cX7_holdActsOf 51 = .ok (.goto (-49), 3) := by decide +kernel
theorem dX7_holdActsOf_54 : decode cX7_holdActsOf 54 = .ok (.return_, 1) := by decide +kernel
theorem dX7_payBuyer_0 : decode cX7_payBuyer 0 = .ok (.iload_n 1, 1) := by decide +kernel
theorem dX7_payBuyer_1 : decode cX7_payBuyer 1 = .ok (.ifCond .lt 19, 3) := by decide +kernel
theorem dX7_payBuyer_4 : decode cX7_payBuyer 4 = .ok (.iload_n 1, 1) := by decide +kernel
theorem dX7_payBuyer_5 : decode cX7_payBuyer 5 = .ok (.bipush 8, 2) := by decide +kernel
theorem dX7_payBuyer_7 : decode cX7_payBuyer 7 = .ok (.if_icmp .ge 13, 3) := by decide +kernel
theorem dX7_payBuyer_10 : decode cX7_payBuyer 10 = .ok (.aload_n 0, 1) := by decide +kernel
theorem dX7_payBuyer_11 : decode cX7_payBuyer 11 = .ok (.getfield 42, 3) := by decide +kernel
theorem dX7_payBuyer_14 : decode cX7_payBuyer 14 = .ok (.iload_n 1, 1) := by decide +kernel
theorem dX7_payBuyer_15 : decode cX7_payBuyer 15 = .ok (.dup2, 1) := by decide +kernel
theorem dX7_payBuyer_16 : decode cX7_payBuyer 16 = .ok (.iaload, 1) := by decide +kernel
theorem dX7_payBuyer_17 : decode cX7_payBuyer 17 = .ok (.iload_n 2, 1) := by decide +kernel
theorem dX7_payBuyer_18 : decode cX7_payBuyer 18 = .ok (.iadd, 1) := by decide +kernel
theorem dX7_payBuyer_19 : decode cX7_payBuyer 19 = .ok (.iastore, 1) := by decide +kernel
theorem dX7_payBuyer_20 : decode cX7_payBuyer 20 = .ok (.return_, 1) := by decide +kernel
theorem dX7_enter_0 : decode cX7_enter 0 = .ok (.aload_n 0, 1) := by decide +kernel
theorem dX7_enter_1 : decode cX7_enter 1 = .ok (.aload_n 1, 1) := by decide +kernel
theorem dX7_enter_2 : decode cX7_enter 2 = .ok (.aload_n 0, 1) := by decide +kernel
theorem dX7_enter_3 : decode cX7_enter 3 = .ok (.getfield 35, 3) := by decide +kernel
theorem dX7_enter_6 : decode cX7_enter 6 = .ok (.invokevirtual 317, 3) := by decide +kernel
theorem dX7_enter_9 : decode cX7_enter 9 = .ok (.aload_n 0, 1) := by decide +kernel
theorem dX7_enter_10 : decode cX7_enter 10 = .ok (.getfield 22, 3) := by decide +kernel
theorem dX7_enter_13 : decode cX7_enter 13 = .ok (.invokevirtual 57, 3) := by decide +kernel
theorem dX7_enter_16 : decode cX7_enter 16 = .ok (.sipush 512, 3) := by decide +kernel
theorem dX7_enter_19 : decode cX7_enter 19 = .ok (.if_icmp .ge 12, 3) := by decide +kernel
theorem dX7_enter_22 : decode cX7_enter 22 = .ok (.aload_n 0, 1) := by decide +kernel
theorem dX7_enter_23 : decode cX7_enter 23 = .ok (.getfield 22, 3) := by decide +kernel
theorem dX7_enter_26 : decode cX7_enter 26 = .ok (.aload_n 1, 1) := by decide +kernel
theorem dX7_enter_27 : decode cX7_enter 27 = .ok (.invokevirtual 73, 3) := by decide +kernel
theorem dX7_enter_30 : decode cX7_enter 30 = .ok (.pop, 1) := by decide +kernel
theorem dX7_enter_31 : decode cX7_enter 31 = .ok (.return_, 1) := by decide +kernel
theorem dX7_payHands_0 : decode cX7_payHands 0 = .ok (.aload_n 0, 1) := by decide +kernel
theorem dX7_payHands_1 : decode cX7_payHands 1 = .ok (.aload_n 1, 1) := by decide +kernel
theorem dX7_payHands_2 : decode cX7_payHands 2 = .ok (.getfield 392, 3) := by decide +kernel
theorem dX7_payHands_5 : decode cX7_payHands 5 = .ok (.invokevirtual 341, 3) := by decide +kernel
theorem dX7_payHands_8 : decode cX7_payHands 8 = .ok (.ifCond .eq 28, 3) := by decide +kernel
theorem dX7_payHands_11 : decode cX7_payHands 11 = .ok (.aload_n 0, 1) := by decide +kernel
theorem dX7_payHands_12 : decode cX7_payHands 12 = .ok (.getfield 19, 3) := by decide +kernel
theorem dX7_payHands_15 : decode cX7_payHands 15 = .ok (.aload_n 1, 1) := by decide +kernel
theorem dX7_payHands_16 : decode cX7_payHands 16 = .ok (.getfield 392, 3) := by decide +kernel
theorem dX7_payHands_19 : decode cX7_payHands 19 = .ok (.invokevirtual 247, 3) := by decide +kernel
theorem dX7_payHands_22 : decode cX7_payHands 22 = .ok (.checkcast 183, 3) := by decide +kernel
theorem dX7_payHands_25 : decode cX7_payHands 25 = .ok (.aload_n 1, 1) := by decide +kernel
theorem dX7_payHands_26 : decode cX7_payHands 26 = .ok (.getfield 395, 3) := by decide +kernel
theorem dX7_payHands_29 : decode cX7_payHands 29 = .ok (.aload_n 2, 1) := by decide +kernel
theorem dX7_payHands_30 : decode cX7_payHands 30 = .ok (.invokevirtual 398, 3) := by decide +kernel
theorem dX7_payHands_33 : decode cX7_payHands 33 = .ok (.goto 32, 3) := by decide +kernel
theorem dX7_payHands_36 : decode cX7_payHands 36 = .ok (.aload_n 1, 1) := by decide +kernel
theorem dX7_payHands_37 : decode cX7_payHands 37 = .ok (.getfield 402, 3) := by decide +kernel
theorem dX7_payHands_40 : decode cX7_payHands 40 = .ok (.ifCond .lt 25, 3) := by decide +kernel
theorem dX7_payHands_43 : decode cX7_payHands 43 = .ok (.aload_n 1, 1) := by decide +kernel
theorem dX7_payHands_44 : decode cX7_payHands 44 = .ok (.getfield 402, 3) := by decide +kernel
theorem dX7_payHands_47 : decode cX7_payHands 47 = .ok (.aload_n 2, 1) := by decide +kernel
theorem dX7_payHands_48 : decode cX7_payHands 48 = .ok (.arraylength, 1) := by decide +kernel
theorem dX7_payHands_49 : decode cX7_payHands 49 = .ok (.if_icmp .ge 16, 3) := by decide +kernel
theorem dX7_payHands_52 : decode cX7_payHands 52 = .ok (.aload_n 2, 1) := by decide +kernel
theorem dX7_payHands_53 : decode cX7_payHands 53 = .ok (.aload_n 1, 1) := by decide +kernel
theorem dX7_payHands_54 : decode cX7_payHands 54 = .ok (.getfield 402, 3) := by decide +kernel
theorem dX7_payHands_57 : decode cX7_payHands 57 = .ok (.dup2, 1) := by decide +kernel
theorem dX7_payHands_58 : decode cX7_payHands 58 = .ok (.iaload, 1) := by decide +kernel
theorem dX7_payHands_59 : decode cX7_payHands 59 = .ok (.aload_n 1, 1) := by decide +kernel
theorem dX7_payHands_60 : decode cX7_payHands 60 = .ok (.getfield 395, 3) := by decide +kernel
theorem dX7_payHands_63 : decode cX7_payHands 63 = .ok (.iadd, 1) := by decide +kernel
theorem dX7_payHands_64 : decode cX7_payHands 64 = .ok (.iastore, 1) := by decide +kernel
theorem dX7_payHands_65 : decode cX7_payHands 65 = .ok (.return_, 1) := by decide +kernel
