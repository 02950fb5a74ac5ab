theorem dX0_init_0 : decode cX0_init 0 = .ok (.aload_n 0, 1) := by decide +kernel
theorem dX0_init_1 : decode cX0_init 1 = .ok (.invokespecial 3, 3) := by decide +kernel
theorem dX0_init_4 : decode cX0_init 4 = .ok (.aload_n 0, 1) := by decide +kernel
theorem dX0_init_5 : decode cX0_init 5 = .ok (.new 9, 3) := by decide +kernel
theorem dX0_init_8 : decode cX0_init 8 = .ok (.dup, 1) := by decide +kernel
theorem dX0_init_9 : decode cX0_init 9 = .ok (.invokespecial 11, 3) := by decide +kernel
theorem dX0_init_12 : decode cX0_init 12 = .ok (.putfield 12, 3) := by decide +kernel
theorem dX0_init_15 : decode cX0_init 15 = .ok (.aload_n 0, 1) := by decide +kernel
theorem dX0_init_16 : decode cX0_init 16 = .ok (.bipush 6, 2) := by decide +kernel
theorem dX0_init_18 : decode cX0_init 18 = .ok (.newarray .int, 2) := by decide +kernel
theorem dX0_init_20 : decode cX0_init 20 = .ok (.putfield 18, 3) := by decide +kernel
theorem dX0_init_23 : decode cX0_init 23 = .ok (.aload_n 0, 1) := by decide +kernel
theorem dX0_init_24 : decode cX0_init 24 = .ok (.bipush 6, 2) := by decide +kernel
theorem dX0_init_26 : decode cX0_init 26 = .ok (.newarray .int, 2) := by decide +kernel
theorem dX0_init_28 : decode cX0_init 28 = .ok (.putfield 22, 3) := by decide +kernel
theorem dX0_init_31 : decode cX0_init 31 = .ok (.aload_n 0, 1) := by decide +kernel
theorem dX0_init_32 : decode cX0_init 32 = .ok (.aload_n 1, 1) := by decide +kernel
theorem dX0_init_33 : decode cX0_init 33 = .ok (.putfield 25, 3) := by decide +kernel
theorem dX0_init_36 : decode cX0_init 36 = .ok (.return_, 1) := by decide +kernel
theorem dX0_windAt_0 : decode cX0_windAt 0 = .ok (.aload_n 1, 1) := by decide +kernel
theorem dX0_windAt_1 : decode cX0_windAt 1 = .ok (.invokevirtual 29, 3) := by decide +kernel
theorem dX0_windAt_4 : decode cX0_windAt 4 = .ok (.ifCond .ne 6, 3) := by decide +kernel
theorem dX0_windAt_7 : decode cX0_windAt 7 = .ok (.bipush 20, 2) := by decide +kernel
theorem dX0_windAt_9 : decode cX0_windAt 9 = .ok (.ireturn, 1) := by decide +kernel
theorem dX0_windAt_10 : decode cX0_windAt 10 = .ok (.aload_n 0, 1) := by decide +kernel
theorem dX0_windAt_11 : decode cX0_windAt 11 = .ok (.getfield 12, 3) := by decide +kernel
theorem dX0_windAt_14 : decode cX0_windAt 14 = .ok (.getfield 35, 3) := by decide +kernel
theorem dX0_windAt_17 : decode cX0_windAt 17 = .ok (.bipush 20, 2) := by decide +kernel
theorem dX0_windAt_19 : decode cX0_windAt 19 = .ok (.iload_n 2, 1) := by decide +kernel
theorem dX0_windAt_20 : decode cX0_windAt 20 = .ok (.iastore, 1) := by decide +kernel
theorem dX0_windAt_21 : decode cX0_windAt 21 = .ok (.aload_n 0, 1) := by decide +kernel
theorem dX0_windAt_22 : decode cX0_windAt 22 = .ok (.getfield 12, 3) := by decide +kernel
theorem dX0_windAt_25 : decode cX0_windAt 25 = .ok (.getfield 35, 3) := by decide +kernel
theorem dX0_windAt_28 : decode cX0_windAt 28 = .ok (.bipush 21, 2) := by decide +kernel
theorem dX0_windAt_30 : decode cX0_windAt 30 = .ok (.iload_n 3, 1) := by decide +kernel
theorem dX0_windAt_31 : decode cX0_windAt 31 = .ok (.iastore, 1) := by decide +kernel
theorem dX0_windAt_32 : decode cX0_windAt 32 = .ok (.aload_n 0, 1) := by decide +kernel
theorem dX0_windAt_33 : decode cX0_windAt 33 = .ok (.getfield 12, 3) := by decide +kernel
theorem dX0_windAt_36 : decode cX0_windAt 36 = .ok (.getfield 35, 3) := by decide +kernel
theorem dX0_windAt_39 : decode cX0_windAt 39 = .ok (.bipush 22, 2) := by decide +kernel
theorem dX0_windAt_41 : decode cX0_windAt 41 = .ok (.iload 4, 2) := by decide +kernel
theorem dX0_windAt_43 : decode cX0_windAt 43 = .ok (.iastore, 1) := by decide +kernel
theorem dX0_windAt_44 : decode cX0_windAt 44 = .ok (.aload_n 0, 1) := by decide +kernel
theorem dX0_windAt_45 : decode cX0_windAt 45 = .ok (.getfield 12, 3) := by decide +kernel
theorem dX0_windAt_48 : decode cX0_windAt 48 = .ok (.aload_n 1, 1) := by decide +kernel
theorem dX0_windAt_49 : decode cX0_windAt 49 = .ok (.getfield 40, 3) := by decide +kernel
theorem dX0_windAt_52 : decode cX0_windAt 52 = .ok (.invokevirtual 43, 3) := by decide +kernel
theorem dX0_windAt_55 : decode cX0_windAt 55 = .ok (.iconst 0, 1) := by decide +kernel
theorem dX0_windAt_56 : decode cX0_windAt 56 = .ok (.bipush 99, 2) := by decide +kernel
theorem dX0_windAt_58 : decode cX0_windAt 58 = .ok (.invokestatic 47, 3) := by decide +kernel
theorem dX0_windAt_61 : decode cX0_windAt 61 = .ok (.ireturn, 1) := by decide +kernel
theorem dX0_look_0 : decode cX0_look 0 = .ok (.aload_n 0, 1) := by decide +kernel
theorem dX0_look_1 : decode cX0_look 1 = .ok (.aload_n 1, 1) := by decide +kernel
theorem dX0_look_2 : decode cX0_look 2 = .ok (.iload_n 2, 1) := by decide +kernel
theorem dX0_look_3 : decode cX0_look 3 = .ok (.iload_n 3, 1) := by decide +kernel
theorem dX0_look_4 : decode cX0_look 4 = .ok (.invokevirtual 51, 3) := by decide +kernel
theorem dX0_look_7 : decode cX0_look 7 = .ok (.aload_n 0, 1) := by decide +kernel
theorem dX0_look_8 : decode cX0_look 8 = .ok (.aload_n 1, 1) := by decide +kernel
theorem dX0_look_9 : decode cX0_look 9 = .ok (.aload_n 1, 1) := by decide +kernel
theorem dX0_look_10 : decode cX0_look 10 = .ok (.getfield 55, 3) := by decide +kernel
theorem dX0_look_13 : decode cX0_look 13 = .ok (.invokevirtual 61, 3) := by decide +kernel
theorem dX0_look_16 : decode cX0_look 16 = .ok (.aload_n 0, 1) := by decide +kernel
theorem dX0_look_17 : decode cX0_look 17 = .ok (.aload_n 1, 1) := by decide +kernel
theorem dX0_look_18 : decode cX0_look 18 = .ok (.aload_n 1, 1) := by decide +kernel
theorem dX0_look_19 : decode cX0_look 19 = .ok (.getfield 55, 3) := by decide +kernel
theorem dX0_look_22 : decode cX0_look 22 = .ok (.invokevirtual 65, 3) := by decide +kernel
theorem dX0_look_25 : decode cX0_look 25 = .ok (.return_, 1) := by decide +kernel
theorem dX0_feel_0 : decode cX0_feel 0 = .ok (.aload_n 0, 1) := by decide +kernel
theorem dX0_feel_1 : decode cX0_feel 1 = .ok (.aload_n 1, 1) := by decide +kernel
theorem dX0_feel_2 : decode cX0_feel 2 = .ok (.getfield 68, 3) := by decide +kernel
theorem dX0_feel_5 : decode cX0_feel 5 = .ok (.putfield 25, 3) := by decide +kernel
theorem dX0_feel_8 : decode cX0_feel 8 = .ok (.aload_n 0, 1) := by decide +kernel
theorem dX0_feel_9 : decode cX0_feel 9 = .ok (.iload_n 2, 1) := by decide +kernel
theorem dX0_feel_10 : decode cX0_feel 10 = .ok (.putfield 69, 3) := by decide +kernel
theorem dX0_feel_13 : decode cX0_feel 13 = .ok (.aload_n 0, 1) := by decide +kernel
theorem dX0_feel_14 : decode cX0_feel 14 = .ok (.iload_n 3, 1) := by decide +kernel
theorem dX0_feel_15 : decode cX0_feel 15 = .ok (.putfield 72, 3) := by decide +kernel
theorem dX0_feel_18 : decode cX0_feel 18 = .ok (.aload_n 0, 1) := by decide +kernel
theorem dX0_feel_19 : decode cX0_feel 19 = .ok (.iconst 0, 1) := by decide +kernel
theorem dX0_feel_20 : decode cX0_feel 20 = .ok (.putfield 75, 3) := by decide +kernel
theorem dX0_feel_23 : decode cX0_feel 23 = .ok (.iconst 0, 1) := by decide +kernel
theorem dX0_feel_24 : decode cX0_feel 24 = .ok (.istore 4, 2) := by decide +kernel
theorem dX0_feel_26 : decode cX0_feel 26 = .ok (.iload 4, 2) := by decide +kernel
theorem dX0_feel_28 : decode cX0_feel 28 = .ok (.aload_n 0, 1) := by decide +kernel
theorem dX0_feel_29 : decode cX0_feel 29 = .ok (.getfield 25, 3) := by decide +kernel
theorem dX0_feel_32 : decode cX0_feel 32 = .ok (.getfield 78, 3) := by decide +kernel
theorem dX0_feel_35 : decode cX0_feel 35 = .ok (.if_icmp .ge 106, 3) := by decide +kernel
theorem dX0_feel_38 : decode cX0_feel 38 = .ok (.aload_n 0, 1) := by decide +kernel
theorem dX0_feel_39 : decode cX0_feel 39 = .ok (.getfield 18, 3) := by decide +kernel
theorem dX0_feel_42 : decode cX0_feel 42 = .ok (.iload 4, 2) := by decide +kernel
theorem dX0_feel_44 : decode cX0_feel 44 = .ok (.aload_n 0, 1) := by decide +kernel
theorem dX0_feel_45 : decode cX0_feel 45 = .ok (.aload_n 0, 1) := by decide +kernel
theorem dX0_feel_46 : decode cX0_feel 46 = .ok (.getfield 25, 3) := by decide +kernel
theorem dX0_feel_49 : decode cX0_feel 49 = .ok (.aload_n 1, 1) := by decide +kernel
theorem dX0_feel_50 : decode cX0_feel 50 = .ok (.getfield 81, 3) := by decide +kernel
theorem dX0_feel_53 : decode cX0_feel 53 = .ok (.iload 4, 2) := by decide +kernel
theorem dX0_feel_55 : decode cX0_feel 55 = .ok (.iaload, 1) := by decide +kernel
theorem dX0_feel_56 : decode cX0_feel 56 = .ok (.aload_n 0, 1) := by decide +kernel
theorem dX0_feel_57 : decode cX0_feel 57 = .ok (.getfield 69, 3) := by decide +kernel
theorem dX0_feel_60 : decode cX0_feel 60 = .ok (.aload_n 0, 1) := by decide +kernel
theorem dX0_feel_61 : decode cX0_feel 61 = .ok (.getfield 72, 3) := by decide +kernel
theorem dX0_feel_64 : decode cX0_feel 64 = .ok (.invokevirtual 84, 3) := by decide +kernel
theorem dX0_feel_67 : decode cX0_feel 67 = .ok (.iastore, 1) := by decide +kernel
theorem dX0_feel_68 : decode cX0_feel 68 = .ok (.aload_n 0, 1) := by decide +kernel
theorem dX0_feel_69 : decode cX0_feel 69 = .ok (.getfield 25, 3) := by decide +kernel
theorem dX0_feel_72 : decode cX0_feel 72 = .ok (.iload 4, 2) := by decide +kernel
theorem dX0_feel_74 : decode cX0_feel 74 = .ok (.aload_n 1, 1) := by decide +kernel
theorem dX0_feel_75 : decode cX0_feel 75 = .ok (.getfield 81, 3) := by decide +kernel
theorem dX0_feel_78 : decode cX0_feel 78 = .ok (.iload 4, 2) := by decide +kernel
theorem dX0_feel_80 : decode cX0_feel 80 = .ok (.iaload, 1) := by decide +kernel
theorem dX0_feel_81 : decode cX0_feel 81 = .ok (.aload_n 0, 1) := by decide +kernel
theorem dX0_feel_82 : decode cX0_feel 82 = .ok (.getfield 18, 3) := by decide +kernel
theorem dX0_feel_85 : decode cX0_feel 85 = .ok (.iload 4, 2) := by decide +kernel
theorem dX0_feel_87 : decode cX0_feel 87 = .ok (.iaload, 1) := by decide +kernel
theorem dX0_feel_88 : decode cX0_feel 88 = .ok (.invokevirtual 88, 3) := by decide +kernel
theorem dX0_feel_91 : decode cX0_feel 91 = .ok (.istore 5, 2) := by decide +kernel
theorem dX0_feel_93 : decode cX0_feel 93 = .ok (.aload_n 0, 1) := by decide +kernel
theorem dX0_feel_94 : decode cX0_feel 94 = .ok (.getfield 22, 3) := by decide +kernel
theorem dX0_feel_97 : decode cX0_feel 97 = .ok (.iload 4, 2) := by decide +kernel
theorem dX0_feel_99 : decode cX0_feel 99 = .ok (.iload 5, 2) := by decide +kernel
theorem dX0_feel_101 : decode cX0_feel 101 = .ok (.iconst (-1), 1) := by decide +kernel
theorem dX0_feel_102 : decode cX0_feel 102 = .ok (.if_icmp .ne 7, 3) := by decide +kernel
theorem dX0_feel_105 : decode cX0_feel 105 = .ok (.iconst 0, 1) := by decide +kernel
theorem dX0_feel_106 : decode cX0_feel 106 = .ok (.goto 5, 3) := by decide +kernel
theorem dX0_feel_109 : decode cX0_feel 109 = .ok (.iload 5, 2) := by decide +kernel
theorem dX0_feel_111 : decode cX0_feel 111 = .ok (.iastore, 1) := by decide +kernel
theorem dX0_feel_112 : decode cX0_feel 112 = .ok (.aload_n 0, 1) := by decide +kernel
theorem dX0_feel_113 : decode cX0_feel 113 = .ok (.dup, 1) := by decide +kernel
theorem dX0_feel_114 : decode cX0_feel 114 = .ok (.getfield 75, 3) := by decide +kernel
theorem dX0_feel_117 : decode cX0_feel 117 = .ok (.iload 5, 2) := by decide +kernel
theorem dX0_feel_119 : decode cX0_feel 119 = .ok (.iconst (-1), 1) := by decide +kernel
theorem dX0_feel_120 : decode cX0_feel 120 = .ok (.if_icmp .ne 10, 3) := by decide +kernel
theorem dX0_feel_123 : decode cX0_feel 123 = .ok (.iconst 1, 1) := by decide +kernel
theorem dX0_feel_124 : decode cX0_feel 124 = .ok (.iload 4, 2) := by decide +kernel
theorem dX0_feel_126 : decode cX0_feel 126 = .ok (.ishl, 1) := by decide +kernel
theorem dX0_feel_127 : decode cX0_feel 127 = .ok (.goto 4, 3) := by decide +kernel
theorem dX0_feel_130 : decode cX0_feel 130 = .ok (.iconst 0, 1) := by decide +kernel
theorem dX0_feel_131 : decode cX0_feel 131 = .ok (.ior, 1) := by decide +kernel
theorem dX0_feel_132 : decode cX0_feel 132 = .ok (.putfield 75, 3) := by decide +kernel
theorem dX0_feel_135 : decode cX0_feel 135 = .ok (.iinc 4 1, 3) := by decide +kernel
theorem dX0_feel_138 : decode cX0_feel 138 = .ok (.goto (-112), 3) := by decide +kernel
theorem dX0_feel_141 : decode cX0_feel 141 = .ok (.return_, 1) := by decide +kernel
theorem dX0_hang_0 : decode cX0_hang 0 = .ok (.aload_n 0, 1) := by decide +kernel
theorem dX0_hang_1 : decode cX0_hang 1 = .ok (.aload_n 0, 1) := by decide +kernel
theorem dX0_hang_2 : decode cX0_hang 2 = .ok (.aload_n 1, 1) := by decide +kernel
theorem dX0_hang_3 : decode cX0_hang 3 = .ok (.iload_n 2, 1) := by decide +kernel
theorem dX0_hang_4 : decode cX0_hang 4 = .ok (.invokevirtual 91, 3) := by decide +kernel
theorem dX0_hang_7 : decode cX0_hang 7 = .ok (.putfield 95, 3) := by decide +kernel
theorem dX0_hang_10 : decode cX0_hang 10 = .ok (.aload_n 0, 1) := by decide +kernel
theorem dX0_hang_11 : decode cX0_hang 11 = .ok (.iconst 0, 1) := by decide +kernel
theorem dX0_hang_12 : decode cX0_hang 12 = .ok (.aload_n 0, 1) := by decide +kernel
theorem dX0_hang_13 : decode cX0_hang 13 = .ok (.getfield 95, 3) := by decide +kernel
theorem dX0_hang_16 : decode cX0_hang 16 = .ok (.aload_n 0, 1) := by decide +kernel
theorem dX0_hang_17 : decode cX0_hang 17 = .ok (.getfield 75, 3) := by decide +kernel
theorem dX0_hang_20 : decode cX0_hang 20 = .ok (.iload_n 2, 1) := by decide +kernel
theorem dX0_hang_21 : decode cX0_hang 21 = .ok (.iconst (-1), 1) := by decide +kernel
theorem dX0_hang_22 : decode cX0_hang 22 = .ok (.ixor, 1) := by decide +kernel
theorem dX0_hang_23 : decode cX0_hang 23 = .ok (.iand, 1) := by decide +kernel
theorem dX0_hang_24 : decode cX0_hang 24 = .ok (.invokestatic 98, 3) := by decide +kernel
theorem dX0_hang_27 : decode cX0_hang 27 = .ok (.isub, 1) := by decide +kernel
theorem dX0_hang_28 : decode cX0_hang 28 = .ok (.invokestatic 104, 3) := by decide +kernel
theorem dX0_hang_31 : decode cX0_hang 31 = .ok (.putfield 110, 3) := by decide +kernel
theorem dX0_hang_34 : decode cX0_hang 34 = .ok (.return_, 1) := by decide +kernel
theorem dX0_lean_0 : decode cX0_lean 0 = .ok (.iconst 0, 1) := by decide +kernel
theorem dX0_lean_1 : decode cX0_lean 1 = .ok (.istore_n 3, 1) := by decide +kernel
theorem dX0_lean_2 : decode cX0_lean 2 = .ok (.iconst 0, 1) := by decide +kernel
theorem dX0_lean_3 : decode cX0_lean 3 = .ok (.istore 4, 2) := by decide +kernel
theorem dX0_lean_5 : decode cX0_lean 5 = .ok (.iconst 0, 1) := by decide +kernel
theorem dX0_lean_6 : decode cX0_lean 6 = .ok (.istore 5, 2) := by decide +kernel
theorem dX0_lean_8 : decode cX0_lean 8 = .ok (.iload 5, 2) := by decide +kernel
theorem dX0_lean_10 : decode cX0_lean 10 = .ok (.aload_n 0, 1) := by decide +kernel
theorem dX0_lean_11 : decode cX0_lean 11 = .ok (.getfield 25, 3) := by decide +kernel
theorem dX0_lean_14 : decode cX0_lean 14 = .ok (.getfield 78, 3) := by decide +kernel
theorem dX0_lean_17 : decode cX0_lean 17 = .ok (.if_icmp .ge 65, 3) := by decide +kernel
theorem dX0_lean_20 : decode cX0_lean 20 = .ok (.iload_n 2, 1) := by decide +kernel
theorem dX0_lean_21 : decode cX0_lean 21 = .ok (.iload 5, 2) := by decide +kernel
theorem dX0_lean_23 : decode cX0_lean 23 = .ok (.ishr, 1) := by decide +kernel
theorem dX0_lean_24 : decode cX0_lean 24 = .ok (.iconst 1, 1) := by decide +kernel
theorem dX0_lean_25 : decode cX0_lean 25 = .ok (.iand, 1) := by decide +kernel
theorem dX0_lean_26 : decode cX0_lean 26 = .ok (.ifCond .ne 50, 3) := by decide +kernel
theorem dX0_lean_29 : decode cX0_lean 29 = .ok (.aload_n 1, 1) := by decide +kernel
theorem dX0_lean_30 : decode cX0_lean 30 = .ok (.getfield 81, 3) := by decide +kernel
theorem dX0_lean_33 : decode cX0_lean 33 = .ok (.iload 5, 2) := by decide +kernel
theorem dX0_lean_35 : decode cX0_lean 35 = .ok (.iaload, 1) := by decide +kernel
theorem dX0_lean_36 : decode cX0_lean 36 = .ok (.aload_n 0, 1) := by decide +kernel
theorem dX0_lean_37 : decode cX0_lean 37 = .ok (.getfield 95, 3) := by decide +kernel
theorem dX0_lean_40 : decode cX0_lean 40 = .ok (.if_icmp .lt 36, 3) := by decide +kernel
theorem dX0_lean_43 : decode cX0_lean 43 = .ok (.iload_n 3, 1) := by decide +kernel
theorem dX0_lean_44 : decode cX0_lean 44 = .ok (.aload_n 0, 1) := by decide +kernel
theorem dX0_lean_45 : decode cX0_lean 45 = .ok (.getfield 22, 3) := by decide +kernel
theorem dX0_lean_48 : decode cX0_lean 48 = .ok (.iload 5, 2) := by decide +kernel
theorem dX0_lean_50 : decode cX0_lean 50 = .ok (.iaload, 1) := by decide +kernel
theorem dX0_lean_51 : decode cX0_lean 51 = .ok (.iadd, 1) := by decide +kernel
theorem dX0_lean_52 : decode cX0_lean 52 = .ok (.istore_n 3, 1) := by decide +kernel
theorem dX0_lean_53 : decode cX0_lean 53 = .ok (.iload 4, 2) := by decide +kernel
theorem dX0_lean_55 : decode cX0_lean 55 = .ok (.aload_n 0, 1) := by decide +kernel
theorem dX0_lean_56 : decode cX0_lean 56 = .ok (.getfield 22, 3) := by decide +kernel
theorem dX0_lean_59 : decode cX0_lean 59 = .ok (.iload 5, 2) := by decide +kernel
theorem dX0_lean_61 : decode cX0_lean 61 = .ok (.iaload, 1) := by decide +kernel
theorem dX0_lean_62 : decode cX0_lean 62 = .ok (.aload_n 0, 1) := by decide +kernel
theorem dX0_lean_63 : decode cX0_lean 63 = .ok (.getfield 25, 3) := by decide +kernel
theorem dX0_lean_66 : decode cX0_lean 66 = .ok (.getfield 113, 3) := by decide +kernel
theorem dX0_lean_69 : decode cX0_lean 69 = .ok (.iload 5, 2) := by decide +kernel
theorem dX0_lean_71 : decode cX0_lean 71 = .ok (.iaload, 1) := by decide +kernel
theorem dX0_lean_72 : decode cX0_lean 72 = .ok (.imul, 1) := by decide +kernel
theorem dX0_lean_73 : decode cX0_lean 73 = .ok (.iadd, 1) := by decide +kernel
theorem dX0_lean_74 : decode cX0_lean 74 = .ok (.istore 4, 2) := by decide +kernel
theorem dX0_lean_76 : decode cX0_lean 76 = .ok (.iinc 5 1, 3) := by decide +kernel
theorem dX0_lean_79 : decode cX0_lean 79 = .ok (.goto (-71), 3) := by decide +kernel
theorem dX0_lean_82 : decode cX0_lean 82 = .ok (.aload_n 0, 1) := by decide +kernel
theorem dX0_lean_83 : decode cX0_lean 83 = .ok (.iload_n 3, 1) := by decide +kernel
theorem dX0_lean_84 : decode cX0_lean 84 = .ok (.ifCond .le 10, 3) := by decide +kernel
theorem dX0_lean_87 : decode cX0_lean 87 = .ok (.iload 4, 2) := by decide +kernel
theorem dX0_lean_89 : decode cX0_lean 89 = .ok (.iload_n 3, 1) := by decide +kernel
theorem dX0_lean_90 : decode cX0_lean 90 = .ok (.idiv, 1) := by decide +kernel
theorem dX0_lean_91 : decode cX0_lean 91 = .ok (.goto 4, 3) := by decide +kernel
theorem dX0_lean_94 : decode cX0_lean 94 = .ok (.iconst 0, 1) := by decide +kernel
theorem dX0_lean_95 : decode cX0_lean 95 = .ok (.aload_n 0, 1) := by decide +kernel
theorem dX0_lean_96 : decode cX0_lean 96 = .ok (.aload_n 0, 1) := by decide +kernel
theorem dX0_lean_97 : decode cX0_lean 97 = .ok (.getfield 25, 3) := by decide +kernel
theorem dX0_lean_100 : decode cX0_lean 100 = .ok (.aload_n 0, 1) := by decide +kernel
theorem dX0_lean_101 : decode cX0_lean 101 = .ok (.getfield 110, 3) := by decide +kernel
theorem dX0_lean_104 : decode cX0_lean 104 = .ok (.aload_n 0, 1) := by decide +kernel
theorem dX0_lean_105 : decode cX0_lean 105 = .ok (.getfield 69, 3) := by decide +kernel
theorem dX0_lean_108 : decode cX0_lean 108 = .ok (.aload_n 0, 1) := by decide +kernel
theorem dX0_lean_109 : decode cX0_lean 109 = .ok (.getfield 72, 3) := by decide +kernel
theorem dX0_lean_112 : decode cX0_lean 112 = .ok (.invokevirtual 84, 3) := by decide +kernel
theorem dX0_lean_115 : decode cX0_lean 115 = .ok (.iconst 5, 1) := by decide +kernel
theorem dX0_lean_116 : decode cX0_lean 116 = .ok (.idiv, 1) := by decide +kernel
theorem dX0_lean_117 : decode cX0_lean 117 = .ok (.iadd, 1) := by decide +kernel
theorem dX0_lean_118 : decode cX0_lean 118 = .ok (.putfield 116, 3) := by decide +kernel
theorem dX0_lean_121 : decode cX0_lean 121 = .ok (.return_, 1) := by decide +kernel
theorem dX0_ruled_0 : decode cX0_ruled 0 = .ok (.aload_n 0, 1) := by decide +kernel
theorem dX0_ruled_1 : decode cX0_ruled 1 = .ok (.getfield 12, 3) := by decide +kernel
theorem dX0_ruled_4 : decode cX0_ruled 4 = .ok (.getfield 35, 3) := by decide +kernel
theorem dX0_ruled_7 : decode cX0_ruled 7 = .ok (.bipush 10, 2) := by decide +kernel
theorem dX0_ruled_9 : decode cX0_ruled 9 = .ok (.aload_n 1, 1) := by decide +kernel
theorem dX0_ruled_10 : decode cX0_ruled 10 = .ok (.getfield 81, 3) := by decide +kernel
theorem dX0_ruled_13 : decode cX0_ruled 13 = .ok (.iload_n 2, 1) := by decide +kernel
theorem dX0_ruled_14 : decode cX0_ruled 14 = .ok (.iaload, 1) := by decide +kernel
theorem dX0_ruled_15 : decode cX0_ruled 15 = .ok (.iastore, 1) := by decide +kernel
theorem dX0_ruled_16 : decode cX0_ruled 16 = .ok (.aload_n 0, 1) := by decide +kernel
theorem dX0_ruled_17 : decode cX0_ruled 17 = .ok (.getfield 12, 3) := by decide +kernel
theorem dX0_ruled_20 : decode cX0_ruled 20 = .ok (.getfield 35, 3) := by decide +kernel
theorem dX0_ruled_23 : decode cX0_ruled 23 = .ok (.bipush 23, 2) := by decide +kernel
theorem dX0_ruled_25 : decode cX0_ruled 25 = .ok (.aload_n 0, 1) := by decide +kernel
theorem dX0_ruled_26 : decode cX0_ruled 26 = .ok (.getfield 22, 3) := by decide +kernel
theorem dX0_ruled_29 : decode cX0_ruled 29 = .ok (.iload_n 2, 1) := by decide +kernel
theorem dX0_ruled_30 : decode cX0_ruled 30 = .ok (.iaload, 1) := by decide +kernel
theorem dX0_ruled_31 : decode cX0_ruled 31 = .ok (.iastore, 1) := by decide +kernel
theorem dX0_ruled_32 : decode cX0_ruled 32 = .ok (.aload_n 0, 1) := by decide +kernel
theorem dX0_ruled_33 : decode cX0_ruled 33 = .ok (.getfield 12, 3) := by decide +kernel
theorem dX0_ruled_36 : decode cX0_ruled 36 = .ok (.getfield 35, 3) := by decide +kernel
theorem dX0_ruled_39 : decode cX0_ruled 39 = .ok (.bipush 20, 2) := by decide +kernel
theorem dX0_ruled_41 : decode cX0_ruled 41 = .ok (.aload_n 0, 1) := by decide +kernel
theorem dX0_ruled_42 : decode cX0_ruled 42 = .ok (.getfield 110, 3) := by decide +kernel
theorem dX0_ruled_45 : decode cX0_ruled 45 = .ok (.iastore, 1) := by decide +kernel
theorem dX0_ruled_46 : decode cX0_ruled 46 = .ok (.aload_n 0, 1) := by decide +kernel
theorem dX0_ruled_47 : decode cX0_ruled 47 = .ok (.getfield 12, 3) := by decide +kernel
theorem dX0_ruled_50 : decode cX0_ruled 50 = .ok (.getfield 35, 3) := by decide +kernel
theorem dX0_ruled_53 : decode cX0_ruled 53 = .ok (.bipush 24, 2) := by decide +kernel
theorem dX0_ruled_55 : decode cX0_ruled 55 = .ok (.aload_n 0, 1) := by decide +kernel
theorem dX0_ruled_56 : decode cX0_ruled 56 = .ok (.getfield 116, 3) := by decide +kernel
theorem dX0_ruled_59 : decode cX0_ruled 59 = .ok (.aload_n 0, 1) := by decide +kernel
theorem dX0_ruled_60 : decode cX0_ruled 60 = .ok (.getfield 25, 3) := by decide +kernel
theorem dX0_ruled_63 : decode cX0_ruled 63 = .ok (.getfield 113, 3) := by decide +kernel
theorem dX0_ruled_66 : decode cX0_ruled 66 = .ok (.iload_n 2, 1) := by decide +kernel
theorem dX0_ruled_67 : decode cX0_ruled 67 = .ok (.iaload, 1) := by decide +kernel
theorem dX0_ruled_68 : decode cX0_ruled 68 = .ok (.isub, 1) := by decide +kernel
theorem dX0_ruled_69 : decode cX0_ruled 69 = .ok (.iastore, 1) := by decide +kernel
theorem dX0_ruled_70 : decode cX0_ruled 70 = .ok (.aload_n 0, 1) := by decide +kernel
theorem dX0_ruled_71 : decode cX0_ruled 71 = .ok (.getfield 12, 3) := by decide +kernel
theorem dX0_ruled_74 : decode cX0_ruled 74 = .ok (.getfield 35, 3) := by decide +kernel
theorem dX0_ruled_77 : decode cX0_ruled 77 = .ok (.iconst 0, 1) := by decide +kernel
theorem dX0_ruled_78 : decode cX0_ruled 78 = .ok (.aload_n 0, 1) := by decide +kernel
theorem dX0_ruled_79 : decode cX0_ruled 79 = .ok (.getfield 18, 3) := by decide +kernel
theorem dX0_ruled_82 : decode cX0_ruled 82 = .ok (.iload_n 2, 1) := by decide +kernel
theorem dX0_ruled_83 : decode cX0_ruled 83 = .ok (.iaload, 1) := by decide +kernel
theorem dX0_ruled_84 : decode cX0_ruled 84 = .ok (.iastore, 1) := by decide +kernel
theorem dX0_ruled_85 : decode cX0_ruled 85 = .ok (.aload_n 0, 1) := by decide +kernel
theorem dX0_ruled_86 : decode cX0_ruled 86 = .ok (.getfield 12, 3) := by decide +kernel
theorem dX0_ruled_89 : decode cX0_ruled 89 = .ok (.getfield 35, 3) := by decide +kernel
theorem dX0_ruled_92 : decode cX0_ruled 92 = .ok (.bipush 21, 2) := by decide +kernel
theorem dX0_ruled_94 : decode cX0_ruled 94 = .ok (.aload_n 0, 1) := by decide +kernel
theorem dX0_ruled_95 : decode cX0_ruled 95 = .ok (.getfield 69, 3) := by decide +kernel
theorem dX0_ruled_98 : decode cX0_ruled 98 = .ok (.iastore, 1) := by decide +kernel
theorem dX0_ruled_99 : decode cX0_ruled 99 = .ok (.aload_n 0, 1) := by decide +kernel
theorem dX0_ruled_100 : decode cX0_ruled 100 = .ok (.getfield 12, 3) := by decide +kernel
theorem dX0_ruled_103 : decode cX0_ruled 103 = .ok (.aload_n 0, 1) := by decide +kernel
theorem dX0_ruled_104 : decode cX0_ruled 104 = .ok (.getfield 25, 3) := by decide +kernel
theorem dX0_ruled_107 : decode cX0_ruled 107 = .ok (.getfield 119, 3) := by decide +kernel
theorem dX0_ruled_110 : decode cX0_ruled 110 = .ok (.invokevirtual 43, 3) := by decide +kernel
theorem dX0_ruled_113 : decode cX0_ruled 113 = .ok (.ireturn, 1) := by decide +kernel
theorem dX0_rawHeight_0 : decode cX0_rawHeight 0 = .ok (.aload_n 0, 1) := by decide +kernel
theorem dX0_rawHeight_1 : decode cX0_rawHeight 1 = .ok (.getfield 25, 3) := by decide +kernel
theorem dX0_rawHeight_4 : decode cX0_rawHeight 4 = .ok (.getfield 122, 3) := by decide +kernel
theorem dX0_rawHeight_7 : decode cX0_rawHeight 7 = .ok (.ifCond .gt 6, 3) := by decide +kernel
theorem dX0_rawHeight_10 : decode cX0_rawHeight 10 = .ok (.bipush 40, 2) := by decide +kernel
theorem dX0_rawHeight_12 : decode cX0_rawHeight 12 = .ok (.ireturn, 1) := by decide +kernel
theorem dX0_rawHeight_13 : decode cX0_rawHeight 13 = .ok (.iconst 0, 1) := by decide +kernel
theorem dX0_rawHeight_14 : decode cX0_rawHeight 14 = .ok (.istore_n 3, 1) := by decide +kernel
theorem dX0_rawHeight_15 : decode cX0_rawHeight 15 = .ok (.iconst 0, 1) := by decide +kernel
theorem dX0_rawHeight_16 : decode cX0_rawHeight 16 = .ok (.istore 4, 2) := by decide +kernel
theorem dX0_rawHeight_18 : decode cX0_rawHeight 18 = .ok (.iload 4, 2) := by decide +kernel
theorem dX0_rawHeight_20 : decode cX0_rawHeight 20 = .ok (.aload_n 0, 1) := by decide +kernel
theorem dX0_rawHeight_21 : decode cX0_rawHeight 21 = .ok (.getfield 25, 3) := by decide +kernel
theorem dX0_rawHeight_24 : decode cX0_rawHeight 24 = .ok (.getfield 78, 3) := by decide +kernel
theorem dX0_rawHeight_27 : decode cX0_rawHeight 27 = .ok (.if_icmp .ge 54, 3) := by decide +kernel
theorem dX0_rawHeight_30 : decode cX0_rawHeight 30 = .ok (.aload_n 1, 1) := by decide +kernel
theorem dX0_rawHeight_31 : decode cX0_rawHeight 31 = .ok (.getfield 81, 3) := by decide +kernel
theorem dX0_rawHeight_34 : decode cX0_rawHeight 34 = .ok (.iload 4, 2) := by decide +kernel
theorem dX0_rawHeight_36 : decode cX0_rawHeight 36 = .ok (.iaload, 1) := by decide +kernel
theorem dX0_rawHeight_37 : decode cX0_rawHeight 37 = .ok (.istore 5, 2) := by decide +kernel
theorem dX0_rawHeight_39 : decode cX0_rawHeight 39 = .ok (.iload 5, 2) := by decide +kernel
theorem dX0_rawHeight_41 : decode cX0_rawHeight 41 = .ok (.iload_n 3, 1) := by decide +kernel
theorem dX0_rawHeight_42 : decode cX0_rawHeight 42 = .ok (.if_icmp .le 33, 3) := by decide +kernel
theorem dX0_rawHeight_45 : decode cX0_rawHeight 45 = .ok (.iload_n 2, 1) := by decide +kernel
theorem dX0_rawHeight_46 : decode cX0_rawHeight 46 = .ok (.iload 4, 2) := by decide +kernel
theorem dX0_rawHeight_48 : decode cX0_rawHeight 48 = .ok (.ishr, 1) := by decide +kernel
theorem dX0_rawHeight_49 : decode cX0_rawHeight 49 = .ok (.iconst 1, 1) := by decide +kernel
theorem dX0_rawHeight_50 : decode cX0_rawHeight 50 = .ok (.iand, 1) := by decide +kernel
theorem dX0_rawHeight_51 : decode cX0_rawHeight 51 = .ok (.ifCond .ne 24, 3) := by decide +kernel
theorem dX0_rawHeight_54 : decode cX0_rawHeight 54 = .ok (.aload_n 0, 1) := by decide +kernel
theorem dX0_rawHeight_55 : decode cX0_rawHeight 55 = .ok (.aload_n 1, 1) := by decide +kernel
theorem dX0_rawHeight_56 : decode cX0_rawHeight 56 = .ok (.iload 5, 2) := by decide +kernel
theorem dX0_rawHeight_58 : decode cX0_rawHeight 58 = .ok (.iload_n 2, 1) := by decide +kernel
theorem dX0_rawHeight_59 : decode cX0_rawHeight 59 = .ok (.invokevirtual 125, 3) := by decide +kernel
theorem dX0_rawHeight_62 : decode cX0_rawHeight 62 = .ok (.aload_n 0, 1) := by decide +kernel
theorem dX0_rawHeight_63 : decode cX0_rawHeight 63 = .ok (.getfield 25, 3) := by decide +kernel
theorem dX0_rawHeight_66 : decode cX0_rawHeight 66 = .ok (.getfield 122, 3) := by decide +kernel
theorem dX0_rawHeight_69 : decode cX0_rawHeight 69 = .ok (.if_icmp .lt 6, 3) := by decide +kernel
theorem dX0_rawHeight_72 : decode cX0_rawHeight 72 = .ok (.iload 5, 2) := by decide +kernel
theorem dX0_rawHeight_74 : decode cX0_rawHeight 74 = .ok (.istore_n 3, 1) := by decide +kernel
theorem dX0_rawHeight_75 : decode cX0_rawHeight 75 = .ok (.iinc 4 1, 3) := by decide +kernel
theorem dX0_rawHeight_78 : decode cX0_rawHeight 78 = .ok (.goto (-60), 3) := by decide +kernel
theorem dX0_rawHeight_81 : decode cX0_rawHeight 81 = .ok (.iload_n 3, 1) := by decide +kernel
theorem dX0_rawHeight_82 : decode cX0_rawHeight 82 = .ok (.ireturn, 1) := by decide +kernel
theorem dX0_pullFrom_0 : decode cX0_pullFrom 0 = .ok (.iconst 0, 1) := by decide +kernel
theorem dX0_pullFrom_1 : decode cX0_pullFrom 1 = .ok (.istore 4, 2) := by decide +kernel
theorem dX0_pullFrom_3 : decode cX0_pullFrom 3 = .ok (.iconst 0, 1) := by decide +kernel
theorem dX0_pullFrom_4 : decode cX0_pullFrom 4 = .ok (.istore 5, 2) := by decide +kernel
theorem dX0_pullFrom_6 : decode cX0_pullFrom 6 = .ok (.iload 5, 2) := by decide +kernel
theorem dX0_pullFrom_8 : decode cX0_pullFrom 8 = .ok (.aload_n 0, 1) := by decide +kernel
theorem dX0_pullFrom_9 : decode cX0_pullFrom 9 = .ok (.getfield 25, 3) := by decide +kernel
theorem dX0_pullFrom_12 : decode cX0_pullFrom 12 = .ok (.getfield 78, 3) := by decide +kernel
theorem dX0_pullFrom_15 : decode cX0_pullFrom 15 = .ok (.if_icmp .ge 41, 3) := by decide +kernel
theorem dX0_pullFrom_18 : decode cX0_pullFrom 18 = .ok (.iload_n 3, 1) := by decide +kernel
theorem dX0_pullFrom_19 : decode cX0_pullFrom 19 = .ok (.iload 5, 2) := by decide +kernel
theorem dX0_pullFrom_21 : decode cX0_pullFrom 21 = .ok (.ishr, 1) := by decide +kernel
theorem dX0_pullFrom_22 : decode cX0_pullFrom 22 = .ok (.iconst 1, 1) := by decide +kernel
theorem dX0_pullFrom_23 : decode cX0_pullFrom 23 = .ok (.iand, 1) := by decide +kernel
theorem dX0_pullFrom_24 : decode cX0_pullFrom 24 = .ok (.ifCond .ne 26, 3) := by decide +kernel
theorem dX0_pullFrom_27 : decode cX0_pullFrom 27 = .ok (.aload_n 1, 1) := by decide +kernel
theorem dX0_pullFrom_28 : decode cX0_pullFrom 28 = .ok (.getfield 81, 3) := by decide +kernel
theorem dX0_pullFrom_31 : decode cX0_pullFrom 31 = .ok (.iload 5, 2) := by decide +kernel
theorem dX0_pullFrom_33 : decode cX0_pullFrom 33 = .ok (.iaload, 1) := by decide +kernel
theorem dX0_pullFrom_34 : decode cX0_pullFrom 34 = .ok (.iload_n 2, 1) := by decide +kernel
theorem dX0_pullFrom_35 : decode cX0_pullFrom 35 = .ok (.if_icmp .lt 15, 3) := by decide +kernel
theorem dX0_pullFrom_38 : decode cX0_pullFrom 38 = .ok (.iload 4, 2) := by decide +kernel
theorem dX0_pullFrom_40 : decode cX0_pullFrom 40 = .ok (.aload_n 0, 1) := by decide +kernel
theorem dX0_pullFrom_41 : decode cX0_pullFrom 41 = .ok (.getfield 22, 3) := by decide +kernel
theorem dX0_pullFrom_44 : decode cX0_pullFrom 44 = .ok (.iload 5, 2) := by decide +kernel
theorem dX0_pullFrom_46 : decode cX0_pullFrom 46 = .ok (.iaload, 1) := by decide +kernel
theorem dX0_pullFrom_47 : decode cX0_pullFrom 47 = .ok (.iadd, 1) := by decide +kernel
theorem dX0_pullFrom_48 : decode cX0_pullFrom 48 = .ok (.istore 4, 2) := by decide +kernel
theorem dX0_pullFrom_50 : decode cX0_pullFrom 50 = .ok (.iinc 5 1, 3) := by decide +kernel
theorem dX0_pullFrom_53 : decode cX0_pullFrom 53 = .ok (.goto (-47), 3) := by decide +kernel
theorem dX0_pullFrom_56 : decode cX0_pullFrom 56 = .ok (.iload 4, 2) := by decide +kernel
theorem dX0_pullFrom_58 : decode cX0_pullFrom 58 = .ok (.ireturn, 1) := by decide +kernel
theorem dX1_init_0 : decode cX1_init 0 = .ok (.aload_n 0, 1) := by decide +kernel
theorem dX1_init_1 : decode cX1_init 1 = .ok (.invokespecial 1, 3) := by decide +kernel
theorem dX1_init_4 : decode cX1_init 4 = .ok (.aload_n 0, 1) := by decide +kernel
theorem dX1_init_5 : decode cX1_init 5 = .ok (.iconst 0, 1) := by decide +kernel
theorem dX1_init_6 : decode cX1_init 6 = .ok (.newarray .byte, 2) := by decide +kernel
theorem dX1_init_8 : decode cX1_init 8 = .ok (.putfield 7, 3) := by decide +kernel
theorem dX1_init_11 : decode cX1_init 11 = .ok (.aload_n 0, 1) := by decide +kernel
theorem dX1_init_12 : decode cX1_init 12 = .ok (.bipush 25, 2) := by decide +kernel
theorem dX1_init_14 : decode cX1_init 14 = .ok (.newarray .long, 2) := by decide +kernel
theorem dX1_init_16 : decode cX1_init 16 = .ok (.putfield 15, 3) := by decide +kernel
theorem dX1_init_19 : decode cX1_init 19 = .ok (.iconst 0, 1) := by decide +kernel
theorem dX1_init_20 : decode cX1_init 20 = .ok (.istore_n 1, 1) := by decide +kernel
theorem dX1_init_21 : decode cX1_init 21 = .ok (.iconst 0, 1) := by decide +kernel
theorem dX1_init_22 : decode cX1_init 22 = .ok (.istore_n 2, 1) := by decide +kernel
theorem dX1_init_23 : decode cX1_init 23 = .ok (.iload_n 2, 1) := by decide +kernel
theorem dX1_init_24 : decode cX1_init 24 = .ok (.ldc 19, 2) := by decide +kernel
theorem dX1_init_26 : decode cX1_init 26 = .ok (.invokevirtual 21, 3) := by decide +kernel
theorem dX1_init_29 : decode cX1_init 29 = .ok (.if_icmp .ge 50, 3) := by decide +kernel
theorem dX1_init_32 : decode cX1_init 32 = .ok (.ldc 19, 2) := by decide +kernel
theorem dX1_init_34 : decode cX1_init 34 = .ok (.iload_n 2, 1) := by decide +kernel
theorem dX1_init_35 : decode cX1_init 35 = .ok (.invokevirtual 27, 3) := by decide +kernel
theorem dX1_init_38 : decode cX1_init 38 = .ok (.istore_n 3, 1) := by decide +kernel
theorem dX1_init_39 : decode cX1_init 39 = .ok (.iload_n 3, 1) := by decide +kernel
theorem dX1_init_40 : decode cX1_init 40 = .ok (.bipush 32, 2) := by decide +kernel
theorem dX1_init_42 : decode cX1_init 42 = .ok (.if_icmp .ne 9, 3) := by decide +kernel
theorem dX1_init_45 : decode cX1_init 45 = .ok (.iinc 1 1, 3) := by decide +kernel
theorem dX1_init_48 : decode cX1_init 48 = .ok (.goto 25, 3) := by decide +kernel
theorem dX1_init_51 : decode cX1_init 51 = .ok (.iload_n 1, 1) := by decide +kernel
theorem dX1_init_52 : decode cX1_init 52 = .ok (.bipush 25, 2) := by decide +kernel
theorem dX1_init_54 : decode cX1_init 54 = .ok (.if_icmp .ge 19, 3) := by decide +kernel
theorem dX1_init_57 : decode cX1_init 57 = .ok (.aload_n 0, 1) := by decide +kernel
theorem dX1_init_58 : decode cX1_init 58 = .ok (.getfield 15, 3) := by decide +kernel
theorem dX1_init_61 : decode cX1_init 61 = .ok (.iload_n 1, 1) := by decide +kernel
theorem dX1_init_62 : decode cX1_init 62 = .ok (.aload_n 0, 1) := by decide +kernel
theorem dX1_init_63 : decode cX1_init 63 = .ok (.getfield 15, 3) := by decide +kernel
theorem dX1_init_66 : decode cX1_init 66 = .ok (.iload_n 1, 1) := by decide +kernel
theorem dX1_init_67 : decode cX1_init 67 = .ok (.laload, 1) := by decide +kernel
theorem dX1_init_68 : decode cX1_init 68 = .ok (.iload_n 3, 1) := by decide +kernel
theorem dX1_init_69 : decode cX1_init 69 = .ok (.invokestatic 31, 3) := by decide +kernel
theorem dX1_init_72 : decode cX1_init 72 = .ok (.lastore, 1) := by decide +kernel
theorem dX1_init_73 : decode cX1_init 73 = .ok (.iinc 2 1, 3) := by decide +kernel
theorem dX1_init_76 : decode cX1_init 76 = .ok (.goto (-53), 3) := by decide +kernel
theorem dX1_init_79 : decode cX1_init 79 = .ok (.return_, 1) := by decide +kernel
theorem dX1_open_0 : decode cX1_open 0 = .ok (.aload_n 0, 1) := by decide +kernel
theorem dX1_open_1 : decode cX1_open 1 = .ok (.aload_n 1, 1) := by decide +kernel
theorem dX1_open_2 : decode cX1_open 2 = .ok (.putfield 7, 3) := by decide +kernel
theorem dX1_open_5 : decode cX1_open 5 = .ok (.aload_n 0, 1) := by decide +kernel
theorem dX1_open_6 : decode cX1_open 6 = .ok (.iload_n 2, 1) := by decide +kernel
theorem dX1_open_7 : decode cX1_open 7 = .ok (.iconst 0, 1) := by decide +kernel
theorem dX1_open_8 : decode cX1_open 8 = .ok (.aload_n 1, 1) := by decide +kernel
theorem dX1_open_9 : decode cX1_open 9 = .ok (.arraylength, 1) := by decide +kernel
theorem dX1_open_10 : decode cX1_open 10 = .ok (.invokestatic 35, 3) := by decide +kernel
theorem dX1_open_13 : decode cX1_open 13 = .ok (.putfield 41, 3) := by decide +kernel
theorem dX1_open_16 : decode cX1_open 16 = .ok (.aload_n 0, 1) := by decide +kernel
theorem dX1_open_17 : decode cX1_open 17 = .ok (.iconst 0, 1) := by decide +kernel
theorem dX1_open_18 : decode cX1_open 18 = .ok (.putfield 44, 3) := by decide +kernel
theorem dX1_open_21 : decode cX1_open 21 = .ok (.aload_n 0, 1) := by decide +kernel
theorem dX1_open_22 : decode cX1_open 22 = .ok (.invokevirtual 47, 3) := by decide +kernel
theorem dX1_open_25 : decode cX1_open 25 = .ok (.return_, 1) := by decide +kernel
theorem dX1_close_0 : decode cX1_close 0 = .ok (.aload_n 0, 1) := by decide +kernel
theorem dX1_close_1 : decode cX1_close 1 = .ok (.aload_n 0, 1) := by decide +kernel
theorem dX1_close_2 : decode cX1_close 2 = .ok (.getfield 41, 3) := by decide +kernel
theorem dX1_close_5 : decode cX1_close 5 = .ok (.putfield 44, 3) := by decide +kernel
theorem dX1_close_8 : decode cX1_close 8 = .ok (.aload_n 0, 1) := by decide +kernel
theorem dX1_close_9 : decode cX1_close 9 = .ok (.aload_n 0, 1) := by decide +kernel
theorem dX1_close_10 : decode cX1_close 10 = .ok (.getfield 41, 3) := by decide +kernel
theorem dX1_close_13 : decode cX1_close 13 = .ok (.putfield 50, 3) := by decide +kernel
theorem dX1_close_16 : decode cX1_close 16 = .ok (.aload_n 0, 1) := by decide +kernel
theorem dX1_close_17 : decode cX1_close 17 = .ok (.bipush 35, 2) := by decide +kernel
theorem dX1_close_19 : decode cX1_close 19 = .ok (.putfield 53, 3) := by decide +kernel
theorem dX1_close_22 : decode cX1_close 22 = .ok (.return_, 1) := by decide +kernel
theorem dX1_step_0 : decode cX1_step 0 = .ok (.aload_n 0, 1) := by decide +kernel
theorem dX1_step_1 : decode cX1_step 1 = .ok (.getfield 44, 3) := by decide +kernel
theorem dX1_step_4 : decode cX1_step 4 = .ok (.aload_n 0, 1) := by decide +kernel
theorem dX1_step_5 : decode cX1_step 5 = .ok (.getfield 41, 3) := by decide +kernel
theorem dX1_step_8 : decode cX1_step 8 = .ok (.if_icmp .ge 44, 3) := by decide +kernel
theorem dX1_step_11 : decode cX1_step 11 = .ok (.aload_n 0, 1) := by decide +kernel
theorem dX1_step_12 : decode cX1_step 12 = .ok (.getfield 7, 3) := by decide +kernel
theorem dX1_step_15 : decode cX1_step 15 = .ok (.aload_n 0, 1) := by decide +kernel
theorem dX1_step_16 : decode cX1_step 16 = .ok (.getfield 44, 3) := by decide +kernel
theorem dX1_step_19 : decode cX1_step 19 = .ok (.baload, 1) := by decide +kernel
theorem dX1_step_20 : decode cX1_step 20 = .ok (.bipush 32, 2) := by decide +kernel
theorem dX1_step_22 : decode cX1_step 22 = .ok (.if_icmp .eq 17, 3) := by decide +kernel
theorem dX1_step_25 : decode cX1_step 25 = .ok (.aload_n 0, 1) := by decide +kernel
theorem dX1_step_26 : decode cX1_step 26 = .ok (.getfield 7, 3) := by decide +kernel
theorem dX1_step_29 : decode cX1_step 29 = .ok (.aload_n 0, 1) := by decide +kernel
theorem dX1_step_30 : decode cX1_step 30 = .ok (.getfield 44, 3) := by decide +kernel
theorem dX1_step_33 : decode cX1_step 33 = .ok (.baload, 1) := by decide +kernel
theorem dX1_step_34 : decode cX1_step 34 = .ok (.bipush 10, 2) := by decide +kernel
theorem dX1_step_36 : decode cX1_step 36 = .ok (.if_icmp .ne 16, 3) := by decide +kernel
theorem dX1_step_39 : decode cX1_step 39 = .ok (.aload_n 0, 1) := by decide +kernel
theorem dX1_step_40 : decode cX1_step 40 = .ok (.dup, 1) := by decide +kernel
theorem dX1_step_41 : decode cX1_step 41 = .ok (.getfield 44, 3) := by decide +kernel
theorem dX1_step_44 : decode cX1_step 44 = .ok (.iconst 1, 1) := by decide +kernel
theorem dX1_step_45 : decode cX1_step 45 = .ok (.iadd, 1) := by decide +kernel
theorem dX1_step_46 : decode cX1_step 46 = .ok (.putfield 44, 3) := by decide +kernel
theorem dX1_step_49 : decode cX1_step 49 = .ok (.goto (-49), 3) := by decide +kernel
theorem dX1_step_52 : decode cX1_step 52 = .ok (.aload_n 0, 1) := by decide +kernel
theorem dX1_step_53 : decode cX1_step 53 = .ok (.aload_n 0, 1) := by decide +kernel
theorem dX1_step_54 : decode cX1_step 54 = .ok (.getfield 44, 3) := by decide +kernel
theorem dX1_step_57 : decode cX1_step 57 = .ok (.putfield 50, 3) := by decide +kernel
theorem dX1_step_60 : decode cX1_step 60 = .ok (.aload_n 0, 1) := by decide +kernel
theorem dX1_step_61 : decode cX1_step 61 = .ok (.getfield 44, 3) := by decide +kernel
theorem dX1_step_64 : decode cX1_step 64 = .ok (.aload_n 0, 1) := by decide +kernel
theorem dX1_step_65 : decode cX1_step 65 = .ok (.getfield 41, 3) := by decide +kernel
theorem dX1_step_68 : decode cX1_step 68 = .ok (.if_icmp .lt 12, 3) := by decide +kernel
theorem dX1_step_71 : decode cX1_step 71 = .ok (.aload_n 0, 1) := by decide +kernel
theorem dX1_step_72 : decode cX1_step 72 = .ok (.bipush 35, 2) := by decide +kernel
theorem dX1_step_74 : decode cX1_step 74 = .ok (.putfield 53, 3) := by decide +kernel
theorem dX1_step_77 : decode cX1_step 77 = .ok (.goto 81, 3) := by decide +kernel
theorem dX1_step_80 : decode cX1_step 80 = .ok (.aload_n 0, 1) := by decide +kernel
theorem dX1_step_81 : decode cX1_step 81 = .ok (.getfield 7, 3) := by decide +kernel
theorem dX1_step_84 : decode cX1_step 84 = .ok (.aload_n 0, 1) := by decide +kernel
theorem dX1_step_85 : decode cX1_step 85 = .ok (.getfield 44, 3) := by decide +kernel
theorem dX1_step_88 : decode cX1_step 88 = .ok (.baload, 1) := by decide +kernel
theorem dX1_step_89 : decode cX1_step 89 = .ok (.invokestatic 56, 3) := by decide +kernel
theorem dX1_step_92 : decode cX1_step 92 = .ok (.ifCond .eq 14, 3) := by decide +kernel
theorem dX1_step_95 : decode cX1_step 95 = .ok (.aload_n 0, 1) := by decide +kernel
theorem dX1_step_96 : decode cX1_step 96 = .ok (.aload_n 0, 1) := by decide +kernel
theorem dX1_step_97 : decode cX1_step 97 = .ok (.invokevirtual 60, 3) := by decide +kernel
theorem dX1_step_100 : decode cX1_step 100 = .ok (.putfield 53, 3) := by decide +kernel
theorem dX1_step_103 : decode cX1_step 103 = .ok (.goto 55, 3) := by decide +kernel
theorem dX1_step_106 : decode cX1_step 106 = .ok (.aload_n 0, 1) := by decide +kernel
theorem dX1_step_107 : decode cX1_step 107 = .ok (.getfield 7, 3) := by decide +kernel
theorem dX1_step_110 : decode cX1_step 110 = .ok (.aload_n 0, 1) := by decide +kernel
theorem dX1_step_111 : decode cX1_step 111 = .ok (.getfield 44, 3) := by decide +kernel
theorem dX1_step_114 : decode cX1_step 114 = .ok (.baload, 1) := by decide +kernel
theorem dX1_step_115 : decode cX1_step 115 = .ok (.invokestatic 63, 3) := by decide +kernel
theorem dX1_step_118 : decode cX1_step 118 = .ok (.ifCond .eq 14, 3) := by decide +kernel
theorem dX1_step_121 : decode cX1_step 121 = .ok (.aload_n 0, 1) := by decide +kernel
theorem dX1_step_122 : decode cX1_step 122 = .ok (.aload_n 0, 1) := by decide +kernel
theorem dX1_step_123 : decode cX1_step 123 = .ok (.invokevirtual 66, 3) := by decide +kernel
theorem dX1_step_126 : decode cX1_step 126 = .ok (.putfield 53, 3) := by decide +kernel
theorem dX1_step_129 : decode cX1_step 129 = .ok (.goto 29, 3) := by decide +kernel
theorem dX1_step_132 : decode cX1_step 132 = .ok (.aload_n 0, 1) := by decide +kernel
theorem dX1_step_133 : decode cX1_step 133 = .ok (.aload_n 0, 1) := by decide +kernel
theorem dX1_step_134 : decode cX1_step 134 = .ok (.getfield 7, 3) := by decide +kernel
theorem dX1_step_137 : decode cX1_step 137 = .ok (.aload_n 0, 1) := by decide +kernel
theorem dX1_step_138 : decode cX1_step 138 = .ok (.getfield 44, 3) := by decide +kernel
theorem dX1_step_141 : decode cX1_step 141 = .ok (.baload, 1) := by decide +kernel
theorem dX1_step_142 : decode cX1_step 142 = .ok (.invokestatic 69, 3) := by decide +kernel
theorem dX1_step_145 : decode cX1_step 145 = .ok (.putfield 53, 3) := by decide +kernel
theorem dX1_step_148 : decode cX1_step 148 = .ok (.aload_n 0, 1) := by decide +kernel
theorem dX1_step_149 : decode cX1_step 149 = .ok (.dup, 1) := by decide +kernel
theorem dX1_step_150 : decode cX1_step 150 = .ok (.getfield 44, 3) := by decide +kernel
theorem dX1_step_153 : decode cX1_step 153 = .ok (.iconst 1, 1) := by decide +kernel
theorem dX1_step_154 : decode cX1_step 154 = .ok (.iadd, 1) := by decide +kernel
theorem dX1_step_155 : decode cX1_step 155 = .ok (.putfield 44, 3) := by decide +kernel
theorem dX1_step_158 : decode cX1_step 158 = .ok (.return_, 1) := by decide +kernel
theorem dX1_stepWord_0 : decode cX1_stepWord 0 = .ok (.aload_n 0, 1) := by decide +kernel
theorem dX1_stepWord_1 : decode cX1_stepWord 1 = .ok (.lconst 0, 1) := by decide +kernel
theorem dX1_stepWord_2 : decode cX1_stepWord 2 = .ok (.putfield 73, 3) := by decide +kernel
theorem dX1_stepWord_5 : decode cX1_stepWord 5 = .ok (.aload_n 0, 1) := by decide +kernel
theorem dX1_stepWord_6 : decode cX1_stepWord 6 = .ok (.getfield 44, 3) := by decide +kernel
theorem dX1_stepWord_9 : decode cX1_stepWord 9 = .ok (.aload_n 0, 1) := by decide +kernel
theorem dX1_stepWord_10 : decode cX1_stepWord 10 = .ok (.getfield 41, 3) := by decide +kernel
theorem dX1_stepWord_13 : decode cX1_stepWord 13 = .ok (.if_icmp .ge 51, 3) := by decide +kernel
theorem dX1_stepWord_16 : decode cX1_stepWord 16 = .ok (.aload_n 0, 1) := by decide +kernel
theorem dX1_stepWord_17 : decode cX1_stepWord 17 = .ok (.getfield 7, 3) := by decide +kernel
theorem dX1_stepWord_20 : decode cX1_stepWord 20 = .ok (.aload_n 0, 1) := by decide +kernel
theorem dX1_stepWord_21 : decode cX1_stepWord 21 = .ok (.getfield 44, 3) := by decide +kernel
theorem dX1_stepWord_24 : decode cX1_stepWord 24 = .ok (.baload, 1) := by decide +kernel
theorem dX1_stepWord_25 : decode cX1_stepWord 25 = .ok (.invokestatic 56, 3) := by decide +kernel
theorem dX1_stepWord_28 : decode cX1_stepWord 28 = .ok (.ifCond .eq 36, 3) := by decide +kernel
theorem dX1_stepWord_31 : decode cX1_stepWord 31 = .ok (.aload_n 0, 1) := by decide +kernel
theorem dX1_stepWord_32 : decode cX1_stepWord 32 = .ok (.aload_n 0, 1) := by decide +kernel
theorem dX1_stepWord_33 : decode cX1_stepWord 33 = .ok (.getfield 73, 3) := by decide +kernel
theorem dX1_stepWord_36 : decode cX1_stepWord 36 = .ok (.aload_n 0, 1) := by decide +kernel
theorem dX1_stepWord_37 : decode cX1_stepWord 37 = .ok (.getfield 7, 3) := by decide +kernel
theorem dX1_stepWord_40 : decode cX1_stepWord 40 = .ok (.aload_n 0, 1) := by decide +kernel
theorem dX1_stepWord_41 : decode cX1_stepWord 41 = .ok (.getfield 44, 3) := by decide +kernel
theorem dX1_stepWord_44 : decode cX1_stepWord 44 = .ok (.baload, 1) := by decide +kernel
theorem dX1_stepWord_45 : decode cX1_stepWord 45 = .ok (.invokestatic 31, 3) := by decide +kernel
theorem dX1_stepWord_48 : decode cX1_stepWord 48 = .ok (.putfield 73, 3) := by decide +kernel
theorem dX1_stepWord_51 : decode cX1_stepWord 51 = .ok (.aload_n 0, 1) := by decide +kernel
theorem dX1_stepWord_52 : decode cX1_stepWord 52 = .ok (.dup, 1) := by decide +kernel
theorem dX1_stepWord_53 : decode cX1_stepWord 53 = .ok (.getfield 44, 3) := by decide +kernel
theorem dX1_stepWord_56 : decode cX1_stepWord 56 = .ok (.iconst 1, 1) := by decide +kernel
theorem dX1_stepWord_57 : decode cX1_stepWord 57 = .ok (.iadd, 1) := by decide +kernel
theorem dX1_stepWord_58 : decode cX1_stepWord 58 = .ok (.putfield 44, 3) := by decide +kernel
theorem dX1_stepWord_61 : decode cX1_stepWord 61 = .ok (.goto (-56), 3) := by decide +kernel
theorem dX1_stepWord_64 : decode cX1_stepWord 64 = .ok (.aload_n 0, 1) := by decide +kernel
theorem dX1_stepWord_65 : decode cX1_stepWord 65 = .ok (.getfield 44, 3) := by decide +kernel
theorem dX1_stepWord_68 : decode cX1_stepWord 68 = .ok (.aload_n 0, 1) := by decide +kernel
theorem dX1_stepWord_69 : decode cX1_stepWord 69 = .ok (.getfield 50, 3) := by decide +kernel
theorem dX1_stepWord_72 : decode cX1_stepWord 72 = .ok (.isub, 1) := by decide +kernel
theorem dX1_stepWord_73 : decode cX1_stepWord 73 = .ok (.bipush 8, 2) := by decide +kernel
theorem dX1_stepWord_75 : decode cX1_stepWord 75 = .ok (.if_icmp .le 6, 3) := by decide +kernel
theorem dX1_stepWord_78 : decode cX1_stepWord 78 = .ok (.bipush 36, 2) := by decide +kernel
theorem dX1_stepWord_80 : decode cX1_stepWord 80 = .ok (.ireturn, 1) := by decide +kernel
theorem dX1_stepWord_81 : decode cX1_stepWord 81 = .ok (.iconst 0, 1) := by decide +kernel
theorem dX1_stepWord_82 : decode cX1_stepWord 82 = .ok (.istore_n 1, 1) := by decide +kernel
theorem dX1_stepWord_83 : decode cX1_stepWord 83 = .ok (.iload_n 1, 1) := by decide +kernel
theorem dX1_stepWord_84 : decode cX1_stepWord 84 = .ok (.bipush 25, 2) := by decide +kernel
theorem dX1_stepWord_86 : decode cX1_stepWord 86 = .ok (.if_icmp .ge 25, 3) := by decide +kernel
theorem dX1_stepWord_89 : decode cX1_stepWord 89 = .ok (.aload_n 0, 1) := by decide +kernel
theorem dX1_stepWord_90 : decode cX1_stepWord 90 = .ok (.getfield 15, 3) := by decide +kernel
theorem dX1_stepWord_93 : decode cX1_stepWord 93 = .ok (.iload_n 1, 1) := by decide +kernel
theorem dX1_stepWord_94 : decode cX1_stepWord 94 = .ok (.laload, 1) := by decide +kernel
theorem dX1_stepWord_95 : decode cX1_stepWord 95 = .ok (.aload_n 0, 1) := by decide +kernel
theorem dX1_stepWord_96 : decode cX1_stepWord 96 = .ok (.getfield 73, 3) := by decide +kernel
theorem dX1_stepWord_99 : decode cX1_stepWord 99 = .ok (.lcmp, 1) := by decide +kernel
theorem dX1_stepWord_100 : decode cX1_stepWord 100 = .ok (.ifCond .ne 5, 3) := by decide +kernel
theorem dX1_stepWord_103 : decode cX1_stepWord 103 = .ok (.iload_n 1, 1) := by decide +kernel
theorem dX1_stepWord_104 : decode cX1_stepWord 104 = .ok (.ireturn, 1) := by decide +kernel
theorem dX1_stepWord_105 : decode cX1_stepWord 105 = .ok (.iinc 1 1, 3) := by decide +kernel
theorem dX1_stepWord_108 : decode cX1_stepWord 108 = .ok (.goto (-25), 3) := by decide +kernel
theorem dX1_stepWord_111 : decode cX1_stepWord 111 = .ok (.bipush 25, 2) := by decide +kernel
theorem dX1_stepWord_113 : decode cX1_stepWord 113 = .ok (.ireturn, 1) := by decide +kernel
theorem dX1_stepNumber_0 : decode cX1_stepNumber 0 = .ok (.aload_n 0, 1) := by decide +kernel
theorem dX1_stepNumber_1 : decode cX1_stepNumber 1 = .ok (.iconst 0, 1) := by decide +kernel
theorem dX1_stepNumber_2 : decode cX1_stepNumber 2 = .ok (.putfield 77, 3) := by decide +kernel
theorem dX1_stepNumber_5 : decode cX1_stepNumber 5 = .ok (.aload_n 0, 1) := by decide +kernel
theorem dX1_stepNumber_6 : decode cX1_stepNumber 6 = .ok (.getfield 44, 3) := by decide +kernel
theorem dX1_stepNumber_9 : decode cX1_stepNumber 9 = .ok (.aload_n 0, 1) := by decide +kernel
theorem dX1_stepNumber_10 : decode cX1_stepNumber 10 = .ok (.getfield 41, 3) := by decide +kernel
theorem dX1_stepNumber_13 : decode cX1_stepNumber 13 = .ok (.if_icmp .ge 55, 3) := by decide +kernel
theorem dX1_stepNumber_16 : decode cX1_stepNumber 16 = .ok (.aload_n 0, 1) := by decide +kernel
theorem dX1_stepNumber_17 : decode cX1_stepNumber 17 = .ok (.getfield 7, 3) := by decide +kernel
theorem dX1_stepNumber_20 : decode cX1_stepNumber 20 = .ok (.aload_n 0, 1) := by decide +kernel
theorem dX1_stepNumber_21 : decode cX1_stepNumber 21 = .ok (.getfield 44, 3) := by decide +kernel
theorem dX1_stepNumber_24 : decode cX1_stepNumber 24 = .ok (.baload, 1) := by decide +kernel
theorem dX1_stepNumber_25 : decode cX1_stepNumber 25 = .ok (.invokestatic 63, 3) := by decide +kernel
theorem dX1_stepNumber_28 : decode cX1_stepNumber 28 = .ok (.ifCond .eq 40, 3) := by decide +kernel
theorem dX1_stepNumber_31 : decode cX1_stepNumber 31 = .ok (.aload_n 0, 1) := by decide +kernel
theorem dX1_stepNumber_32 : decode cX1_stepNumber 32 = .ok (.aload_n 0, 1) := by decide +kernel
theorem dX1_stepNumber_33 : decode cX1_stepNumber 33 = .ok (.getfield 77, 3) := by decide +kernel
theorem dX1_stepNumber_36 : decode cX1_stepNumber 36 = .ok (.bipush 10, 2) := by decide +kernel
theorem dX1_stepNumber_38 : decode cX1_stepNumber 38 = .ok (.imul, 1) := by decide +kernel
theorem dX1_stepNumber_39 : decode cX1_stepNumber 39 = .ok (.aload_n 0, 1) := by decide +kernel
theorem dX1_stepNumber_40 : decode cX1_stepNumber 40 = .ok (.getfield 7, 3) := by decide +kernel
theorem dX1_stepNumber_43 : decode cX1_stepNumber 43 = .ok (.aload_n 0, 1) := by decide +kernel
theorem dX1_stepNumber_44 : decode cX1_stepNumber 44 = .ok (.getfield 44, 3) := by decide +kernel
theorem dX1_stepNumber_47 : decode cX1_stepNumber 47 = .ok (.baload, 1) := by decide +kernel
theorem dX1_stepNumber_48 : decode cX1_stepNumber 48 = .ok (.iadd, 1) := by decide +kernel
theorem dX1_stepNumber_49 : decode cX1_stepNumber 49 = .ok (.bipush 48, 2) := by decide +kernel
theorem dX1_stepNumber_51 : decode cX1_stepNumber 51 = .ok (.isub, 1) := by decide +kernel
theorem dX1_stepNumber_52 : decode cX1_stepNumber 52 = .ok (.putfield 77, 3) := by decide +kernel
theorem dX1_stepNumber_55 : decode cX1_stepNumber 55 = .ok (.aload_n 0, 1) := by decide +kernel
theorem dX1_stepNumber_56 : decode cX1_stepNumber 56 = .ok (.dup, 1) := by decide +kernel
theorem dX1_stepNumber_57 : decode cX1_stepNumber 57 = .ok (.getfield 44, 3) := by decide +kernel
theorem dX1_stepNumber_60 : decode cX1_stepNumber 60 = .ok (.iconst 1, 1) := by decide +kernel
theorem dX1_stepNumber_61 : decode cX1_stepNumber 61 = .ok (.iadd, 1) := by decide +kernel
theorem dX1_stepNumber_62 : decode cX1_stepNumber 62 = .ok (.putfield 44, 3) := by decide +kernel
theorem dX1_stepNumber_65 : decode cX1_stepNumber 65 = .ok (.goto (-60), 3) := by decide +kernel
theorem dX1_stepNumber_68 : decode cX1_stepNumber 68 = .ok (.aload_n 0, 1) := by decide +kernel
theorem dX1_stepNumber_69 : decode cX1_stepNumber 69 = .ok (.getfield 44, 3) := by decide +kernel
theorem dX1_stepNumber_72 : decode cX1_stepNumber 72 = .ok (.aload_n 0, 1) := by decide +kernel
theorem dX1_stepNumber_73 : decode cX1_stepNumber 73 = .ok (.getfield 50, 3) := by decide +kernel
theorem dX1_stepNumber_76 : decode cX1_stepNumber 76 = .ok (.isub, 1) := by decide +kernel
theorem dX1_stepNumber_77 : decode cX1_stepNumber 77 = .ok (.iconst 4, 1) := by decide +kernel
theorem dX1_stepNumber_78 : decode cX1_stepNumber 78 = .ok (.if_icmp .le 8, 3) := by decide +kernel
theorem dX1_stepNumber_81 : decode cX1_stepNumber 81 = .ok (.bipush 36, 2) := by decide +kernel
theorem dX1_stepNumber_83 : decode cX1_stepNumber 83 = .ok (.goto 5, 3) := by decide +kernel
theorem dX1_stepNumber_86 : decode cX1_stepNumber 86 = .ok (.bipush 26, 2) := by decide +kernel
theorem dX1_stepNumber_88 : decode cX1_stepNumber 88 = .ok (.ireturn, 1) := by decide +kernel
theorem dX1_withLetter_0 : decode cX1_withLetter 0 = .ok (.lload_n 0, 1) := by decide +kernel
theorem dX1_withLetter_1 : decode cX1_withLetter 1 = .ok (.iconst 5, 1) := by decide +kernel
theorem dX1_withLetter_2 : decode cX1_withLetter 2 = .ok (.lshl, 1) := by decide +kernel
theorem dX1_withLetter_3 : decode cX1_withLetter 3 = .ok (.iload_n 2, 1) := by decide +kernel
theorem dX1_withLetter_4 : decode cX1_withLetter 4 = .ok (.bipush 97, 2) := by decide +kernel
theorem dX1_withLetter_6 : decode cX1_withLetter 6 = .ok (.isub, 1) := by decide +kernel
theorem dX1_withLetter_7 : decode cX1_withLetter 7 = .ok (.iconst 1, 1) := by decide +kernel
theorem dX1_withLetter_8 : decode cX1_withLetter 8 = .ok (.iadd, 1) := by decide +kernel
theorem dX1_withLetter_9 : decode cX1_withLetter 9 = .ok (.i2l, 1) := by decide +kernel
theorem dX1_withLetter_10 : decode cX1_withLetter 10 = .ok (.lor, 1) := by decide +kernel
theorem dX1_withLetter_11 : decode cX1_withLetter 11 = .ok (.lreturn, 1) := by decide +kernel
theorem dX1_isLetter_0 : decode cX1_isLetter 0 = .ok (.iload_n 0, 1) := by decide +kernel
theorem dX1_isLetter_1 : decode cX1_isLetter 1 = .ok (.bipush 97, 2) := by decide +kernel
theorem dX1_isLetter_3 : decode cX1_isLetter 3 = .ok (.if_icmp .lt 13, 3) := by decide +kernel
theorem dX1_isLetter_6 : decode cX1_isLetter 6 = .ok (.iload_n 0, 1) := by decide +kernel
theorem dX1_isLetter_7 : decode cX1_isLetter 7 = .ok (.bipush 122, 2) := by decide +kernel
theorem dX1_isLetter_9 : decode cX1_isLetter 9 = .ok (.if_icmp .gt 7, 3) := by decide +kernel
theorem dX1_isLetter_12 : decode cX1_isLetter 12 = .ok (.iconst 1, 1) := by decide +kernel
theorem dX1_isLetter_13 : decode cX1_isLetter 13 = .ok (.goto 4, 3) := by decide +kernel
theorem dX1_isLetter_16 : decode cX1_isLetter 16 = .ok (.iconst 0, 1) := by decide +kernel
theorem dX1_isLetter_17 : decode cX1_isLetter 17 = .ok (.ireturn, 1) := by decide +kernel
theorem dX1_isDigit_0 : decode cX1_isDigit 0 = .ok (.iload_n 0, 1) := by decide +kernel
theorem dX1_isDigit_1 : decode cX1_isDigit 1 = .ok (.bipush 48, 2) := by decide +kernel
theorem dX1_isDigit_3 : decode cX1_isDigit 3 = .ok (.if_icmp .lt 13, 3) := by decide +kernel
theorem dX1_isDigit_6 : decode cX1_isDigit 6 = .ok (.iload_n 0, 1) := by decide +kernel
theorem dX1_isDigit_7 : decode cX1_isDigit 7 = .ok (.bipush 57, 2) := by decide +kernel
theorem dX1_isDigit_9 : decode cX1_isDigit 9 = .ok (.if_icmp .gt 7, 3) := by decide +kernel
theorem dX1_isDigit_12 : decode cX1_isDigit 12 = .ok (.iconst 1, 1) := by decide +kernel
theorem dX1_isDigit_13 : decode cX1_isDigit 13 = .ok (.goto 4, 3) := by decide +kernel
theorem dX1_isDigit_16 : decode cX1_isDigit 16 = .ok (.iconst 0, 1) := by decide +kernel
theorem dX1_isDigit_17 : decode cX1_isDigit 17 = .ok (.ireturn, 1) := by decide +kernel
theorem dX2_init_0 : decode cX2_init 0 = .ok (.aload_n 0, 1) := by decide +kernel
theorem dX2_init_1 : decode cX2_init 1 = .ok (.invokespecial 3, 3) := by decide +kernel
theorem dX2_init_4 : decode cX2_init 4 = .ok (.aload_n 0, 1) := by decide +kernel
theorem dX2_init_5 : decode cX2_init 5 = .ok (.bipush 6, 2) := by decide +kernel
theorem dX2_init_7 : decode cX2_init 7 = .ok (.newarray .int, 2) := by decide +kernel
theorem dX2_init_9 : decode cX2_init 9 = .ok (.putfield 9, 3) := by decide +kernel
theorem dX2_init_12 : decode cX2_init 12 = .ok (.aload_n 0, 1) := by decide +kernel
theorem dX2_init_13 : decode cX2_init 13 = .ok (.bipush 6, 2) := by decide +kernel
theorem dX2_init_15 : decode cX2_init 15 = .ok (.newarray .int, 2) := by decide +kernel
theorem dX2_init_17 : decode cX2_init 17 = .ok (.putfield 15, 3) := by decide +kernel
theorem dX2_init_20 : decode cX2_init 20 = .ok (.aload_n 0, 1) := by decide +kernel
theorem dX2_init_21 : decode cX2_init 21 = .ok (.bipush 6, 2) := by decide +kernel
theorem dX2_init_23 : decode cX2_init 23 = .ok (.newarray .int, 2) := by decide +kernel
theorem dX2_init_25 : decode cX2_init 25 = .ok (.putfield 18, 3) := by decide +kernel
theorem dX2_init_28 : decode cX2_init 28 = .ok (.aload_n 0, 1) := by decide +kernel
theorem dX2_init_29 : decode cX2_init 29 = .ok (.bipush 10, 2) := by decide +kernel
theorem dX2_init_31 : decode cX2_init 31 = .ok (.newarray .int, 2) := by decide +kernel
theorem dX2_init_33 : decode cX2_init 33 = .ok (.putfield 21, 3) := by decide +kernel
theorem dX2_init_36 : decode cX2_init 36 = .ok (.aload_n 0, 1) := by decide +kernel
theorem dX2_init_37 : decode cX2_init 37 = .ok (.bipush 10, 2) := by decide +kernel
theorem dX2_init_39 : decode cX2_init 39 = .ok (.newarray .int, 2) := by decide +kernel
theorem dX2_init_41 : decode cX2_init 41 = .ok (.putfield 24, 3) := by decide +kernel
theorem dX2_init_44 : decode cX2_init 44 = .ok (.aload_n 0, 1) := by decide +kernel
theorem dX2_init_45 : decode cX2_init 45 = .ok (.bipush 10, 2) := by decide +kernel
theorem dX2_init_47 : decode cX2_init 47 = .ok (.newarray .int, 2) := by decide +kernel
theorem dX2_init_49 : decode cX2_init 49 = .ok (.putfield 27, 3) := by decide +kernel
theorem dX2_init_52 : decode cX2_init 52 = .ok (.aload_n 0, 1) := by decide +kernel
theorem dX2_init_53 : decode cX2_init 53 = .ok (.aload_n 1, 1) := by decide +kernel
theorem dX2_init_54 : decode cX2_init 54 = .ok (.putfield 30, 3) := by decide +kernel
theorem dX2_init_57 : decode cX2_init 57 = .ok (.return_, 1) := by decide +kernel
theorem dX2_begin_0 : decode cX2_begin 0 = .ok (.aload_n 0, 1) := by decide +kernel
theorem dX2_begin_1 : decode cX2_begin 1 = .ok (.aload_n 1, 1) := by decide +kernel
theorem dX2_begin_2 : decode cX2_begin 2 = .ok (.putfield 30, 3) := by decide +kernel
theorem dX2_begin_5 : decode cX2_begin 5 = .ok (.aload_n 0, 1) := by decide +kernel
theorem dX2_begin_6 : decode cX2_begin 6 = .ok (.iconst 0, 1) := by decide +kernel
theorem dX2_begin_7 : decode cX2_begin 7 = .ok (.putfield 34, 3) := by decide +kernel
theorem dX2_begin_10 : decode cX2_begin 10 = .ok (.aload_n 0, 1) := by decide +kernel
theorem dX2_begin_11 : decode cX2_begin 11 = .ok (.iconst 0, 1) := by decide +kernel
theorem dX2_begin_12 : decode cX2_begin 12 = .ok (.putfield 38, 3) := by decide +kernel
theorem dX2_begin_15 : decode cX2_begin 15 = .ok (.aload_n 0, 1) := by decide +kernel
theorem dX2_begin_16 : decode cX2_begin 16 = .ok (.iconst 0, 1) := by decide +kernel
theorem dX2_begin_17 : decode cX2_begin 17 = .ok (.putfield 41, 3) := by decide +kernel
theorem dX2_begin_20 : decode cX2_begin 20 = .ok (.aload_n 1, 1) := by decide +kernel
theorem dX2_begin_21 : decode cX2_begin 21 = .ok (.getfield 44, 3) := by decide +kernel
