theorem dX4_spread_102 : decode cX4_spread 102 = .ok (.ifCond .eq 7, 3) := by decide +kernel
theorem dX4_spread_105 : decode cX4_spread 105 = .ok (.iconst 0, 1) := by decide +kernel
theorem dX4_spread_106 : decode cX4_spread 106 = .ok (.goto 20, 3) := by decide +kernel
theorem dX4_spread_109 : decode cX4_spread 109 = .ok (.aload_n 1, 1) := by decide +kernel
theorem dX4_spread_110 : decode cX4_spread 110 = .ok (.getfield 63, 3) := by decide +kernel
theorem dX4_spread_113 : decode cX4_spread 113 = .ok (.iload_n 2, 1) := by decide +kernel
theorem dX4_spread_114 : decode cX4_spread 114 = .ok (.iload 6, 2) := by decide +kernel
theorem dX4_spread_116 : decode cX4_spread 116 = .ok (.aload_n 0, 1) := by decide +kernel
theorem dX4_spread_117 : decode cX4_spread 117 = .ok (.getfield 11, 3) := by decide +kernel
theorem dX4_spread_120 : decode cX4_spread 120 = .ok (.iload 6, 2) := by decide +kernel
theorem dX4_spread_122 : decode cX4_spread 122 = .ok (.iaload, 1) := by decide +kernel
theorem dX4_spread_123 : decode cX4_spread 123 = .ok (.invokevirtual 127, 3) := by decide +kernel
theorem dX4_spread_126 : decode cX4_spread 126 = .ok (.iastore, 1) := by decide +kernel
theorem dX4_spread_127 : decode cX4_spread 127 = .ok (.iinc 6 1, 3) := by decide +kernel
theorem dX4_spread_130 : decode cX4_spread 130 = .ok (.goto (-52), 3) := by decide +kernel
theorem dX4_spread_133 : decode cX4_spread 133 = .ok (.return_, 1) := by decide +kernel
theorem dX4_reckonGap_0 : decode cX4_reckonGap 0 = .ok (.iconst 0, 1) := by decide +kernel
theorem dX4_reckonGap_1 : decode cX4_reckonGap 1 = .ok (.istore_n 1, 1) := by decide +kernel
theorem dX4_reckonGap_2 : decode cX4_reckonGap 2 = .ok (.iconst 0, 1) := by decide +kernel
theorem dX4_reckonGap_3 : decode cX4_reckonGap 3 = .ok (.istore_n 2, 1) := by decide +kernel
theorem dX4_reckonGap_4 : decode cX4_reckonGap 4 = .ok (.iload_n 2, 1) := by decide +kernel
theorem dX4_reckonGap_5 : decode cX4_reckonGap 5 = .ok (.aload_n 0, 1) := by decide +kernel
theorem dX4_reckonGap_6 : decode cX4_reckonGap 6 = .ok (.getfield 58, 3) := by decide +kernel
theorem dX4_reckonGap_9 : decode cX4_reckonGap 9 = .ok (.if_icmp .ge 20, 3) := by decide +kernel
theorem dX4_reckonGap_12 : decode cX4_reckonGap 12 = .ok (.iload_n 1, 1) := by decide +kernel
theorem dX4_reckonGap_13 : decode cX4_reckonGap 13 = .ok (.aload_n 0, 1) := by decide +kernel
theorem dX4_reckonGap_14 : decode cX4_reckonGap 14 = .ok (.getfield 30, 3) := by decide +kernel
theorem dX4_reckonGap_17 : decode cX4_reckonGap 17 = .ok (.iload_n 2, 1) := by decide +kernel
theorem dX4_reckonGap_18 : decode cX4_reckonGap 18 = .ok (.iaload, 1) := by decide +kernel
theorem dX4_reckonGap_19 : decode cX4_reckonGap 19 = .ok (.invokestatic 124, 3) := by decide +kernel
theorem dX4_reckonGap_22 : decode cX4_reckonGap 22 = .ok (.istore_n 1, 1) := by decide +kernel
theorem dX4_reckonGap_23 : decode cX4_reckonGap 23 = .ok (.iinc 2 1, 3) := by decide +kernel
theorem dX4_reckonGap_26 : decode cX4_reckonGap 26 = .ok (.goto (-22), 3) := by decide +kernel
theorem dX4_reckonGap_29 : decode cX4_reckonGap 29 = .ok (.iconst 0, 1) := by decide +kernel
theorem dX4_reckonGap_30 : decode cX4_reckonGap 30 = .ok (.istore_n 2, 1) := by decide +kernel
theorem dX4_reckonGap_31 : decode cX4_reckonGap 31 = .ok (.iconst 0, 1) := by decide +kernel
theorem dX4_reckonGap_32 : decode cX4_reckonGap 32 = .ok (.istore_n 3, 1) := by decide +kernel
theorem dX4_reckonGap_33 : decode cX4_reckonGap 33 = .ok (.iload_n 3, 1) := by decide +kernel
theorem dX4_reckonGap_34 : decode cX4_reckonGap 34 = .ok (.bipush 40, 2) := by decide +kernel
theorem dX4_reckonGap_36 : decode cX4_reckonGap 36 = .ok (.if_icmp .gt 20, 3) := by decide +kernel
theorem dX4_reckonGap_39 : decode cX4_reckonGap 39 = .ok (.iload_n 2, 1) := by decide +kernel
theorem dX4_reckonGap_40 : decode cX4_reckonGap 40 = .ok (.aload_n 0, 1) := by decide +kernel
theorem dX4_reckonGap_41 : decode cX4_reckonGap 41 = .ok (.getfield 11, 3) := by decide +kernel
theorem dX4_reckonGap_44 : decode cX4_reckonGap 44 = .ok (.iload_n 3, 1) := by decide +kernel
theorem dX4_reckonGap_45 : decode cX4_reckonGap 45 = .ok (.iaload, 1) := by decide +kernel
theorem dX4_reckonGap_46 : decode cX4_reckonGap 46 = .ok (.invokestatic 124, 3) := by decide +kernel
theorem dX4_reckonGap_49 : decode cX4_reckonGap 49 = .ok (.istore_n 2, 1) := by decide +kernel
theorem dX4_reckonGap_50 : decode cX4_reckonGap 50 = .ok (.iinc 3 1, 3) := by decide +kernel
theorem dX4_reckonGap_53 : decode cX4_reckonGap 53 = .ok (.goto (-20), 3) := by decide +kernel
theorem dX4_reckonGap_56 : decode cX4_reckonGap 56 = .ok (.aload_n 0, 1) := by decide +kernel
theorem dX4_reckonGap_57 : decode cX4_reckonGap 57 = .ok (.iconst 0, 1) := by decide +kernel
theorem dX4_reckonGap_58 : decode cX4_reckonGap 58 = .ok (.aload_n 0, 1) := by decide +kernel
theorem dX4_reckonGap_59 : decode cX4_reckonGap 59 = .ok (.getfield 84, 3) := by decide +kernel
theorem dX4_reckonGap_62 : decode cX4_reckonGap 62 = .ok (.iload_n 1, 1) := by decide +kernel
theorem dX4_reckonGap_63 : decode cX4_reckonGap 63 = .ok (.isub, 1) := by decide +kernel
theorem dX4_reckonGap_64 : decode cX4_reckonGap 64 = .ok (.iload_n 2, 1) := by decide +kernel
theorem dX4_reckonGap_65 : decode cX4_reckonGap 65 = .ok (.iconst 5, 1) := by decide +kernel
theorem dX4_reckonGap_66 : decode cX4_reckonGap 66 = .ok (.idiv, 1) := by decide +kernel
theorem dX4_reckonGap_67 : decode cX4_reckonGap 67 = .ok (.isub, 1) := by decide +kernel
theorem dX4_reckonGap_68 : decode cX4_reckonGap 68 = .ok (.invokestatic 124, 3) := by decide +kernel
theorem dX4_reckonGap_71 : decode cX4_reckonGap 71 = .ok (.putfield 130, 3) := by decide +kernel
theorem dX4_reckonGap_74 : decode cX4_reckonGap 74 = .ok (.return_, 1) := by decide +kernel
theorem dX4_reckonReach_0 : decode cX4_reckonReach 0 = .ok (.aload_n 0, 1) := by decide +kernel
theorem dX4_reckonReach_1 : decode cX4_reckonReach 1 = .ok (.getfield 24, 3) := by decide +kernel
theorem dX4_reckonReach_4 : decode cX4_reckonReach 4 = .ok (.aload_n 0, 1) := by decide +kernel
theorem dX4_reckonReach_5 : decode cX4_reckonReach 5 = .ok (.getfield 58, 3) := by decide +kernel
theorem dX4_reckonReach_8 : decode cX4_reckonReach 8 = .ok (.iconst 0, 1) := by decide +kernel
theorem dX4_reckonReach_9 : decode cX4_reckonReach 9 = .ok (.iastore, 1) := by decide +kernel
theorem dX4_reckonReach_10 : decode cX4_reckonReach 10 = .ok (.aload_n 0, 1) := by decide +kernel
theorem dX4_reckonReach_11 : decode cX4_reckonReach 11 = .ok (.getfield 58, 3) := by decide +kernel
theorem dX4_reckonReach_14 : decode cX4_reckonReach 14 = .ok (.iconst 1, 1) := by decide +kernel
theorem dX4_reckonReach_15 : decode cX4_reckonReach 15 = .ok (.isub, 1) := by decide +kernel
theorem dX4_reckonReach_16 : decode cX4_reckonReach 16 = .ok (.istore_n 1, 1) := by decide +kernel
theorem dX4_reckonReach_17 : decode cX4_reckonReach 17 = .ok (.iload_n 1, 1) := by decide +kernel
theorem dX4_reckonReach_18 : decode cX4_reckonReach 18 = .ok (.ifCond .lt 73, 3) := by decide +kernel
theorem dX4_reckonReach_21 : decode cX4_reckonReach 21 = .ok (.iconst 0, 1) := by decide +kernel
theorem dX4_reckonReach_22 : decode cX4_reckonReach 22 = .ok (.istore_n 2, 1) := by decide +kernel
theorem dX4_reckonReach_23 : decode cX4_reckonReach 23 = .ok (.aload_n 0, 1) := by decide +kernel
theorem dX4_reckonReach_24 : decode cX4_reckonReach 24 = .ok (.getfield 106, 3) := by decide +kernel
theorem dX4_reckonReach_27 : decode cX4_reckonReach 27 = .ok (.aload_n 0, 1) := by decide +kernel
theorem dX4_reckonReach_28 : decode cX4_reckonReach 28 = .ok (.getfield 18, 3) := by decide +kernel
theorem dX4_reckonReach_31 : decode cX4_reckonReach 31 = .ok (.iload_n 1, 1) := by decide +kernel
theorem dX4_reckonReach_32 : decode cX4_reckonReach 32 = .ok (.iaload, 1) := by decide +kernel
theorem dX4_reckonReach_33 : decode cX4_reckonReach 33 = .ok (.invokestatic 124, 3) := by decide +kernel
theorem dX4_reckonReach_36 : decode cX4_reckonReach 36 = .ok (.istore_n 3, 1) := by decide +kernel
theorem dX4_reckonReach_37 : decode cX4_reckonReach 37 = .ok (.iload_n 3, 1) := by decide +kernel
theorem dX4_reckonReach_38 : decode cX4_reckonReach 38 = .ok (.aload_n 0, 1) := by decide +kernel
theorem dX4_reckonReach_39 : decode cX4_reckonReach 39 = .ok (.getfield 21, 3) := by decide +kernel
theorem dX4_reckonReach_42 : decode cX4_reckonReach 42 = .ok (.iload_n 1, 1) := by decide +kernel
theorem dX4_reckonReach_43 : decode cX4_reckonReach 43 = .ok (.iaload, 1) := by decide +kernel
theorem dX4_reckonReach_44 : decode cX4_reckonReach 44 = .ok (.if_icmp .gt 25, 3) := by decide +kernel
theorem dX4_reckonReach_47 : decode cX4_reckonReach 47 = .ok (.iload_n 2, 1) := by decide +kernel
theorem dX4_reckonReach_48 : decode cX4_reckonReach 48 = .ok (.aload_n 0, 1) := by decide +kernel
theorem dX4_reckonReach_49 : decode cX4_reckonReach 49 = .ok (.getfield 15, 3) := by decide +kernel
theorem dX4_reckonReach_52 : decode cX4_reckonReach 52 = .ok (.iload_n 1, 1) := by decide +kernel
theorem dX4_reckonReach_53 : decode cX4_reckonReach 53 = .ok (.bipush 41, 2) := by decide +kernel
theorem dX4_reckonReach_55 : decode cX4_reckonReach 55 = .ok (.imul, 1) := by decide +kernel
theorem dX4_reckonReach_56 : decode cX4_reckonReach 56 = .ok (.iload_n 3, 1) := by decide +kernel
theorem dX4_reckonReach_57 : decode cX4_reckonReach 57 = .ok (.iadd, 1) := by decide +kernel
theorem dX4_reckonReach_58 : decode cX4_reckonReach 58 = .ok (.iaload, 1) := by decide +kernel
theorem dX4_reckonReach_59 : decode cX4_reckonReach 59 = .ok (.invokestatic 124, 3) := by decide +kernel
theorem dX4_reckonReach_62 : decode cX4_reckonReach 62 = .ok (.istore_n 2, 1) := by decide +kernel
theorem dX4_reckonReach_63 : decode cX4_reckonReach 63 = .ok (.iinc 3 1, 3) := by decide +kernel
theorem dX4_reckonReach_66 : decode cX4_reckonReach 66 = .ok (.goto (-29), 3) := by decide +kernel
theorem dX4_reckonReach_69 : decode cX4_reckonReach 69 = .ok (.aload_n 0, 1) := by decide +kernel
theorem dX4_reckonReach_70 : decode cX4_reckonReach 70 = .ok (.getfield 24, 3) := by decide +kernel
theorem dX4_reckonReach_73 : decode cX4_reckonReach 73 = .ok (.iload_n 1, 1) := by decide +kernel
theorem dX4_reckonReach_74 : decode cX4_reckonReach 74 = .ok (.aload_n 0, 1) := by decide +kernel
theorem dX4_reckonReach_75 : decode cX4_reckonReach 75 = .ok (.getfield 24, 3) := by decide +kernel
theorem dX4_reckonReach_78 : decode cX4_reckonReach 78 = .ok (.iload_n 1, 1) := by decide +kernel
theorem dX4_reckonReach_79 : decode cX4_reckonReach 79 = .ok (.iconst 1, 1) := by decide +kernel
theorem dX4_reckonReach_80 : decode cX4_reckonReach 80 = .ok (.iadd, 1) := by decide +kernel
theorem dX4_reckonReach_81 : decode cX4_reckonReach 81 = .ok (.iaload, 1) := by decide +kernel
theorem dX4_reckonReach_82 : decode cX4_reckonReach 82 = .ok (.iload_n 2, 1) := by decide +kernel
theorem dX4_reckonReach_83 : decode cX4_reckonReach 83 = .ok (.iadd, 1) := by decide +kernel
theorem dX4_reckonReach_84 : decode cX4_reckonReach 84 = .ok (.iastore, 1) := by decide +kernel
theorem dX4_reckonReach_85 : decode cX4_reckonReach 85 = .ok (.iinc 1 (-1), 3) := by decide +kernel
theorem dX4_reckonReach_88 : decode cX4_reckonReach 88 = .ok (.goto (-71), 3) := by decide +kernel
theorem dX4_reckonReach_91 : decode cX4_reckonReach 91 = .ok (.return_, 1) := by decide +kernel
theorem dX4_choose_0 : decode cX4_choose 0 = .ok (.aload_n 0, 1) := by decide +kernel
theorem dX4_choose_1 : decode cX4_choose 1 = .ok (.iload_n 2, 1) := by decide +kernel
theorem dX4_choose_2 : decode cX4_choose 2 = .ok (.aload_n 0, 1) := by decide +kernel
theorem dX4_choose_3 : decode cX4_choose 3 = .ok (.getfield 24, 3) := by decide +kernel
theorem dX4_choose_6 : decode cX4_choose 6 = .ok (.iload_n 1, 1) := by decide +kernel
theorem dX4_choose_7 : decode cX4_choose 7 = .ok (.iaload, 1) := by decide +kernel
theorem dX4_choose_8 : decode cX4_choose 8 = .ok (.iadd, 1) := by decide +kernel
theorem dX4_choose_9 : decode cX4_choose 9 = .ok (.iload_n 3, 1) := by decide +kernel
theorem dX4_choose_10 : decode cX4_choose 10 = .ok (.iload 5, 2) := by decide +kernel
theorem dX4_choose_12 : decode cX4_choose 12 = .ok (.iload 6, 2) := by decide +kernel
theorem dX4_choose_14 : decode cX4_choose 14 = .ok (.invokevirtual 133, 3) := by decide +kernel
theorem dX4_choose_17 : decode cX4_choose 17 = .ok (.ifCond .eq 4, 3) := by decide +kernel
theorem dX4_choose_20 : decode cX4_choose 20 = .ok (.return_, 1) := by decide +kernel
theorem dX4_choose_21 : decode cX4_choose 21 = .ok (.iload_n 1, 1) := by decide +kernel
theorem dX4_choose_22 : decode cX4_choose 22 = .ok (.aload_n 0, 1) := by decide +kernel
theorem dX4_choose_23 : decode cX4_choose 23 = .ok (.getfield 58, 3) := by decide +kernel
theorem dX4_choose_26 : decode cX4_choose 26 = .ok (.if_icmp .lt 17, 3) := by decide +kernel
theorem dX4_choose_29 : decode cX4_choose 29 = .ok (.aload_n 0, 1) := by decide +kernel
theorem dX4_choose_30 : decode cX4_choose 30 = .ok (.iload_n 2, 1) := by decide +kernel
theorem dX4_choose_31 : decode cX4_choose 31 = .ok (.iload 4, 2) := by decide +kernel
theorem dX4_choose_33 : decode cX4_choose 33 = .ok (.iload 5, 2) := by decide +kernel
theorem dX4_choose_35 : decode cX4_choose 35 = .ok (.iload 6, 2) := by decide +kernel
theorem dX4_choose_37 : decode cX4_choose 37 = .ok (.lload 7, 2) := by decide +kernel
theorem dX4_choose_39 : decode cX4_choose 39 = .ok (.invokevirtual 137, 3) := by decide +kernel
theorem dX4_choose_42 : decode cX4_choose 42 = .ok (.return_, 1) := by decide +kernel
theorem dX4_choose_43 : decode cX4_choose 43 = .ok (.aload_n 0, 1) := by decide +kernel
theorem dX4_choose_44 : decode cX4_choose 44 = .ok (.getfield 18, 3) := by decide +kernel
theorem dX4_choose_47 : decode cX4_choose 47 = .ok (.iload_n 1, 1) := by decide +kernel
theorem dX4_choose_48 : decode cX4_choose 48 = .ok (.iaload, 1) := by decide +kernel
theorem dX4_choose_49 : decode cX4_choose 49 = .ok (.istore 9, 2) := by decide +kernel
theorem dX4_choose_51 : decode cX4_choose 51 = .ok (.iload 9, 2) := by decide +kernel
theorem dX4_choose_53 : decode cX4_choose 53 = .ok (.aload_n 0, 1) := by decide +kernel
theorem dX4_choose_54 : decode cX4_choose 54 = .ok (.getfield 21, 3) := by decide +kernel
theorem dX4_choose_57 : decode cX4_choose 57 = .ok (.iload_n 1, 1) := by decide +kernel
theorem dX4_choose_58 : decode cX4_choose 58 = .ok (.iaload, 1) := by decide +kernel
theorem dX4_choose_59 : decode cX4_choose 59 = .ok (.if_icmp .gt 128, 3) := by decide +kernel
theorem dX4_choose_62 : decode cX4_choose 62 = .ok (.aload_n 0, 1) := by decide +kernel
theorem dX4_choose_63 : decode cX4_choose 63 = .ok (.getfield 15, 3) := by decide +kernel
theorem dX4_choose_66 : decode cX4_choose 66 = .ok (.iload_n 1, 1) := by decide +kernel
theorem dX4_choose_67 : decode cX4_choose 67 = .ok (.bipush 41, 2) := by decide +kernel
theorem dX4_choose_69 : decode cX4_choose 69 = .ok (.imul, 1) := by decide +kernel
theorem dX4_choose_70 : decode cX4_choose 70 = .ok (.iload 9, 2) := by decide +kernel
theorem dX4_choose_72 : decode cX4_choose 72 = .ok (.iadd, 1) := by decide +kernel
theorem dX4_choose_73 : decode cX4_choose 73 = .ok (.iaload, 1) := by decide +kernel
theorem dX4_choose_74 : decode cX4_choose 74 = .ok (.istore 10, 2) := by decide +kernel
theorem dX4_choose_76 : decode cX4_choose 76 = .ok (.iload 9, 2) := by decide +kernel
theorem dX4_choose_78 : decode cX4_choose 78 = .ok (.aload_n 0, 1) := by decide +kernel
theorem dX4_choose_79 : decode cX4_choose 79 = .ok (.getfield 106, 3) := by decide +kernel
theorem dX4_choose_82 : decode cX4_choose 82 = .ok (.if_icmp .lt 12, 3) := by decide +kernel
theorem dX4_choose_85 : decode cX4_choose 85 = .ok (.iconst 0, 1) := by decide +kernel
theorem dX4_choose_86 : decode cX4_choose 86 = .ok (.iload 10, 2) := by decide +kernel
theorem dX4_choose_88 : decode cX4_choose 88 = .ok (.invokestatic 124, 3) := by decide +kernel
theorem dX4_choose_91 : decode cX4_choose 91 = .ok (.goto 4, 3) := by decide +kernel
theorem dX4_choose_94 : decode cX4_choose 94 = .ok (.iconst 0, 1) := by decide +kernel
theorem dX4_choose_95 : decode cX4_choose 95 = .ok (.istore 11, 2) := by decide +kernel
theorem dX4_choose_97 : decode cX4_choose 97 = .ok (.aload_n 0, 1) := by decide +kernel
theorem dX4_choose_98 : decode cX4_choose 98 = .ok (.iload_n 1, 1) := by decide +kernel
theorem dX4_choose_99 : decode cX4_choose 99 = .ok (.iconst 1, 1) := by decide +kernel
theorem dX4_choose_100 : decode cX4_choose 100 = .ok (.iadd, 1) := by decide +kernel
theorem dX4_choose_101 : decode cX4_choose 101 = .ok (.iload_n 2, 1) := by decide +kernel
theorem dX4_choose_102 : decode cX4_choose 102 = .ok (.iload 11, 2) := by decide +kernel
theorem dX4_choose_104 : decode cX4_choose 104 = .ok (.iadd, 1) := by decide +kernel
theorem dX4_choose_105 : decode cX4_choose 105 = .ok (.iload 9, 2) := by decide +kernel
theorem dX4_choose_107 : decode cX4_choose 107 = .ok (.aload_n 0, 1) := by decide +kernel
theorem dX4_choose_108 : decode cX4_choose 108 = .ok (.getfield 106, 3) := by decide +kernel
theorem dX4_choose_111 : decode cX4_choose 111 = .ok (.if_icmp .le 10, 3) := by decide +kernel
theorem dX4_choose_114 : decode cX4_choose 114 = .ok (.iload_n 3, 1) := by decide +kernel
theorem dX4_choose_115 : decode cX4_choose 115 = .ok (.iload 11, 2) := by decide +kernel
theorem dX4_choose_117 : decode cX4_choose 117 = .ok (.iadd, 1) := by decide +kernel
theorem dX4_choose_118 : decode cX4_choose 118 = .ok (.goto 4, 3) := by decide +kernel
theorem dX4_choose_121 : decode cX4_choose 121 = .ok (.iload_n 3, 1) := by decide +kernel
theorem dX4_choose_122 : decode cX4_choose 122 = .ok (.iload 4, 2) := by decide +kernel
theorem dX4_choose_124 : decode cX4_choose 124 = .ok (.iload 11, 2) := by decide +kernel
theorem dX4_choose_126 : decode cX4_choose 126 = .ok (.aload_n 0, 1) := by decide +kernel
theorem dX4_choose_127 : decode cX4_choose 127 = .ok (.getfield 30, 3) := by decide +kernel
theorem dX4_choose_130 : decode cX4_choose 130 = .ok (.iload_n 1, 1) := by decide +kernel
theorem dX4_choose_131 : decode cX4_choose 131 = .ok (.iaload, 1) := by decide +kernel
theorem dX4_choose_132 : decode cX4_choose 132 = .ok (.imul, 1) := by decide +kernel
theorem dX4_choose_133 : decode cX4_choose 133 = .ok (.iadd, 1) := by decide +kernel
theorem dX4_choose_134 : decode cX4_choose 134 = .ok (.iload 10, 2) := by decide +kernel
theorem dX4_choose_136 : decode cX4_choose 136 = .ok (.iconst (-1), 1) := by decide +kernel
theorem dX4_choose_137 : decode cX4_choose 137 = .ok (.if_icmp .ne 10, 3) := by decide +kernel
theorem dX4_choose_140 : decode cX4_choose 140 = .ok (.iload 5, 2) := by decide +kernel
theorem dX4_choose_142 : decode cX4_choose 142 = .ok (.iconst 1, 1) := by decide +kernel
theorem dX4_choose_143 : decode cX4_choose 143 = .ok (.iadd, 1) := by decide +kernel
theorem dX4_choose_144 : decode cX4_choose 144 = .ok (.goto 5, 3) := by decide +kernel
theorem dX4_choose_147 : decode cX4_choose 147 = .ok (.iload 5, 2) := by decide +kernel
theorem dX4_choose_149 : decode cX4_choose 149 = .ok (.iload 9, 2) := by decide +kernel
theorem dX4_choose_151 : decode cX4_choose 151 = .ok (.aload_n 0, 1) := by decide +kernel
theorem dX4_choose_152 : decode cX4_choose 152 = .ok (.getfield 27, 3) := by decide +kernel
theorem dX4_choose_155 : decode cX4_choose 155 = .ok (.iload_n 1, 1) := by decide +kernel
theorem dX4_choose_156 : decode cX4_choose 156 = .ok (.iaload, 1) := by decide +kernel
theorem dX4_choose_157 : decode cX4_choose 157 = .ok (.if_icmp .ne 8, 3) := by decide +kernel
theorem dX4_choose_160 : decode cX4_choose 160 = .ok (.iload 6, 2) := by decide +kernel
theorem dX4_choose_162 : decode cX4_choose 162 = .ok (.goto 7, 3) := by decide +kernel
theorem dX4_choose_165 : decode cX4_choose 165 = .ok (.iload 6, 2) := by decide +kernel
theorem dX4_choose_167 : decode cX4_choose 167 = .ok (.iconst 1, 1) := by decide +kernel
theorem dX4_choose_168 : decode cX4_choose 168 = .ok (.iadd, 1) := by decide +kernel
theorem dX4_choose_169 : decode cX4_choose 169 = .ok (.lload 7, 2) := by decide +kernel
theorem dX4_choose_171 : decode cX4_choose 171 = .ok (.bipush 6, 2) := by decide +kernel
theorem dX4_choose_173 : decode cX4_choose 173 = .ok (.lshl, 1) := by decide +kernel
theorem dX4_choose_174 : decode cX4_choose 174 = .ok (.iload 9, 2) := by decide +kernel
theorem dX4_choose_176 : decode cX4_choose 176 = .ok (.i2l, 1) := by decide +kernel
theorem dX4_choose_177 : decode cX4_choose 177 = .ok (.lor, 1) := by decide +kernel
theorem dX4_choose_178 : decode cX4_choose 178 = .ok (.invokevirtual 112, 3) := by decide +kernel
theorem dX4_choose_181 : decode cX4_choose 181 = .ok (.iinc 9 1, 3) := by decide +kernel
theorem dX4_choose_184 : decode cX4_choose 184 = .ok (.goto (-133), 3) := by decide +kernel
theorem dX4_choose_187 : decode cX4_choose 187 = .ok (.return_, 1) := by decide +kernel
theorem dX4_isHopeless_0 : decode cX4_isHopeless 0 = .ok (.aload_n 0, 1) := by decide +kernel
theorem dX4_isHopeless_1 : decode cX4_isHopeless 1 = .ok (.getfield 106, 3) := by decide +kernel
theorem dX4_isHopeless_4 : decode cX4_isHopeless 4 = .ok (.bipush 40, 2) := by decide +kernel
theorem dX4_isHopeless_6 : decode cX4_isHopeless 6 = .ok (.if_icmp .ge 11, 3) := by decide +kernel
theorem dX4_isHopeless_9 : decode cX4_isHopeless 9 = .ok (.iload_n 2, 1) := by decide +kernel
theorem dX4_isHopeless_10 : decode cX4_isHopeless 10 = .ok (.aload_n 0, 1) := by decide +kernel
theorem dX4_isHopeless_11 : decode cX4_isHopeless 11 = .ok (.getfield 81, 3) := by decide +kernel
theorem dX4_isHopeless_14 : decode cX4_isHopeless 14 = .ok (.if_icmp .ge 34, 3) := by decide +kernel
theorem dX4_isHopeless_17 : decode cX4_isHopeless 17 = .ok (.aload_n 0, 1) := by decide +kernel
theorem dX4_isHopeless_18 : decode cX4_isHopeless 18 = .ok (.getfield 106, 3) := by decide +kernel
theorem dX4_isHopeless_21 : decode cX4_isHopeless 21 = .ok (.ifCond .le 11, 3) := by decide +kernel
theorem dX4_isHopeless_24 : decode cX4_isHopeless 24 = .ok (.iload_n 1, 1) := by decide +kernel
theorem dX4_isHopeless_25 : decode cX4_isHopeless 25 = .ok (.aload_n 0, 1) := by decide +kernel
theorem dX4_isHopeless_26 : decode cX4_isHopeless 26 = .ok (.getfield 81, 3) := by decide +kernel
theorem dX4_isHopeless_29 : decode cX4_isHopeless 29 = .ok (.if_icmp .lt 19, 3) := by decide +kernel
theorem dX4_isHopeless_32 : decode cX4_isHopeless 32 = .ok (.aload_n 0, 1) := by decide +kernel
theorem dX4_isHopeless_33 : decode cX4_isHopeless 33 = .ok (.getfield 33, 3) := by decide +kernel
theorem dX4_isHopeless_36 : decode cX4_isHopeless 36 = .ok (.ifCond .ne 14, 3) := by decide +kernel
theorem dX4_isHopeless_39 : decode cX4_isHopeless 39 = .ok (.iload 4, 2) := by decide +kernel
theorem dX4_isHopeless_41 : decode cX4_isHopeless 41 = .ok (.aload_n 0, 1) := by decide +kernel
theorem dX4_isHopeless_42 : decode cX4_isHopeless 42 = .ok (.invokevirtual 141, 3) := by decide +kernel
theorem dX4_isHopeless_45 : decode cX4_isHopeless 45 = .ok (.if_icmp .lt 5, 3) := by decide +kernel
theorem dX4_isHopeless_48 : decode cX4_isHopeless 48 = .ok (.iconst 1, 1) := by decide +kernel
theorem dX4_isHopeless_49 : decode cX4_isHopeless 49 = .ok (.ireturn, 1) := by decide +kernel
theorem dX4_isHopeless_50 : decode cX4_isHopeless 50 = .ok (.aload_n 0, 1) := by decide +kernel
theorem dX4_isHopeless_51 : decode cX4_isHopeless 51 = .ok (.getfield 87, 3) := by decide +kernel
theorem dX4_isHopeless_54 : decode cX4_isHopeless 54 = .ok (.iconst 0, 1) := by decide +kernel
theorem dX4_isHopeless_55 : decode cX4_isHopeless 55 = .ok (.aload_n 0, 1) := by decide +kernel
theorem dX4_isHopeless_56 : decode cX4_isHopeless 56 = .ok (.getfield 106, 3) := by decide +kernel
theorem dX4_isHopeless_59 : decode cX4_isHopeless 59 = .ok (.iload_n 3, 1) := by decide +kernel
theorem dX4_isHopeless_60 : decode cX4_isHopeless 60 = .ok (.isub, 1) := by decide +kernel
theorem dX4_isHopeless_61 : decode cX4_isHopeless 61 = .ok (.invokestatic 124, 3) := by decide +kernel
theorem dX4_isHopeless_64 : decode cX4_isHopeless 64 = .ok (.isub, 1) := by decide +kernel
theorem dX4_isHopeless_65 : decode cX4_isHopeless 65 = .ok (.istore 5, 2) := by decide +kernel
theorem dX4_isHopeless_67 : decode cX4_isHopeless 67 = .ok (.aload_n 0, 1) := by decide +kernel
theorem dX4_isHopeless_68 : decode cX4_isHopeless 68 = .ok (.getfield 106, 3) := by decide +kernel
theorem dX4_isHopeless_71 : decode cX4_isHopeless 71 = .ok (.aload_n 0, 1) := by decide +kernel
theorem dX4_isHopeless_72 : decode cX4_isHopeless 72 = .ok (.getfield 58, 3) := by decide +kernel
theorem dX4_isHopeless_75 : decode cX4_isHopeless 75 = .ok (.isub, 1) := by decide +kernel
theorem dX4_isHopeless_76 : decode cX4_isHopeless 76 = .ok (.aload_n 0, 1) := by decide +kernel
theorem dX4_isHopeless_77 : decode cX4_isHopeless 77 = .ok (.getfield 87, 3) := by decide +kernel
theorem dX4_isHopeless_80 : decode cX4_isHopeless 80 = .ok (.isub, 1) := by decide +kernel
theorem dX4_isHopeless_81 : decode cX4_isHopeless 81 = .ok (.istore 6, 2) := by decide +kernel
theorem dX4_isHopeless_83 : decode cX4_isHopeless 83 = .ok (.aload_n 0, 1) := by decide +kernel
theorem dX4_isHopeless_84 : decode cX4_isHopeless 84 = .ok (.getfield 130, 3) := by decide +kernel
theorem dX4_isHopeless_87 : decode cX4_isHopeless 87 = .ok (.iconst 0, 1) := by decide +kernel
theorem dX4_isHopeless_88 : decode cX4_isHopeless 88 = .ok (.iload 5, 2) := by decide +kernel
theorem dX4_isHopeless_90 : decode cX4_isHopeless 90 = .ok (.iload 6, 2) := by decide +kernel
theorem dX4_isHopeless_92 : decode cX4_isHopeless 92 = .ok (.invokestatic 124, 3) := by decide +kernel
theorem dX4_isHopeless_95 : decode cX4_isHopeless 95 = .ok (.invokestatic 124, 3) := by decide +kernel
theorem dX4_isHopeless_98 : decode cX4_isHopeless 98 = .ok (.iadd, 1) := by decide +kernel
theorem dX4_isHopeless_99 : decode cX4_isHopeless 99 = .ok (.aload_n 0, 1) := by decide +kernel
theorem dX4_isHopeless_100 : decode cX4_isHopeless 100 = .ok (.getfield 40, 3) := by decide +kernel
theorem dX4_isHopeless_103 : decode cX4_isHopeless 103 = .ok (.if_icmp .le 7, 3) := by decide +kernel
theorem dX4_isHopeless_106 : decode cX4_isHopeless 106 = .ok (.iconst 1, 1) := by decide +kernel
theorem dX4_isHopeless_107 : decode cX4_isHopeless 107 = .ok (.goto 4, 3) := by decide +kernel
theorem dX4_isHopeless_110 : decode cX4_isHopeless 110 = .ok (.iconst 0, 1) := by decide +kernel
theorem dX4_isHopeless_111 : decode cX4_isHopeless 111 = .ok (.ireturn, 1) := by decide +kernel
theorem dX4_judge_0 : decode cX4_judge 0 = .ok (.iconst 0, 1) := by decide +kernel
theorem dX4_judge_1 : decode cX4_judge 1 = .ok (.aload_n 0, 1) := by decide +kernel
theorem dX4_judge_2 : decode cX4_judge 2 = .ok (.getfield 106, 3) := by decide +kernel
theorem dX4_judge_5 : decode cX4_judge 5 = .ok (.iload_n 3, 1) := by decide +kernel
theorem dX4_judge_6 : decode cX4_judge 6 = .ok (.isub, 1) := by decide +kernel
theorem dX4_judge_7 : decode cX4_judge 7 = .ok (.invokestatic 124, 3) := by decide +kernel
theorem dX4_judge_10 : decode cX4_judge 10 = .ok (.istore 7, 2) := by decide +kernel
theorem dX4_judge_12 : decode cX4_judge 12 = .ok (.iload_n 1, 1) := by decide +kernel
theorem dX4_judge_13 : decode cX4_judge 13 = .ok (.ifCond .le 9, 3) := by decide +kernel
theorem dX4_judge_16 : decode cX4_judge 16 = .ok (.iload_n 2, 1) := by decide +kernel
theorem dX4_judge_17 : decode cX4_judge 17 = .ok (.iload_n 1, 1) := by decide +kernel
theorem dX4_judge_18 : decode cX4_judge 18 = .ok (.idiv, 1) := by decide +kernel
theorem dX4_judge_19 : decode cX4_judge 19 = .ok (.goto 4, 3) := by decide +kernel
theorem dX4_judge_22 : decode cX4_judge 22 = .ok (.iconst 0, 1) := by decide +kernel
theorem dX4_judge_23 : decode cX4_judge 23 = .ok (.aload_n 0, 1) := by decide +kernel
theorem dX4_judge_24 : decode cX4_judge 24 = .ok (.getfield 11, 3) := by decide +kernel
theorem dX4_judge_27 : decode cX4_judge 27 = .ok (.iload 7, 2) := by decide +kernel
theorem dX4_judge_29 : decode cX4_judge 29 = .ok (.iaload, 1) := by decide +kernel
theorem dX4_judge_30 : decode cX4_judge 30 = .ok (.iconst 5, 1) := by decide +kernel
theorem dX4_judge_31 : decode cX4_judge 31 = .ok (.idiv, 1) := by decide +kernel
theorem dX4_judge_32 : decode cX4_judge 32 = .ok (.iadd, 1) := by decide +kernel
theorem dX4_judge_33 : decode cX4_judge 33 = .ok (.istore 8, 2) := by decide +kernel
theorem dX4_judge_35 : decode cX4_judge 35 = .ok (.iload 8, 2) := by decide +kernel
theorem dX4_judge_37 : decode cX4_judge 37 = .ok (.iload 7, 2) := by decide +kernel
theorem dX4_judge_39 : decode cX4_judge 39 = .ok (.aload_n 0, 1) := by decide +kernel
theorem dX4_judge_40 : decode cX4_judge 40 = .ok (.getfield 84, 3) := by decide +kernel
theorem dX4_judge_43 : decode cX4_judge 43 = .ok (.aload_n 0, 1) := by decide +kernel
theorem dX4_judge_44 : decode cX4_judge 44 = .ok (.getfield 87, 3) := by decide +kernel
theorem dX4_judge_47 : decode cX4_judge 47 = .ok (.invokestatic 145, 3) := by decide +kernel
theorem dX4_judge_50 : decode cX4_judge 50 = .ok (.istore 9, 2) := by decide +kernel
theorem dX4_judge_52 : decode cX4_judge 52 = .ok (.iload 9, 2) := by decide +kernel
theorem dX4_judge_54 : decode cX4_judge 54 = .ok (.aload_n 0, 1) := by decide +kernel
theorem dX4_judge_55 : decode cX4_judge 55 = .ok (.getfield 40, 3) := by decide +kernel
theorem dX4_judge_58 : decode cX4_judge 58 = .ok (.if_icmp .le 4, 3) := by decide +kernel
theorem dX4_judge_61 : decode cX4_judge 61 = .ok (.return_, 1) := by decide +kernel
theorem dX4_judge_62 : decode cX4_judge 62 = .ok (.aload_n 0, 1) := by decide +kernel
theorem dX4_judge_63 : decode cX4_judge 63 = .ok (.getfield 33, 3) := by decide +kernel
theorem dX4_judge_66 : decode cX4_judge 66 = .ok (.ifCond .eq 8, 3) := by decide +kernel
theorem dX4_judge_69 : decode cX4_judge 69 = .ok (.iload 9, 2) := by decide +kernel
theorem dX4_judge_71 : decode cX4_judge 71 = .ok (.goto 4, 3) := by decide +kernel
theorem dX4_judge_74 : decode cX4_judge 74 = .ok (.iconst 0, 1) := by decide +kernel
theorem dX4_judge_75 : decode cX4_judge 75 = .ok (.i2l, 1) := by decide +kernel
theorem dX4_judge_76 : decode cX4_judge 76 = .ok (.bipush 39, 2) := by decide +kernel
theorem dX4_judge_78 : decode cX4_judge 78 = .ok (.lshl, 1) := by decide +kernel
theorem dX4_judge_79 : decode cX4_judge 79 = .ok (.iload 4, 2) := by decide +kernel
theorem dX4_judge_81 : decode cX4_judge 81 = .ok (.i2l, 1) := by decide +kernel
theorem dX4_judge_82 : decode cX4_judge 82 = .ok (.bipush 36, 2) := by decide +kernel
theorem dX4_judge_84 : decode cX4_judge 84 = .ok (.lshl, 1) := by decide +kernel
theorem dX4_judge_85 : decode cX4_judge 85 = .ok (.ladd, 1) := by decide +kernel
theorem dX4_judge_86 : decode cX4_judge 86 = .ok (.lload 5, 2) := by decide +kernel
theorem dX4_judge_88 : decode cX4_judge 88 = .ok (.ladd, 1) := by decide +kernel
theorem dX4_judge_89 : decode cX4_judge 89 = .ok (.lstore 10, 2) := by decide +kernel
theorem dX4_judge_91 : decode cX4_judge 91 = .ok (.lload 10, 2) := by decide +kernel
theorem dX4_judge_93 : decode cX4_judge 93 = .ok (.aload_n 0, 1) := by decide +kernel
theorem dX4_judge_94 : decode cX4_judge 94 = .ok (.getfield 48, 3) := by decide +kernel
theorem dX4_judge_97 : decode cX4_judge 97 = .ok (.lcmp, 1) := by decide +kernel
theorem dX4_judge_98 : decode cX4_judge 98 = .ok (.ifCond .ge 29, 3) := by decide +kernel
theorem dX4_judge_101 : decode cX4_judge 101 = .ok (.aload_n 0, 1) := by decide +kernel
theorem dX4_judge_102 : decode cX4_judge 102 = .ok (.lload 10, 2) := by decide +kernel
theorem dX4_judge_104 : decode cX4_judge 104 = .ok (.putfield 48, 3) := by decide +kernel
theorem dX4_judge_107 : decode cX4_judge 107 = .ok (.aload_n 0, 1) := by decide +kernel
theorem dX4_judge_108 : decode cX4_judge 108 = .ok (.aload_n 0, 1) := by decide +kernel
theorem dX4_judge_109 : decode cX4_judge 109 = .ok (.getfield 33, 3) := by decide +kernel
theorem dX4_judge_112 : decode cX4_judge 112 = .ok (.ifCond .eq 8, 3) := by decide +kernel
theorem dX4_judge_115 : decode cX4_judge 115 = .ok (.iload 9, 2) := by decide +kernel
theorem dX4_judge_117 : decode cX4_judge 117 = .ok (.goto 7, 3) := by decide +kernel
theorem dX4_judge_120 : decode cX4_judge 120 = .ok (.aload_n 0, 1) := by decide +kernel
theorem dX4_judge_121 : decode cX4_judge 121 = .ok (.getfield 40, 3) := by decide +kernel
theorem dX4_judge_124 : decode cX4_judge 124 = .ok (.putfield 40, 3) := by decide +kernel
theorem dX4_judge_127 : decode cX4_judge 127 = .ok (.return_, 1) := by decide +kernel
theorem dX5_init_0 : decode cX5_init 0 = .ok (.aload_n 0, 1) := by decide +kernel
theorem dX5_init_1 : decode cX5_init 1 = .ok (.invokespecial 3, 3) := by decide +kernel
theorem dX5_init_4 : decode cX5_init 4 = .ok (.aload_n 0, 1) := by decide +kernel
theorem dX5_init_5 : decode cX5_init 5 = .ok (.bipush 6, 2) := by decide +kernel
theorem dX5_init_7 : decode cX5_init 7 = .ok (.newarray .int, 2) := by decide +kernel
theorem dX5_init_9 : decode cX5_init 9 = .ok (.putfield 9, 3) := by decide +kernel
theorem dX5_init_12 : decode cX5_init 12 = .ok (.aload_n 0, 1) := by decide +kernel
theorem dX5_init_13 : decode cX5_init 13 = .ok (.bipush 6, 2) := by decide +kernel
theorem dX5_init_15 : decode cX5_init 15 = .ok (.newarray .int, 2) := by decide +kernel
theorem dX5_init_17 : decode cX5_init 17 = .ok (.putfield 15, 3) := by decide +kernel
theorem dX5_init_20 : decode cX5_init 20 = .ok (.aload_n 0, 1) := by decide +kernel
theorem dX5_init_21 : decode cX5_init 21 = .ok (.bipush 6, 2) := by decide +kernel
theorem dX5_init_23 : decode cX5_init 23 = .ok (.newarray .int, 2) := by decide +kernel
theorem dX5_init_25 : decode cX5_init 25 = .ok (.putfield 18, 3) := by decide +kernel
theorem dX5_init_28 : decode cX5_init 28 = .ok (.aload_n 0, 1) := by decide +kernel
theorem dX5_init_29 : decode cX5_init 29 = .ok (.bipush 6, 2) := by decide +kernel
theorem dX5_init_31 : decode cX5_init 31 = .ok (.newarray .int, 2) := by decide +kernel
theorem dX5_init_33 : decode cX5_init 33 = .ok (.putfield 21, 3) := by decide +kernel
theorem dX5_init_36 : decode cX5_init 36 = .ok (.aload_n 0, 1) := by decide +kernel
theorem dX5_init_37 : decode cX5_init 37 = .ok (.bipush 6, 2) := by decide +kernel
theorem dX5_init_39 : decode cX5_init 39 = .ok (.newarray .int, 2) := by decide +kernel
theorem dX5_init_41 : decode cX5_init 41 = .ok (.putfield 24, 3) := by decide +kernel
theorem dX5_init_44 : decode cX5_init 44 = .ok (.aload_n 0, 1) := by decide +kernel
theorem dX5_init_45 : decode cX5_init 45 = .ok (.bipush 20, 2) := by decide +kernel
theorem dX5_init_47 : decode cX5_init 47 = .ok (.putfield 27, 3) := by decide +kernel
theorem dX5_init_50 : decode cX5_init 50 = .ok (.aload_n 0, 1) := by decide +kernel
theorem dX5_init_51 : decode cX5_init 51 = .ok (.iconst 2, 1) := by decide +kernel
theorem dX5_init_52 : decode cX5_init 52 = .ok (.putfield 31, 3) := by decide +kernel
theorem dX5_init_55 : decode cX5_init 55 = .ok (.aload_n 0, 1) := by decide +kernel
theorem dX5_init_56 : decode cX5_init 56 = .ok (.iconst 5, 1) := by decide +kernel
theorem dX5_init_57 : decode cX5_init 57 = .ok (.putfield 34, 3) := by decide +kernel
theorem dX5_init_60 : decode cX5_init 60 = .ok (.aload_n 0, 1) := by decide +kernel
theorem dX5_init_61 : decode cX5_init 61 = .ok (.iconst 0, 1) := by decide +kernel
theorem dX5_init_62 : decode cX5_init 62 = .ok (.putfield 37, 3) := by decide +kernel
theorem dX5_init_65 : decode cX5_init 65 = .ok (.aload_n 0, 1) := by decide +kernel
theorem dX5_init_66 : decode cX5_init 66 = .ok (.getstatic 40, 3) := by decide +kernel
theorem dX5_init_69 : decode cX5_init 69 = .ok (.putfield 43, 3) := by decide +kernel
theorem dX5_init_72 : decode cX5_init 72 = .ok (.aload_n 0, 1) := by decide +kernel
theorem dX5_init_73 : decode cX5_init 73 = .ok (.getstatic 40, 3) := by decide +kernel
theorem dX5_init_76 : decode cX5_init 76 = .ok (.putfield 46, 3) := by decide +kernel
theorem dX5_init_79 : decode cX5_init 79 = .ok (.return_, 1) := by decide +kernel
theorem dX5_hasWind_0 : decode cX5_hasWind 0 = .ok (.aload_n 0, 1) := by decide +kernel
theorem dX5_hasWind_1 : decode cX5_hasWind 1 = .ok (.getfield 43, 3) := by decide +kernel
theorem dX5_hasWind_4 : decode cX5_hasWind 4 = .ok (.arraylength, 1) := by decide +kernel
theorem dX5_hasWind_5 : decode cX5_hasWind 5 = .ok (.ifCond .le 7, 3) := by decide +kernel
theorem dX5_hasWind_8 : decode cX5_hasWind 8 = .ok (.iconst 1, 1) := by decide +kernel
theorem dX5_hasWind_9 : decode cX5_hasWind 9 = .ok (.goto 4, 3) := by decide +kernel
theorem dX5_hasWind_12 : decode cX5_hasWind 12 = .ok (.iconst 0, 1) := by decide +kernel
theorem dX5_hasWind_13 : decode cX5_hasWind 13 = .ok (.ireturn, 1) := by decide +kernel
theorem dX5_hasRule_0 : decode cX5_hasRule 0 = .ok (.aload_n 0, 1) := by decide +kernel
theorem dX5_hasRule_1 : decode cX5_hasRule 1 = .ok (.getfield 46, 3) := by decide +kernel
theorem dX5_hasRule_4 : decode cX5_hasRule 4 = .ok (.arraylength, 1) := by decide +kernel
theorem dX5_hasRule_5 : decode cX5_hasRule 5 = .ok (.ifCond .le 7, 3) := by decide +kernel
theorem dX5_hasRule_8 : decode cX5_hasRule 8 = .ok (.iconst 1, 1) := by decide +kernel
theorem dX5_hasRule_9 : decode cX5_hasRule 9 = .ok (.goto 4, 3) := by decide +kernel
theorem dX5_hasRule_12 : decode cX5_hasRule 12 = .ok (.iconst 0, 1) := by decide +kernel
theorem dX5_hasRule_13 : decode cX5_hasRule 13 = .ok (.ireturn, 1) := by decide +kernel
theorem dX5_pullOf_0 : decode cX5_pullOf 0 = .ok (.aload_n 0, 1) := by decide +kernel
theorem dX5_pullOf_1 : decode cX5_pullOf 1 = .ok (.getfield 9, 3) := by decide +kernel
theorem dX5_pullOf_4 : decode cX5_pullOf 4 = .ok (.iload_n 1, 1) := by decide +kernel
theorem dX5_pullOf_5 : decode cX5_pullOf 5 = .ok (.iaload, 1) := by decide +kernel
theorem dX5_pullOf_6 : decode cX5_pullOf 6 = .ok (.istore 4, 2) := by decide +kernel
theorem dX5_pullOf_8 : decode cX5_pullOf 8 = .ok (.iload 4, 2) := by decide +kernel
theorem dX5_pullOf_10 : decode cX5_pullOf 10 = .ok (.iconst 2, 1) := by decide +kernel
theorem dX5_pullOf_11 : decode cX5_pullOf 11 = .ok (.if_icmp .ne 14, 3) := by decide +kernel
theorem dX5_pullOf_14 : decode cX5_pullOf 14 = .ok (.aload_n 0, 1) := by decide +kernel
theorem dX5_pullOf_15 : decode cX5_pullOf 15 = .ok (.getfield 21, 3) := by decide +kernel
theorem dX5_pullOf_18 : decode cX5_pullOf 18 = .ok (.iload_n 1, 1) := by decide +kernel
theorem dX5_pullOf_19 : decode cX5_pullOf 19 = .ok (.iaload, 1) := by decide +kernel
theorem dX5_pullOf_20 : decode cX5_pullOf 20 = .ok (.iconst 2, 1) := by decide +kernel
theorem dX5_pullOf_21 : decode cX5_pullOf 21 = .ok (.idiv, 1) := by decide +kernel
theorem dX5_pullOf_22 : decode cX5_pullOf 22 = .ok (.goto 9, 3) := by decide +kernel
theorem dX5_pullOf_25 : decode cX5_pullOf 25 = .ok (.aload_n 0, 1) := by decide +kernel
theorem dX5_pullOf_26 : decode cX5_pullOf 26 = .ok (.getfield 21, 3) := by decide +kernel
theorem dX5_pullOf_29 : decode cX5_pullOf 29 = .ok (.iload_n 1, 1) := by decide +kernel
theorem dX5_pullOf_30 : decode cX5_pullOf 30 = .ok (.iaload, 1) := by decide +kernel
theorem dX5_pullOf_31 : decode cX5_pullOf 31 = .ok (.istore 5, 2) := by decide +kernel
theorem dX5_pullOf_33 : decode cX5_pullOf 33 = .ok (.iload_n 2, 1) := by decide +kernel
theorem dX5_pullOf_34 : decode cX5_pullOf 34 = .ok (.ifCond .le 9, 3) := by decide +kernel
theorem dX5_pullOf_37 : decode cX5_pullOf 37 = .ok (.iload_n 3, 1) := by decide +kernel
theorem dX5_pullOf_38 : decode cX5_pullOf 38 = .ok (.iload 5, 2) := by decide +kernel
theorem dX5_pullOf_40 : decode cX5_pullOf 40 = .ok (.if_icmp .ge 5, 3) := by decide +kernel
theorem dX5_pullOf_43 : decode cX5_pullOf 43 = .ok (.iconst (-1), 1) := by decide +kernel
theorem dX5_pullOf_44 : decode cX5_pullOf 44 = .ok (.ireturn, 1) := by decide +kernel
theorem dX5_pullOf_45 : decode cX5_pullOf 45 = .ok (.aload_n 0, 1) := by decide +kernel
theorem dX5_pullOf_46 : decode cX5_pullOf 46 = .ok (.getfield 18, 3) := by decide +kernel
theorem dX5_pullOf_49 : decode cX5_pullOf 49 = .ok (.iload_n 1, 1) := by decide +kernel
theorem dX5_pullOf_50 : decode cX5_pullOf 50 = .ok (.iaload, 1) := by decide +kernel
theorem dX5_pullOf_51 : decode cX5_pullOf 51 = .ok (.iload_n 3, 1) := by decide +kernel
theorem dX5_pullOf_52 : decode cX5_pullOf 52 = .ok (.imul, 1) := by decide +kernel
theorem dX5_pullOf_53 : decode cX5_pullOf 53 = .ok (.bipush 10, 2) := by decide +kernel
theorem dX5_pullOf_55 : decode cX5_pullOf 55 = .ok (.idiv, 1) := by decide +kernel
theorem dX5_pullOf_56 : decode cX5_pullOf 56 = .ok (.istore 6, 2) := by decide +kernel
theorem dX5_pullOf_58 : decode cX5_pullOf 58 = .ok (.iload 4, 2) := by decide +kernel
theorem dX5_pullOf_60 : decode cX5_pullOf 60 = .ok (.iconst 1, 1) := by decide +kernel
theorem dX5_pullOf_61 : decode cX5_pullOf 61 = .ok (.if_icmp .ne 14, 3) := by decide +kernel
theorem dX5_pullOf_64 : decode cX5_pullOf 64 = .ok (.iload_n 3, 1) := by decide +kernel
theorem dX5_pullOf_65 : decode cX5_pullOf 65 = .ok (.bipush 40, 2) := by decide +kernel
theorem dX5_pullOf_67 : decode cX5_pullOf 67 = .ok (.if_icmp .lt 8, 3) := by decide +kernel
theorem dX5_pullOf_70 : decode cX5_pullOf 70 = .ok (.iconst 2, 1) := by decide +kernel
theorem dX5_pullOf_71 : decode cX5_pullOf 71 = .ok (.iload 6, 2) := by decide +kernel
theorem dX5_pullOf_73 : decode cX5_pullOf 73 = .ok (.imul, 1) := by decide +kernel
theorem dX5_pullOf_74 : decode cX5_pullOf 74 = .ok (.ireturn, 1) := by decide +kernel
theorem dX5_pullOf_75 : decode cX5_pullOf 75 = .ok (.iload 4, 2) := by decide +kernel
theorem dX5_pullOf_77 : decode cX5_pullOf 77 = .ok (.iconst 3, 1) := by decide +kernel
theorem dX5_pullOf_78 : decode cX5_pullOf 78 = .ok (.if_icmp .ne 14, 3) := by decide +kernel
theorem dX5_pullOf_81 : decode cX5_pullOf 81 = .ok (.iconst 0, 1) := by decide +kernel
theorem dX5_pullOf_82 : decode cX5_pullOf 82 = .ok (.iload 6, 2) := by decide +kernel
theorem dX5_pullOf_84 : decode cX5_pullOf 84 = .ok (.iconst 3, 1) := by decide +kernel
theorem dX5_pullOf_85 : decode cX5_pullOf 85 = .ok (.isub, 1) := by decide +kernel
theorem dX5_pullOf_86 : decode cX5_pullOf 86 = .ok (.invokestatic 49, 3) := by decide +kernel
theorem dX5_pullOf_89 : decode cX5_pullOf 89 = .ok (.goto 5, 3) := by decide +kernel
theorem dX5_pullOf_92 : decode cX5_pullOf 92 = .ok (.iload 6, 2) := by decide +kernel
theorem dX5_pullOf_94 : decode cX5_pullOf 94 = .ok (.ireturn, 1) := by decide +kernel
theorem dX6_init_0 : decode cX6_init 0 = .ok (.aload_n 0, 1) := by decide +kernel
theorem dX6_init_1 : decode cX6_init 1 = .ok (.invokespecial 3, 3) := by decide +kernel
theorem dX6_init_4 : decode cX6_init 4 = .ok (.aload_n 0, 1) := by decide +kernel
theorem dX6_init_5 : decode cX6_init 5 = .ok (.new 9, 3) := by decide +kernel
theorem dX6_init_8 : decode cX6_init 8 = .ok (.dup, 1) := by decide +kernel
theorem dX6_init_9 : decode cX6_init 9 = .ok (.invokespecial 11, 3) := by decide +kernel
theorem dX6_init_12 : decode cX6_init 12 = .ok (.putfield 12, 3) := by decide +kernel
theorem dX6_init_15 : decode cX6_init 15 = .ok (.aload_n 0, 1) := by decide +kernel
theorem dX6_init_16 : decode cX6_init 16 = .ok (.bipush 6, 2) := by decide +kernel
theorem dX6_init_18 : decode cX6_init 18 = .ok (.newarray .long, 2) := by decide +kernel
theorem dX6_init_20 : decode cX6_init 20 = .ok (.putfield 18, 3) := by decide +kernel
theorem dX6_init_23 : decode cX6_init 23 = .ok (.aload_n 0, 1) := by decide +kernel
theorem dX6_init_24 : decode cX6_init 24 = .ok (.sipush 1000, 3) := by decide +kernel
theorem dX6_init_27 : decode cX6_init 27 = .ok (.newarray .int, 2) := by decide +kernel
theorem dX6_init_29 : decode cX6_init 29 = .ok (.putfield 22, 3) := by decide +kernel
theorem dX6_init_32 : decode cX6_init 32 = .ok (.aload_n 0, 1) := by decide +kernel
theorem dX6_init_33 : decode cX6_init 33 = .ok (.aload_n 1, 1) := by decide +kernel
theorem dX6_init_34 : decode cX6_init 34 = .ok (.putfield 26, 3) := by decide +kernel
theorem dX6_init_37 : decode cX6_init 37 = .ok (.return_, 1) := by decide +kernel
theorem dX6_read_0 : decode cX6_read 0 = .ok (.aload_n 0, 1) := by decide +kernel
theorem dX6_read_1 : decode cX6_read 1 = .ok (.iconst 0, 1) := by decide +kernel
theorem dX6_read_2 : decode cX6_read 2 = .ok (.putfield 30, 3) := by decide +kernel
theorem dX6_read_5 : decode cX6_read 5 = .ok (.aload_n 0, 1) := by decide +kernel
theorem dX6_read_6 : decode cX6_read 6 = .ok (.iconst 0, 1) := by decide +kernel
theorem dX6_read_7 : decode cX6_read 7 = .ok (.putfield 34, 3) := by decide +kernel
theorem dX6_read_10 : decode cX6_read 10 = .ok (.aload_n 0, 1) := by decide +kernel
theorem dX6_read_11 : decode cX6_read 11 = .ok (.aload_n 3, 1) := by decide +kernel
theorem dX6_read_12 : decode cX6_read 12 = .ok (.putfield 26, 3) := by decide +kernel
theorem dX6_read_15 : decode cX6_read 15 = .ok (.aload_n 0, 1) := by decide +kernel
theorem dX6_read_16 : decode cX6_read 16 = .ok (.getfield 12, 3) := by decide +kernel
theorem dX6_read_19 : decode cX6_read 19 = .ok (.aload_n 1, 1) := by decide +kernel
theorem dX6_read_20 : decode cX6_read 20 = .ok (.iload_n 2, 1) := by decide +kernel
theorem dX6_read_21 : decode cX6_read 21 = .ok (.invokevirtual 37, 3) := by decide +kernel
theorem dX6_read_24 : decode cX6_read 24 = .ok (.iconst 0, 1) := by decide +kernel
theorem dX6_read_25 : decode cX6_read 25 = .ok (.istore 4, 2) := by decide +kernel
theorem dX6_read_27 : decode cX6_read 27 = .ok (.iload 4, 2) := by decide +kernel
theorem dX6_read_29 : decode cX6_read 29 = .ok (.sipush 1000, 3) := by decide +kernel
theorem dX6_read_32 : decode cX6_read 32 = .ok (.if_icmp .gt 76, 3) := by decide +kernel
theorem dX6_read_35 : decode cX6_read 35 = .ok (.aload_n 0, 1) := by decide +kernel
theorem dX6_read_36 : decode cX6_read 36 = .ok (.getfield 12, 3) := by decide +kernel
theorem dX6_read_39 : decode cX6_read 39 = .ok (.getfield 41, 3) := by decide +kernel
theorem dX6_read_42 : decode cX6_read 42 = .ok (.bipush 35, 2) := by decide +kernel
theorem dX6_read_44 : decode cX6_read 44 = .ok (.if_icmp .eq 64, 3) := by decide +kernel
theorem dX6_read_47 : decode cX6_read 47 = .ok (.aload_n 0, 1) := by decide +kernel
theorem dX6_read_48 : decode cX6_read 48 = .ok (.getfield 12, 3) := by decide +kernel
theorem dX6_read_51 : decode cX6_read 51 = .ok (.getfield 41, 3) := by decide +kernel
theorem dX6_read_54 : decode cX6_read 54 = .ok (.bipush 6, 2) := by decide +kernel
theorem dX6_read_56 : decode cX6_read 56 = .ok (.if_icmp .ne 10, 3) := by decide +kernel
theorem dX6_read_59 : decode cX6_read 59 = .ok (.aload_n 0, 1) := by decide +kernel
theorem dX6_read_60 : decode cX6_read 60 = .ok (.invokevirtual 46, 3) := by decide +kernel
theorem dX6_read_63 : decode cX6_read 63 = .ok (.goto 33, 3) := by decide +kernel
theorem dX6_read_66 : decode cX6_read 66 = .ok (.aload_n 0, 1) := by decide +kernel
theorem dX6_read_67 : decode cX6_read 67 = .ok (.getfield 12, 3) := by decide +kernel
theorem dX6_read_70 : decode cX6_read 70 = .ok (.getfield 41, 3) := by decide +kernel
theorem dX6_read_73 : decode cX6_read 73 = .ok (.iconst 5, 1) := by decide +kernel
theorem dX6_read_74 : decode cX6_read 74 = .ok (.if_icmp .gt 17, 3) := by decide +kernel
theorem dX6_read_77 : decode cX6_read 77 = .ok (.aload_n 0, 1) := by decide +kernel
theorem dX6_read_78 : decode cX6_read 78 = .ok (.aload_n 0, 1) := by decide +kernel
theorem dX6_read_79 : decode cX6_read 79 = .ok (.getfield 12, 3) := by decide +kernel
theorem dX6_read_82 : decode cX6_read 82 = .ok (.getfield 41, 3) := by decide +kernel
theorem dX6_read_85 : decode cX6_read 85 = .ok (.invokevirtual 49, 3) := by decide +kernel
theorem dX6_read_88 : decode cX6_read 88 = .ok (.goto 8, 3) := by decide +kernel
theorem dX6_read_91 : decode cX6_read 91 = .ok (.aload_n 0, 1) := by decide +kernel
theorem dX6_read_92 : decode cX6_read 92 = .ok (.iconst 1, 1) := by decide +kernel
theorem dX6_read_93 : decode cX6_read 93 = .ok (.invokevirtual 53, 3) := by decide +kernel
theorem dX6_read_96 : decode cX6_read 96 = .ok (.aload_n 0, 1) := by decide +kernel
theorem dX6_read_97 : decode cX6_read 97 = .ok (.bipush 34, 2) := by decide +kernel
theorem dX6_read_99 : decode cX6_read 99 = .ok (.invokevirtual 56, 3) := by decide +kernel
theorem dX6_read_102 : decode cX6_read 102 = .ok (.iinc 4 1, 3) := by decide +kernel
theorem dX6_read_105 : decode cX6_read 105 = .ok (.goto (-78), 3) := by decide +kernel
theorem dX6_read_108 : decode cX6_read 108 = .ok (.aload_n 0, 1) := by decide +kernel
theorem dX6_read_109 : decode cX6_read 109 = .ok (.getfield 30, 3) := by decide +kernel
theorem dX6_read_112 : decode cX6_read 112 = .ok (.ireturn, 1) := by decide +kernel
theorem dX6_readOnce_0 : decode cX6_readOnce 0 = .ok (.aload_n 0, 1) := by decide +kernel
theorem dX6_readOnce_1 : decode cX6_readOnce 1 = .ok (.getfield 34, 3) := by decide +kernel
theorem dX6_readOnce_4 : decode cX6_readOnce 4 = .ok (.iload_n 1, 1) := by decide +kernel
theorem dX6_readOnce_5 : decode cX6_readOnce 5 = .ok (.ishr, 1) := by decide +kernel
theorem dX6_readOnce_6 : decode cX6_readOnce 6 = .ok (.iconst 1, 1) := by decide +kernel
theorem dX6_readOnce_7 : decode cX6_readOnce 7 = .ok (.iand, 1) := by decide +kernel
theorem dX6_readOnce_8 : decode cX6_readOnce 8 = .ok (.ifCond .eq 9, 3) := by decide +kernel
theorem dX6_readOnce_11 : decode cX6_readOnce 11 = .ok (.aload_n 0, 1) := by decide +kernel
theorem dX6_readOnce_12 : decode cX6_readOnce 12 = .ok (.iconst 3, 1) := by decide +kernel
theorem dX6_readOnce_13 : decode cX6_readOnce 13 = .ok (.invokevirtual 53, 3) := by decide +kernel
theorem dX6_readOnce_16 : decode cX6_readOnce 16 = .ok (.return_, 1) := by decide +kernel
theorem dX6_readOnce_17 : decode cX6_readOnce 17 = .ok (.aload_n 0, 1) := by decide +kernel
theorem dX6_readOnce_18 : decode cX6_readOnce 18 = .ok (.dup, 1) := by decide +kernel
theorem dX6_readOnce_19 : decode cX6_readOnce 19 = .ok (.getfield 34, 3) := by decide +kernel
theorem dX6_readOnce_22 : decode cX6_readOnce 22 = .ok (.iconst 1, 1) := by decide +kernel
theorem dX6_readOnce_23 : decode cX6_readOnce 23 = .ok (.iload_n 1, 1) := by decide +kernel
theorem dX6_readOnce_24 : decode cX6_readOnce 24 = .ok (.ishl, 1) := by decide +kernel
theorem dX6_readOnce_25 : decode cX6_readOnce 25 = .ok (.ior, 1) := by decide +kernel
theorem dX6_readOnce_26 : decode cX6_readOnce 26 = .ok (.putfield 34, 3) := by decide +kernel
theorem dX6_readOnce_29 : decode cX6_readOnce 29 = .ok (.aload_n 0, 1) := by decide +kernel
theorem dX6_readOnce_30 : decode cX6_readOnce 30 = .ok (.getfield 12, 3) := by decide +kernel
theorem dX6_readOnce_33 : decode cX6_readOnce 33 = .ok (.invokevirtual 59, 3) := by decide +kernel
theorem dX6_readOnce_36 : decode cX6_readOnce 36 = .ok (.iload_n 1, 1) := by decide +kernel
theorem dX6_readOnce_37 : decode cX6_readOnce 37 = .ok (.tableswitch 116 0 4 #[35, 50, 65, 83, 99], 35) := by decide +kernel
theorem dX6_readOnce_72 : decode cX6_readOnce 72 = .ok (.aload_n 0, 1) := by decide +kernel
theorem dX6_readOnce_73 : decode cX6_readOnce 73 = .ok (.getfield 26, 3) := by decide +kernel
theorem dX6_readOnce_76 : decode cX6_readOnce 76 = .ok (.aload_n 0, 1) := by decide +kernel
theorem dX6_readOnce_77 : decode cX6_readOnce 77 = .ok (.iload_n 1, 1) := by decide +kernel
theorem dX6_readOnce_78 : decode cX6_readOnce 78 = .ok (.invokevirtual 62, 3) := by decide +kernel
theorem dX6_readOnce_81 : decode cX6_readOnce 81 = .ok (.putfield 66, 3) := by decide +kernel
theorem dX6_readOnce_84 : decode cX6_readOnce 84 = .ok (.goto 83, 3) := by decide +kernel
theorem dX6_readOnce_87 : decode cX6_readOnce 87 = .ok (.aload_n 0, 1) := by decide +kernel
theorem dX6_readOnce_88 : decode cX6_readOnce 88 = .ok (.getfield 26, 3) := by decide +kernel
theorem dX6_readOnce_91 : decode cX6_readOnce 91 = .ok (.aload_n 0, 1) := by decide +kernel
theorem dX6_readOnce_92 : decode cX6_readOnce 92 = .ok (.iload_n 1, 1) := by decide +kernel
theorem dX6_readOnce_93 : decode cX6_readOnce 93 = .ok (.invokevirtual 62, 3) := by decide +kernel
theorem dX6_readOnce_96 : decode cX6_readOnce 96 = .ok (.putfield 71, 3) := by decide +kernel
theorem dX6_readOnce_99 : decode cX6_readOnce 99 = .ok (.goto 68, 3) := by decide +kernel
theorem dX6_readOnce_102 : decode cX6_readOnce 102 = .ok (.aload_n 0, 1) := by decide +kernel
theorem dX6_readOnce_103 : decode cX6_readOnce 103 = .ok (.getfield 26, 3) := by decide +kernel
theorem dX6_readOnce_106 : decode cX6_readOnce 106 = .ok (.aload_n 0, 1) := by decide +kernel
theorem dX6_readOnce_107 : decode cX6_readOnce 107 = .ok (.iconst 0, 1) := by decide +kernel
theorem dX6_readOnce_108 : decode cX6_readOnce 108 = .ok (.sipush 999, 3) := by decide +kernel
theorem dX6_readOnce_111 : decode cX6_readOnce 111 = .ok (.invokevirtual 74, 3) := by decide +kernel
theorem dX6_readOnce_114 : decode cX6_readOnce 114 = .ok (.putfield 78, 3) := by decide +kernel
theorem dX6_readOnce_117 : decode cX6_readOnce 117 = .ok (.goto 50, 3) := by decide +kernel
theorem dX6_readOnce_120 : decode cX6_readOnce 120 = .ok (.aload_n 0, 1) := by decide +kernel
theorem dX6_readOnce_121 : decode cX6_readOnce 121 = .ok (.getfield 26, 3) := by decide +kernel
theorem dX6_readOnce_124 : decode cX6_readOnce 124 = .ok (.aload_n 0, 1) := by decide +kernel
theorem dX6_readOnce_125 : decode cX6_readOnce 125 = .ok (.iconst 1, 1) := by decide +kernel
theorem dX6_readOnce_126 : decode cX6_readOnce 126 = .ok (.iconst 5, 1) := by decide +kernel
theorem dX6_readOnce_127 : decode cX6_readOnce 127 = .ok (.invokevirtual 74, 3) := by decide +kernel
theorem dX6_readOnce_130 : decode cX6_readOnce 130 = .ok (.putfield 81, 3) := by decide +kernel
theorem dX6_readOnce_133 : decode cX6_readOnce 133 = .ok (.goto 34, 3) := by decide +kernel
theorem dX6_readOnce_136 : decode cX6_readOnce 136 = .ok (.aload_n 0, 1) := by decide +kernel
theorem dX6_readOnce_137 : decode cX6_readOnce 137 = .ok (.getfield 26, 3) := by decide +kernel
theorem dX6_readOnce_140 : decode cX6_readOnce 140 = .ok (.aload_n 0, 1) := by decide +kernel
theorem dX6_readOnce_141 : decode cX6_readOnce 141 = .ok (.iconst 1, 1) := by decide +kernel
theorem dX6_readOnce_142 : decode cX6_readOnce 142 = .ok (.bipush 20, 2) := by decide +kernel
theorem dX6_readOnce_144 : decode cX6_readOnce 144 = .ok (.invokevirtual 74, 3) := by decide +kernel
theorem dX6_readOnce_147 : decode cX6_readOnce 147 = .ok (.putfield 84, 3) := by decide +kernel
theorem dX6_readOnce_150 : decode cX6_readOnce 150 = .ok (.goto 17, 3) := by decide +kernel
theorem dX6_readOnce_153 : decode cX6_readOnce 153 = .ok (.aload_n 0, 1) := by decide +kernel
theorem dX6_readOnce_154 : decode cX6_readOnce 154 = .ok (.getfield 26, 3) := by decide +kernel
theorem dX6_readOnce_157 : decode cX6_readOnce 157 = .ok (.aload_n 0, 1) := by decide +kernel
theorem dX6_readOnce_158 : decode cX6_readOnce 158 = .ok (.iconst 0, 1) := by decide +kernel
theorem dX6_readOnce_159 : decode cX6_readOnce 159 = .ok (.bipush 50, 2) := by decide +kernel
theorem dX6_readOnce_161 : decode cX6_readOnce 161 = .ok (.invokevirtual 74, 3) := by decide +kernel
theorem dX6_readOnce_164 : decode cX6_readOnce 164 = .ok (.putfield 87, 3) := by decide +kernel
theorem dX6_readOnce_167 : decode cX6_readOnce 167 = .ok (.return_, 1) := by decide +kernel
theorem dX6_readKite_0 : decode cX6_readKite 0 = .ok (.aload_n 0, 1) := by decide +kernel
theorem dX6_readKite_1 : decode cX6_readKite 1 = .ok (.getfield 26, 3) := by decide +kernel
theorem dX6_readKite_4 : decode cX6_readKite 4 = .ok (.getfield 90, 3) := by decide +kernel
theorem dX6_readKite_7 : decode cX6_readKite 7 = .ok (.istore_n 1, 1) := by decide +kernel
theorem dX6_readKite_8 : decode cX6_readKite 8 = .ok (.iload_n 1, 1) := by decide +kernel
theorem dX6_readKite_9 : decode cX6_readKite 9 = .ok (.bipush 6, 2) := by decide +kernel
theorem dX6_readKite_11 : decode cX6_readKite 11 = .ok (.if_icmp .lt 9, 3) := by decide +kernel
theorem dX6_readKite_14 : decode cX6_readKite 14 = .ok (.aload_n 0, 1) := by decide +kernel
theorem dX6_readKite_15 : decode cX6_readKite 15 = .ok (.iconst 5, 1) := by decide +kernel
theorem dX6_readKite_16 : decode cX6_readKite 16 = .ok (.invokevirtual 53, 3) := by decide +kernel
theorem dX6_readKite_19 : decode cX6_readKite 19 = .ok (.return_, 1) := by decide +kernel
theorem dX6_readKite_20 : decode cX6_readKite 20 = .ok (.aload_n 0, 1) := by decide +kernel
theorem dX6_readKite_21 : decode cX6_readKite 21 = .ok (.getfield 12, 3) := by decide +kernel
theorem dX6_readKite_24 : decode cX6_readKite 24 = .ok (.invokevirtual 59, 3) := by decide +kernel
theorem dX6_readKite_27 : decode cX6_readKite 27 = .ok (.aload_n 0, 1) := by decide +kernel
theorem dX6_readKite_28 : decode cX6_readKite 28 = .ok (.getfield 18, 3) := by decide +kernel
theorem dX6_readKite_31 : decode cX6_readKite 31 = .ok (.iload_n 1, 1) := by decide +kernel
theorem dX6_readKite_32 : decode cX6_readKite 32 = .ok (.aload_n 0, 1) := by decide +kernel
theorem dX6_readKite_33 : decode cX6_readKite 33 = .ok (.iload_n 1, 1) := by decide +kernel
theorem dX6_readKite_34 : decode cX6_readKite 34 = .ok (.invokevirtual 93, 3) := by decide +kernel
theorem dX6_readKite_37 : decode cX6_readKite 37 = .ok (.lastore, 1) := by decide +kernel
theorem dX6_readKite_38 : decode cX6_readKite 38 = .ok (.aload_n 0, 1) := by decide +kernel
theorem dX6_readKite_39 : decode cX6_readKite 39 = .ok (.getfield 26, 3) := by decide +kernel
theorem dX6_readKite_42 : decode cX6_readKite 42 = .ok (.getfield 97, 3) := by decide +kernel
theorem dX6_readKite_45 : decode cX6_readKite 45 = .ok (.iload_n 1, 1) := by decide +kernel
theorem dX6_readKite_46 : decode cX6_readKite 46 = .ok (.aload_n 0, 1) := by decide +kernel
theorem dX6_readKite_47 : decode cX6_readKite 47 = .ok (.invokevirtual 100, 3) := by decide +kernel
theorem dX6_readKite_50 : decode cX6_readKite 50 = .ok (.iastore, 1) := by decide +kernel
theorem dX6_readKite_51 : decode cX6_readKite 51 = .ok (.aload_n 0, 1) := by decide +kernel
theorem dX6_readKite_52 : decode cX6_readKite 52 = .ok (.bipush 7, 2) := by decide +kernel
theorem dX6_readKite_54 : decode cX6_readKite 54 = .ok (.invokevirtual 56, 3) := by decide +kernel
theorem dX6_readKite_57 : decode cX6_readKite 57 = .ok (.aload_n 0, 1) := by decide +kernel
theorem dX6_readKite_58 : decode cX6_readKite 58 = .ok (.getfield 26, 3) := by decide +kernel
theorem dX6_readKite_61 : decode cX6_readKite 61 = .ok (.getfield 104, 3) := by decide +kernel
theorem dX6_readKite_64 : decode cX6_readKite 64 = .ok (.iload_n 1, 1) := by decide +kernel
theorem dX6_readKite_65 : decode cX6_readKite 65 = .ok (.aload_n 0, 1) := by decide +kernel
theorem dX6_readKite_66 : decode cX6_readKite 66 = .ok (.iconst 0, 1) := by decide +kernel
theorem dX6_readKite_67 : decode cX6_readKite 67 = .ok (.bipush 99, 2) := by decide +kernel
theorem dX6_readKite_69 : decode cX6_readKite 69 = .ok (.invokevirtual 74, 3) := by decide +kernel
theorem dX6_readKite_72 : decode cX6_readKite 72 = .ok (.iastore, 1) := by decide +kernel
theorem dX6_readKite_73 : decode cX6_readKite 73 = .ok (.aload_n 0, 1) := by decide +kernel
theorem dX6_readKite_74 : decode cX6_readKite 74 = .ok (.bipush 8, 2) := by decide +kernel
theorem dX6_readKite_76 : decode cX6_readKite 76 = .ok (.invokevirtual 56, 3) := by decide +kernel
theorem dX6_readKite_79 : decode cX6_readKite 79 = .ok (.aload_n 0, 1) := by decide +kernel
theorem dX6_readKite_80 : decode cX6_readKite 80 = .ok (.getfield 26, 3) := by decide +kernel
theorem dX6_readKite_83 : decode cX6_readKite 83 = .ok (.getfield 107, 3) := by decide +kernel
theorem dX6_readKite_86 : decode cX6_readKite 86 = .ok (.iload_n 1, 1) := by decide +kernel
theorem dX6_readKite_87 : decode cX6_readKite 87 = .ok (.aload_n 0, 1) := by decide +kernel
theorem dX6_readKite_88 : decode cX6_readKite 88 = .ok (.iconst 1, 1) := by decide +kernel
theorem dX6_readKite_89 : decode cX6_readKite 89 = .ok (.bipush 20, 2) := by decide +kernel
theorem dX6_readKite_91 : decode cX6_readKite 91 = .ok (.invokevirtual 74, 3) := by decide +kernel
theorem dX6_readKite_94 : decode cX6_readKite 94 = .ok (.iastore, 1) := by decide +kernel
theorem dX6_readKite_95 : decode cX6_readKite 95 = .ok (.aload_n 0, 1) := by decide +kernel
theorem dX6_readKite_96 : decode cX6_readKite 96 = .ok (.bipush 9, 2) := by decide +kernel
theorem dX6_readKite_98 : decode cX6_readKite 98 = .ok (.invokevirtual 56, 3) := by decide +kernel
theorem dX6_readKite_101 : decode cX6_readKite 101 = .ok (.aload_n 0, 1) := by decide +kernel
theorem dX6_readKite_102 : decode cX6_readKite 102 = .ok (.getfield 26, 3) := by decide +kernel
theorem dX6_readKite_105 : decode cX6_readKite 105 = .ok (.getfield 110, 3) := by decide +kernel
theorem dX6_readKite_108 : decode cX6_readKite 108 = .ok (.iload_n 1, 1) := by decide +kernel
theorem dX6_readKite_109 : decode cX6_readKite 109 = .ok (.aload_n 0, 1) := by decide +kernel
theorem dX6_readKite_110 : decode cX6_readKite 110 = .ok (.iconst 0, 1) := by decide +kernel
theorem dX6_readKite_111 : decode cX6_readKite 111 = .ok (.bipush 99, 2) := by decide +kernel
theorem dX6_readKite_113 : decode cX6_readKite 113 = .ok (.invokevirtual 74, 3) := by decide +kernel
theorem dX6_readKite_116 : decode cX6_readKite 116 = .ok (.iastore, 1) := by decide +kernel
theorem dX6_readKite_117 : decode cX6_readKite 117 = .ok (.aload_n 0, 1) := by decide +kernel
theorem dX6_readKite_118 : decode cX6_readKite 118 = .ok (.bipush 10, 2) := by decide +kernel
theorem dX6_readKite_120 : decode cX6_readKite 120 = .ok (.invokevirtual 56, 3) := by decide +kernel
theorem dX6_readKite_123 : decode cX6_readKite 123 = .ok (.aload_n 0, 1) := by decide +kernel
theorem dX6_readKite_124 : decode cX6_readKite 124 = .ok (.getfield 26, 3) := by decide +kernel
theorem dX6_readKite_127 : decode cX6_readKite 127 = .ok (.getfield 113, 3) := by decide +kernel
theorem dX6_readKite_130 : decode cX6_readKite 130 = .ok (.iload_n 1, 1) := by decide +kernel
theorem dX6_readKite_131 : decode cX6_readKite 131 = .ok (.aload_n 0, 1) := by decide +kernel
theorem dX6_readKite_132 : decode cX6_readKite 132 = .ok (.iconst 0, 1) := by decide +kernel
theorem dX6_readKite_133 : decode cX6_readKite 133 = .ok (.bipush 40, 2) := by decide +kernel
theorem dX6_readKite_135 : decode cX6_readKite 135 = .ok (.invokevirtual 74, 3) := by decide +kernel
theorem dX6_readKite_138 : decode cX6_readKite 138 = .ok (.iastore, 1) := by decide +kernel
theorem dX6_readKite_139 : decode cX6_readKite 139 = .ok (.aload_n 0, 1) := by decide +kernel
theorem dX6_readKite_140 : decode cX6_readKite 140 = .ok (.getfield 26, 3) := by decide +kernel
theorem dX6_readKite_143 : decode cX6_readKite 143 = .ok (.iload_n 1, 1) := by decide +kernel
theorem dX6_readKite_144 : decode cX6_readKite 144 = .ok (.iconst 1, 1) := by decide +kernel
theorem dX6_readKite_145 : decode cX6_readKite 145 = .ok (.iadd, 1) := by decide +kernel
theorem dX6_readKite_146 : decode cX6_readKite 146 = .ok (.putfield 90, 3) := by decide +kernel
theorem dX6_readKite_149 : decode cX6_readKite 149 = .ok (.return_, 1) := by decide +kernel
theorem dX6_readName_0 : decode cX6_readName 0 = .ok (.aload_n 0, 1) := by decide +kernel
theorem dX6_readName_1 : decode cX6_readName 1 = .ok (.getfield 12, 3) := by decide +kernel
theorem dX6_readName_4 : decode cX6_readName 4 = .ok (.getfield 41, 3) := by decide +kernel
theorem dX6_readName_7 : decode cX6_readName 7 = .ok (.invokestatic 116, 3) := by decide +kernel
theorem dX6_readName_10 : decode cX6_readName 10 = .ok (.ifCond .ne 8, 3) := by decide +kernel
