theorem dX9_lays_36 : decode cX9_lays 36 = .ok (.bipush 6, 2) := by decide +kernel
theorem dX9_lays_38 : decode cX9_lays 38 = .ok (.iload_n 1, 1) := by decide +kernel
theorem dX9_lays_39 : decode cX9_lays 39 = .ok (.iload_n 2, 1) := by decide +kernel
theorem dX9_lays_40 : decode cX9_lays 40 = .ok (.invokestatic 274, 3) := by decide +kernel
theorem dX9_lays_43 : decode cX9_lays 43 = .ok (.aload_n 0, 1) := by decide +kernel
theorem dX9_lays_44 : decode cX9_lays 44 = .ok (.getfield 25, 3) := by decide +kernel
theorem dX9_lays_47 : decode cX9_lays 47 = .ok (.bipush 6, 2) := by decide +kernel
theorem dX9_lays_49 : decode cX9_lays 49 = .ok (.iload_n 1, 1) := by decide +kernel
theorem dX9_lays_50 : decode cX9_lays 50 = .ok (.iload_n 2, 1) := by decide +kernel
theorem dX9_lays_51 : decode cX9_lays 51 = .ok (.invokestatic 274, 3) := by decide +kernel
theorem dX9_lays_54 : decode cX9_lays 54 = .ok (.aload_n 0, 1) := by decide +kernel
theorem dX9_lays_55 : decode cX9_lays 55 = .ok (.getfield 28, 3) := by decide +kernel
theorem dX9_lays_58 : decode cX9_lays 58 = .ok (.bipush 6, 2) := by decide +kernel
theorem dX9_lays_60 : decode cX9_lays 60 = .ok (.iload_n 1, 1) := by decide +kernel
theorem dX9_lays_61 : decode cX9_lays 61 = .ok (.iload_n 2, 1) := by decide +kernel
theorem dX9_lays_62 : decode cX9_lays 62 = .ok (.invokestatic 274, 3) := by decide +kernel
theorem dX9_lays_65 : decode cX9_lays 65 = .ok (.aload_n 0, 1) := by decide +kernel
theorem dX9_lays_66 : decode cX9_lays 66 = .ok (.getfield 41, 3) := by decide +kernel
theorem dX9_lays_69 : decode cX9_lays 69 = .ok (.sipush 1000, 3) := by decide +kernel
theorem dX9_lays_72 : decode cX9_lays 72 = .ok (.iload_n 1, 1) := by decide +kernel
theorem dX9_lays_73 : decode cX9_lays 73 = .ok (.iload_n 2, 1) := by decide +kernel
theorem dX9_lays_74 : decode cX9_lays 74 = .ok (.invokestatic 274, 3) := by decide +kernel
theorem dX9_lays_77 : decode cX9_lays 77 = .ok (.iconst 0, 1) := by decide +kernel
theorem dX9_lays_78 : decode cX9_lays 78 = .ok (.istore_n 3, 1) := by decide +kernel
theorem dX9_lays_79 : decode cX9_lays 79 = .ok (.iload_n 3, 1) := by decide +kernel
theorem dX9_lays_80 : decode cX9_lays 80 = .ok (.iconst 2, 1) := by decide +kernel
theorem dX9_lays_81 : decode cX9_lays 81 = .ok (.if_icmp .ge 65, 3) := by decide +kernel
theorem dX9_lays_84 : decode cX9_lays 84 = .ok (.aload_n 0, 1) := by decide +kernel
theorem dX9_lays_85 : decode cX9_lays 85 = .ok (.getfield 35, 3) := by decide +kernel
theorem dX9_lays_88 : decode cX9_lays 88 = .ok (.iconst 2, 1) := by decide +kernel
theorem dX9_lays_89 : decode cX9_lays 89 = .ok (.iload_n 2, 1) := by decide +kernel
theorem dX9_lays_90 : decode cX9_lays 90 = .ok (.imul, 1) := by decide +kernel
theorem dX9_lays_91 : decode cX9_lays 91 = .ok (.iload_n 3, 1) := by decide +kernel
theorem dX9_lays_92 : decode cX9_lays 92 = .ok (.iadd, 1) := by decide +kernel
theorem dX9_lays_93 : decode cX9_lays 93 = .ok (.aload_n 0, 1) := by decide +kernel
theorem dX9_lays_94 : decode cX9_lays 94 = .ok (.getfield 35, 3) := by decide +kernel
theorem dX9_lays_97 : decode cX9_lays 97 = .ok (.iconst 2, 1) := by decide +kernel
theorem dX9_lays_98 : decode cX9_lays 98 = .ok (.iload_n 1, 1) := by decide +kernel
theorem dX9_lays_99 : decode cX9_lays 99 = .ok (.imul, 1) := by decide +kernel
theorem dX9_lays_100 : decode cX9_lays 100 = .ok (.iload_n 3, 1) := by decide +kernel
theorem dX9_lays_101 : decode cX9_lays 101 = .ok (.iadd, 1) := by decide +kernel
theorem dX9_lays_102 : decode cX9_lays 102 = .ok (.iaload, 1) := by decide +kernel
theorem dX9_lays_103 : decode cX9_lays 103 = .ok (.sipush 1000, 3) := by decide +kernel
theorem dX9_lays_106 : decode cX9_lays 106 = .ok (.iload_n 2, 1) := by decide +kernel
theorem dX9_lays_107 : decode cX9_lays 107 = .ok (.iload_n 1, 1) := by decide +kernel
theorem dX9_lays_108 : decode cX9_lays 108 = .ok (.isub, 1) := by decide +kernel
theorem dX9_lays_109 : decode cX9_lays 109 = .ok (.imul, 1) := by decide +kernel
theorem dX9_lays_110 : decode cX9_lays 110 = .ok (.iadd, 1) := by decide +kernel
theorem dX9_lays_111 : decode cX9_lays 111 = .ok (.iastore, 1) := by decide +kernel
theorem dX9_lays_112 : decode cX9_lays 112 = .ok (.aload_n 0, 1) := by decide +kernel
theorem dX9_lays_113 : decode cX9_lays 113 = .ok (.getfield 38, 3) := by decide +kernel
theorem dX9_lays_116 : decode cX9_lays 116 = .ok (.iconst 2, 1) := by decide +kernel
theorem dX9_lays_117 : decode cX9_lays 117 = .ok (.iload_n 2, 1) := by decide +kernel
theorem dX9_lays_118 : decode cX9_lays 118 = .ok (.imul, 1) := by decide +kernel
theorem dX9_lays_119 : decode cX9_lays 119 = .ok (.iload_n 3, 1) := by decide +kernel
theorem dX9_lays_120 : decode cX9_lays 120 = .ok (.iadd, 1) := by decide +kernel
theorem dX9_lays_121 : decode cX9_lays 121 = .ok (.aload_n 0, 1) := by decide +kernel
theorem dX9_lays_122 : decode cX9_lays 122 = .ok (.getfield 38, 3) := by decide +kernel
theorem dX9_lays_125 : decode cX9_lays 125 = .ok (.iconst 2, 1) := by decide +kernel
theorem dX9_lays_126 : decode cX9_lays 126 = .ok (.iload_n 1, 1) := by decide +kernel
theorem dX9_lays_127 : decode cX9_lays 127 = .ok (.imul, 1) := by decide +kernel
theorem dX9_lays_128 : decode cX9_lays 128 = .ok (.iload_n 3, 1) := by decide +kernel
theorem dX9_lays_129 : decode cX9_lays 129 = .ok (.iadd, 1) := by decide +kernel
theorem dX9_lays_130 : decode cX9_lays 130 = .ok (.iaload, 1) := by decide +kernel
theorem dX9_lays_131 : decode cX9_lays 131 = .ok (.sipush 1000, 3) := by decide +kernel
theorem dX9_lays_134 : decode cX9_lays 134 = .ok (.iload_n 2, 1) := by decide +kernel
theorem dX9_lays_135 : decode cX9_lays 135 = .ok (.iload_n 1, 1) := by decide +kernel
theorem dX9_lays_136 : decode cX9_lays 136 = .ok (.isub, 1) := by decide +kernel
theorem dX9_lays_137 : decode cX9_lays 137 = .ok (.imul, 1) := by decide +kernel
theorem dX9_lays_138 : decode cX9_lays 138 = .ok (.iadd, 1) := by decide +kernel
theorem dX9_lays_139 : decode cX9_lays 139 = .ok (.iastore, 1) := by decide +kernel
theorem dX9_lays_140 : decode cX9_lays 140 = .ok (.iinc 3 1, 3) := by decide +kernel
theorem dX9_lays_143 : decode cX9_lays 143 = .ok (.goto (-64), 3) := by decide +kernel
theorem dX9_lays_146 : decode cX9_lays 146 = .ok (.return_, 1) := by decide +kernel
theorem dX9_copies_0 : decode cX9_copies 0 = .ok (.iconst 0, 1) := by decide +kernel
theorem dX9_copies_1 : decode cX9_copies 1 = .ok (.istore 4, 2) := by decide +kernel
theorem dX9_copies_3 : decode cX9_copies 3 = .ok (.iload 4, 2) := by decide +kernel
theorem dX9_copies_5 : decode cX9_copies 5 = .ok (.bipush 64, 2) := by decide +kernel
theorem dX9_copies_7 : decode cX9_copies 7 = .ok (.if_icmp .ge 21, 3) := by decide +kernel
theorem dX9_copies_10 : decode cX9_copies 10 = .ok (.aload_n 2, 1) := by decide +kernel
theorem dX9_copies_11 : decode cX9_copies 11 = .ok (.iload_n 3, 1) := by decide +kernel
theorem dX9_copies_12 : decode cX9_copies 12 = .ok (.iload 4, 2) := by decide +kernel
theorem dX9_copies_14 : decode cX9_copies 14 = .ok (.iadd, 1) := by decide +kernel
theorem dX9_copies_15 : decode cX9_copies 15 = .ok (.aload_n 0, 1) := by decide +kernel
theorem dX9_copies_16 : decode cX9_copies 16 = .ok (.iload_n 1, 1) := by decide +kernel
theorem dX9_copies_17 : decode cX9_copies 17 = .ok (.iload 4, 2) := by decide +kernel
theorem dX9_copies_19 : decode cX9_copies 19 = .ok (.iadd, 1) := by decide +kernel
theorem dX9_copies_20 : decode cX9_copies 20 = .ok (.iaload, 1) := by decide +kernel
theorem dX9_copies_21 : decode cX9_copies 21 = .ok (.iastore, 1) := by decide +kernel
theorem dX9_copies_22 : decode cX9_copies 22 = .ok (.iinc 4 1, 3) := by decide +kernel
theorem dX9_copies_25 : decode cX9_copies 25 = .ok (.goto (-22), 3) := by decide +kernel
theorem dX9_copies_28 : decode cX9_copies 28 = .ok (.return_, 1) := by decide +kernel
theorem dX9_sky_0 : decode cX9_sky 0 = .ok (.aload_n 0, 1) := by decide +kernel
theorem dX9_sky_1 : decode cX9_sky 1 = .ok (.iconst 0, 1) := by decide +kernel
theorem dX9_sky_2 : decode cX9_sky 2 = .ok (.putfield 109, 3) := by decide +kernel
theorem dX9_sky_5 : decode cX9_sky 5 = .ok (.aload_n 0, 1) := by decide +kernel
theorem dX9_sky_6 : decode cX9_sky 6 = .ok (.invokevirtual 278, 3) := by decide +kernel
theorem dX9_sky_9 : decode cX9_sky 9 = .ok (.ifCond .ne 8, 3) := by decide +kernel
theorem dX9_sky_12 : decode cX9_sky 12 = .ok (.aload_n 0, 1) := by decide +kernel
theorem dX9_sky_13 : decode cX9_sky 13 = .ok (.getfield 145, 3) := by decide +kernel
theorem dX9_sky_16 : decode cX9_sky 16 = .ok (.ireturn, 1) := by decide +kernel
theorem dX9_sky_17 : decode cX9_sky 17 = .ok (.aload_n 0, 1) := by decide +kernel
theorem dX9_sky_18 : decode cX9_sky 18 = .ok (.iconst 1, 1) := by decide +kernel
theorem dX9_sky_19 : decode cX9_sky 19 = .ok (.iconst 0, 1) := by decide +kernel
theorem dX9_sky_20 : decode cX9_sky 20 = .ok (.invokevirtual 281, 3) := by decide +kernel
theorem dX9_sky_23 : decode cX9_sky 23 = .ok (.iconst 0, 1) := by decide +kernel
theorem dX9_sky_24 : decode cX9_sky 24 = .ok (.istore_n 1, 1) := by decide +kernel
theorem dX9_sky_25 : decode cX9_sky 25 = .ok (.iload_n 1, 1) := by decide +kernel
theorem dX9_sky_26 : decode cX9_sky 26 = .ok (.bipush 64, 2) := by decide +kernel
theorem dX9_sky_28 : decode cX9_sky 28 = .ok (.if_icmp .ge 16, 3) := by decide +kernel
theorem dX9_sky_31 : decode cX9_sky 31 = .ok (.aload_n 0, 1) := by decide +kernel
theorem dX9_sky_32 : decode cX9_sky 32 = .ok (.getfield 81, 3) := by decide +kernel
theorem dX9_sky_35 : decode cX9_sky 35 = .ok (.iload_n 1, 1) := by decide +kernel
theorem dX9_sky_36 : decode cX9_sky 36 = .ok (.iconst 0, 1) := by decide +kernel
theorem dX9_sky_37 : decode cX9_sky 37 = .ok (.iastore, 1) := by decide +kernel
theorem dX9_sky_38 : decode cX9_sky 38 = .ok (.iinc 1 1, 3) := by decide +kernel
theorem dX9_sky_41 : decode cX9_sky 41 = .ok (.goto (-16), 3) := by decide +kernel
theorem dX9_sky_44 : decode cX9_sky 44 = .ok (.iconst 0, 1) := by decide +kernel
theorem dX9_sky_45 : decode cX9_sky 45 = .ok (.istore_n 1, 1) := by decide +kernel
theorem dX9_sky_46 : decode cX9_sky 46 = .ok (.iload_n 1, 1) := by decide +kernel
theorem dX9_sky_47 : decode cX9_sky 47 = .ok (.aload_n 0, 1) := by decide +kernel
theorem dX9_sky_48 : decode cX9_sky 48 = .ok (.getfield 13, 3) := by decide +kernel
theorem dX9_sky_51 : decode cX9_sky 51 = .ok (.iconst 4, 1) := by decide +kernel
theorem dX9_sky_52 : decode cX9_sky 52 = .ok (.iaload, 1) := by decide +kernel
theorem dX9_sky_53 : decode cX9_sky 53 = .ok (.if_icmp .ge 21, 3) := by decide +kernel
theorem dX9_sky_56 : decode cX9_sky 56 = .ok (.aload_n 0, 1) := by decide +kernel
theorem dX9_sky_57 : decode cX9_sky 57 = .ok (.getfield 81, 3) := by decide +kernel
theorem dX9_sky_60 : decode cX9_sky 60 = .ok (.iload_n 1, 1) := by decide +kernel
theorem dX9_sky_61 : decode cX9_sky 61 = .ok (.aload_n 0, 1) := by decide +kernel
theorem dX9_sky_62 : decode cX9_sky 62 = .ok (.getfield 28, 3) := by decide +kernel
theorem dX9_sky_65 : decode cX9_sky 65 = .ok (.iload_n 1, 1) := by decide +kernel
theorem dX9_sky_66 : decode cX9_sky 66 = .ok (.iaload, 1) := by decide +kernel
theorem dX9_sky_67 : decode cX9_sky 67 = .ok (.iastore, 1) := by decide +kernel
theorem dX9_sky_68 : decode cX9_sky 68 = .ok (.iinc 1 1, 3) := by decide +kernel
theorem dX9_sky_71 : decode cX9_sky 71 = .ok (.goto (-25), 3) := by decide +kernel
theorem dX9_sky_74 : decode cX9_sky 74 = .ok (.iconst 0, 1) := by decide +kernel
theorem dX9_sky_75 : decode cX9_sky 75 = .ok (.ireturn, 1) := by decide +kernel
theorem dX9_isKite_0 : decode cX9_isKite 0 = .ok (.iload_n 1, 1) := by decide +kernel
theorem dX9_isKite_1 : decode cX9_isKite 1 = .ok (.ifCond .lt 17, 3) := by decide +kernel
theorem dX9_isKite_4 : decode cX9_isKite 4 = .ok (.iload_n 1, 1) := by decide +kernel
theorem dX9_isKite_5 : decode cX9_isKite 5 = .ok (.aload_n 0, 1) := by decide +kernel
theorem dX9_isKite_6 : decode cX9_isKite 6 = .ok (.getfield 13, 3) := by decide +kernel
theorem dX9_isKite_9 : decode cX9_isKite 9 = .ok (.iconst 4, 1) := by decide +kernel
theorem dX9_isKite_10 : decode cX9_isKite 10 = .ok (.iaload, 1) := by decide +kernel
theorem dX9_isKite_11 : decode cX9_isKite 11 = .ok (.if_icmp .ge 7, 3) := by decide +kernel
theorem dX9_isKite_14 : decode cX9_isKite 14 = .ok (.iconst 1, 1) := by decide +kernel
theorem dX9_isKite_15 : decode cX9_isKite 15 = .ok (.goto 4, 3) := by decide +kernel
theorem dX9_isKite_18 : decode cX9_isKite 18 = .ok (.iconst 0, 1) := by decide +kernel
theorem dX9_isKite_19 : decode cX9_isKite 19 = .ok (.ireturn, 1) := by decide +kernel
theorem dX9_isLost_0 : decode cX9_isLost 0 = .ok (.aload_n 0, 1) := by decide +kernel
theorem dX9_isLost_1 : decode cX9_isLost 1 = .ok (.getfield 81, 3) := by decide +kernel
theorem dX9_isLost_4 : decode cX9_isLost 4 = .ok (.bipush 18, 2) := by decide +kernel
theorem dX9_isLost_6 : decode cX9_isLost 6 = .ok (.iaload, 1) := by decide +kernel
theorem dX9_isLost_7 : decode cX9_isLost 7 = .ok (.iload_n 1, 1) := by decide +kernel
theorem dX9_isLost_8 : decode cX9_isLost 8 = .ok (.ishr, 1) := by decide +kernel
theorem dX9_isLost_9 : decode cX9_isLost 9 = .ok (.iconst 1, 1) := by decide +kernel
theorem dX9_isLost_10 : decode cX9_isLost 10 = .ok (.iand, 1) := by decide +kernel
theorem dX9_isLost_11 : decode cX9_isLost 11 = .ok (.iconst 1, 1) := by decide +kernel
theorem dX9_isLost_12 : decode cX9_isLost 12 = .ok (.if_icmp .ne 7, 3) := by decide +kernel
theorem dX9_isLost_15 : decode cX9_isLost 15 = .ok (.iconst 1, 1) := by decide +kernel
theorem dX9_isLost_16 : decode cX9_isLost 16 = .ok (.goto 4, 3) := by decide +kernel
theorem dX9_isLost_19 : decode cX9_isLost 19 = .ok (.iconst 0, 1) := by decide +kernel
theorem dX9_isLost_20 : decode cX9_isLost 20 = .ok (.ireturn, 1) := by decide +kernel
theorem dX9_isHigh_0 : decode cX9_isHigh 0 = .ok (.iload_n 0, 1) := by decide +kernel
theorem dX9_isHigh_1 : decode cX9_isHigh 1 = .ok (.ifCond .lt 13, 3) := by decide +kernel
theorem dX9_isHigh_4 : decode cX9_isHigh 4 = .ok (.iload_n 0, 1) := by decide +kernel
theorem dX9_isHigh_5 : decode cX9_isHigh 5 = .ok (.bipush 40, 2) := by decide +kernel
theorem dX9_isHigh_7 : decode cX9_isHigh 7 = .ok (.if_icmp .gt 7, 3) := by decide +kernel
theorem dX9_isHigh_10 : decode cX9_isHigh 10 = .ok (.iconst 1, 1) := by decide +kernel
theorem dX9_isHigh_11 : decode cX9_isHigh 11 = .ok (.goto 4, 3) := by decide +kernel
theorem dX9_isHigh_14 : decode cX9_isHigh 14 = .ok (.iconst 0, 1) := by decide +kernel
theorem dX9_isHigh_15 : decode cX9_isHigh 15 = .ok (.ireturn, 1) := by decide +kernel
theorem dX9_blows_0 : decode cX9_blows 0 = .ok (.iconst 0, 1) := by decide +kernel
theorem dX9_blows_1 : decode cX9_blows 1 = .ok (.istore_n 3, 1) := by decide +kernel
theorem dX9_blows_2 : decode cX9_blows 2 = .ok (.iload_n 3, 1) := by decide +kernel
theorem dX9_blows_3 : decode cX9_blows 3 = .ok (.bipush 41, 2) := by decide +kernel
theorem dX9_blows_5 : decode cX9_blows 5 = .ok (.if_icmp .ge 67, 3) := by decide +kernel
theorem dX9_blows_8 : decode cX9_blows 8 = .ok (.aload_n 0, 1) := by decide +kernel
theorem dX9_blows_9 : decode cX9_blows 9 = .ok (.getfield 78, 3) := by decide +kernel
theorem dX9_blows_12 : decode cX9_blows 12 = .ok (.iconst 1, 1) := by decide +kernel
theorem dX9_blows_13 : decode cX9_blows 13 = .ok (.iload_n 3, 1) := by decide +kernel
theorem dX9_blows_14 : decode cX9_blows 14 = .ok (.iastore, 1) := by decide +kernel
theorem dX9_blows_15 : decode cX9_blows 15 = .ok (.aload_n 0, 1) := by decide +kernel
theorem dX9_blows_16 : decode cX9_blows 16 = .ok (.getfield 78, 3) := by decide +kernel
theorem dX9_blows_19 : decode cX9_blows 19 = .ok (.iconst 2, 1) := by decide +kernel
theorem dX9_blows_20 : decode cX9_blows 20 = .ok (.iload_n 1, 1) := by decide +kernel
theorem dX9_blows_21 : decode cX9_blows 21 = .ok (.iastore, 1) := by decide +kernel
theorem dX9_blows_22 : decode cX9_blows 22 = .ok (.aload_n 0, 1) := by decide +kernel
theorem dX9_blows_23 : decode cX9_blows 23 = .ok (.getfield 78, 3) := by decide +kernel
theorem dX9_blows_26 : decode cX9_blows 26 = .ok (.iconst 3, 1) := by decide +kernel
theorem dX9_blows_27 : decode cX9_blows 27 = .ok (.iload_n 2, 1) := by decide +kernel
theorem dX9_blows_28 : decode cX9_blows 28 = .ok (.iastore, 1) := by decide +kernel
theorem dX9_blows_29 : decode cX9_blows 29 = .ok (.aload_n 0, 1) := by decide +kernel
theorem dX9_blows_30 : decode cX9_blows 30 = .ok (.getfield 90, 3) := by decide +kernel
theorem dX9_blows_33 : decode cX9_blows 33 = .ok (.iload_n 3, 1) := by decide +kernel
theorem dX9_blows_34 : decode cX9_blows 34 = .ok (.aload_n 0, 1) := by decide +kernel
theorem dX9_blows_35 : decode cX9_blows 35 = .ok (.getfield 38, 3) := by decide +kernel
theorem dX9_blows_38 : decode cX9_blows 38 = .ok (.iconst 0, 1) := by decide +kernel
theorem dX9_blows_39 : decode cX9_blows 39 = .ok (.iaload, 1) := by decide +kernel
theorem dX9_blows_40 : decode cX9_blows 40 = .ok (.aload_n 0, 1) := by decide +kernel
theorem dX9_blows_41 : decode cX9_blows 41 = .ok (.getfield 35, 3) := by decide +kernel
theorem dX9_blows_44 : decode cX9_blows 44 = .ok (.iconst 0, 1) := by decide +kernel
theorem dX9_blows_45 : decode cX9_blows 45 = .ok (.iaload, 1) := by decide +kernel
theorem dX9_blows_46 : decode cX9_blows 46 = .ok (.if_icmp .ne 8, 3) := by decide +kernel
theorem dX9_blows_49 : decode cX9_blows 49 = .ok (.bipush 20, 2) := by decide +kernel
theorem dX9_blows_51 : decode cX9_blows 51 = .ok (.goto 14, 3) := by decide +kernel
theorem dX9_blows_54 : decode cX9_blows 54 = .ok (.aload_n 0, 1) := by decide +kernel
theorem dX9_blows_55 : decode cX9_blows 55 = .ok (.iconst 0, 1) := by decide +kernel
theorem dX9_blows_56 : decode cX9_blows 56 = .ok (.invokevirtual 285, 3) := by decide +kernel
theorem dX9_blows_59 : decode cX9_blows 59 = .ok (.iconst 0, 1) := by decide +kernel
theorem dX9_blows_60 : decode cX9_blows 60 = .ok (.bipush 99, 2) := by decide +kernel
theorem dX9_blows_62 : decode cX9_blows 62 = .ok (.invokestatic 288, 3) := by decide +kernel
theorem dX9_blows_65 : decode cX9_blows 65 = .ok (.iastore, 1) := by decide +kernel
theorem dX9_blows_66 : decode cX9_blows 66 = .ok (.iinc 3 1, 3) := by decide +kernel
theorem dX9_blows_69 : decode cX9_blows 69 = .ok (.goto (-67), 3) := by decide +kernel
theorem dX9_blows_72 : decode cX9_blows 72 = .ok (.return_, 1) := by decide +kernel
theorem dX9_flies_0 : decode cX9_flies 0 = .ok (.aload_n 0, 1) := by decide +kernel
theorem dX9_flies_1 : decode cX9_flies 1 = .ok (.getfield 16, 3) := by decide +kernel
theorem dX9_flies_4 : decode cX9_flies 4 = .ok (.iload_n 1, 1) := by decide +kernel
theorem dX9_flies_5 : decode cX9_flies 5 = .ok (.iaload, 1) := by decide +kernel
theorem dX9_flies_6 : decode cX9_flies 6 = .ok (.iconst 2, 1) := by decide +kernel
theorem dX9_flies_7 : decode cX9_flies 7 = .ok (.if_icmp .ne 14, 3) := by decide +kernel
theorem dX9_flies_10 : decode cX9_flies 10 = .ok (.aload_n 0, 1) := by decide +kernel
theorem dX9_flies_11 : decode cX9_flies 11 = .ok (.getfield 25, 3) := by decide +kernel
theorem dX9_flies_14 : decode cX9_flies 14 = .ok (.iload_n 1, 1) := by decide +kernel
theorem dX9_flies_15 : decode cX9_flies 15 = .ok (.iaload, 1) := by decide +kernel
theorem dX9_flies_16 : decode cX9_flies 16 = .ok (.iconst 2, 1) := by decide +kernel
theorem dX9_flies_17 : decode cX9_flies 17 = .ok (.idiv, 1) := by decide +kernel
theorem dX9_flies_18 : decode cX9_flies 18 = .ok (.goto 9, 3) := by decide +kernel
theorem dX9_flies_21 : decode cX9_flies 21 = .ok (.aload_n 0, 1) := by decide +kernel
theorem dX9_flies_22 : decode cX9_flies 22 = .ok (.getfield 25, 3) := by decide +kernel
theorem dX9_flies_25 : decode cX9_flies 25 = .ok (.iload_n 1, 1) := by decide +kernel
theorem dX9_flies_26 : decode cX9_flies 26 = .ok (.iaload, 1) := by decide +kernel
theorem dX9_flies_27 : decode cX9_flies 27 = .ok (.istore_n 2, 1) := by decide +kernel
theorem dX9_flies_28 : decode cX9_flies 28 = .ok (.aload_n 0, 1) := by decide +kernel
theorem dX9_flies_29 : decode cX9_flies 29 = .ok (.iload_n 1, 1) := by decide +kernel
theorem dX9_flies_30 : decode cX9_flies 30 = .ok (.invokevirtual 292, 3) := by decide +kernel
theorem dX9_flies_33 : decode cX9_flies 33 = .ok (.ifCond .ne 31, 3) := by decide +kernel
theorem dX9_flies_36 : decode cX9_flies 36 = .ok (.aload_n 0, 1) := by decide +kernel
theorem dX9_flies_37 : decode cX9_flies 37 = .ok (.getfield 81, 3) := by decide +kernel
theorem dX9_flies_40 : decode cX9_flies 40 = .ok (.iload_n 1, 1) := by decide +kernel
theorem dX9_flies_41 : decode cX9_flies 41 = .ok (.iaload, 1) := by decide +kernel
theorem dX9_flies_42 : decode cX9_flies 42 = .ok (.ifCond .le 22, 3) := by decide +kernel
theorem dX9_flies_45 : decode cX9_flies 45 = .ok (.aload_n 0, 1) := by decide +kernel
theorem dX9_flies_46 : decode cX9_flies 46 = .ok (.getfield 90, 3) := by decide +kernel
theorem dX9_flies_49 : decode cX9_flies 49 = .ok (.aload_n 0, 1) := by decide +kernel
theorem dX9_flies_50 : decode cX9_flies 50 = .ok (.getfield 81, 3) := by decide +kernel
theorem dX9_flies_53 : decode cX9_flies 53 = .ok (.iload_n 1, 1) := by decide +kernel
theorem dX9_flies_54 : decode cX9_flies 54 = .ok (.iaload, 1) := by decide +kernel
theorem dX9_flies_55 : decode cX9_flies 55 = .ok (.iaload, 1) := by decide +kernel
theorem dX9_flies_56 : decode cX9_flies 56 = .ok (.iload_n 2, 1) := by decide +kernel
theorem dX9_flies_57 : decode cX9_flies 57 = .ok (.if_icmp .lt 7, 3) := by decide +kernel
theorem dX9_flies_60 : decode cX9_flies 60 = .ok (.iconst 1, 1) := by decide +kernel
theorem dX9_flies_61 : decode cX9_flies 61 = .ok (.goto 4, 3) := by decide +kernel
theorem dX9_flies_64 : decode cX9_flies 64 = .ok (.iconst 0, 1) := by decide +kernel
theorem dX9_flies_65 : decode cX9_flies 65 = .ok (.ireturn, 1) := by decide +kernel
theorem dX9_pullOf_0 : decode cX9_pullOf 0 = .ok (.aload_n 0, 1) := by decide +kernel
theorem dX9_pullOf_1 : decode cX9_pullOf 1 = .ok (.iload_n 1, 1) := by decide +kernel
theorem dX9_pullOf_2 : decode cX9_pullOf 2 = .ok (.invokevirtual 295, 3) := by decide +kernel
theorem dX9_pullOf_5 : decode cX9_pullOf 5 = .ok (.ifCond .ne 5, 3) := by decide +kernel
theorem dX9_pullOf_8 : decode cX9_pullOf 8 = .ok (.iconst 0, 1) := by decide +kernel
theorem dX9_pullOf_9 : decode cX9_pullOf 9 = .ok (.ireturn, 1) := by decide +kernel
theorem dX9_pullOf_10 : decode cX9_pullOf 10 = .ok (.aload_n 0, 1) := by decide +kernel
theorem dX9_pullOf_11 : decode cX9_pullOf 11 = .ok (.getfield 90, 3) := by decide +kernel
theorem dX9_pullOf_14 : decode cX9_pullOf 14 = .ok (.aload_n 0, 1) := by decide +kernel
theorem dX9_pullOf_15 : decode cX9_pullOf 15 = .ok (.getfield 81, 3) := by decide +kernel
theorem dX9_pullOf_18 : decode cX9_pullOf 18 = .ok (.iload_n 1, 1) := by decide +kernel
theorem dX9_pullOf_19 : decode cX9_pullOf 19 = .ok (.iaload, 1) := by decide +kernel
theorem dX9_pullOf_20 : decode cX9_pullOf 20 = .ok (.iaload, 1) := by decide +kernel
theorem dX9_pullOf_21 : decode cX9_pullOf 21 = .ok (.istore_n 2, 1) := by decide +kernel
theorem dX9_pullOf_22 : decode cX9_pullOf 22 = .ok (.aload_n 0, 1) := by decide +kernel
theorem dX9_pullOf_23 : decode cX9_pullOf 23 = .ok (.getfield 22, 3) := by decide +kernel
theorem dX9_pullOf_26 : decode cX9_pullOf 26 = .ok (.iload_n 1, 1) := by decide +kernel
theorem dX9_pullOf_27 : decode cX9_pullOf 27 = .ok (.iaload, 1) := by decide +kernel
theorem dX9_pullOf_28 : decode cX9_pullOf 28 = .ok (.iload_n 2, 1) := by decide +kernel
theorem dX9_pullOf_29 : decode cX9_pullOf 29 = .ok (.imul, 1) := by decide +kernel
theorem dX9_pullOf_30 : decode cX9_pullOf 30 = .ok (.bipush 10, 2) := by decide +kernel
theorem dX9_pullOf_32 : decode cX9_pullOf 32 = .ok (.idiv, 1) := by decide +kernel
theorem dX9_pullOf_33 : decode cX9_pullOf 33 = .ok (.istore_n 3, 1) := by decide +kernel
theorem dX9_pullOf_34 : decode cX9_pullOf 34 = .ok (.aload_n 0, 1) := by decide +kernel
theorem dX9_pullOf_35 : decode cX9_pullOf 35 = .ok (.getfield 16, 3) := by decide +kernel
theorem dX9_pullOf_38 : decode cX9_pullOf 38 = .ok (.iload_n 1, 1) := by decide +kernel
theorem dX9_pullOf_39 : decode cX9_pullOf 39 = .ok (.iaload, 1) := by decide +kernel
theorem dX9_pullOf_40 : decode cX9_pullOf 40 = .ok (.iconst 1, 1) := by decide +kernel
theorem dX9_pullOf_41 : decode cX9_pullOf 41 = .ok (.if_icmp .ne 15, 3) := by decide +kernel
theorem dX9_pullOf_44 : decode cX9_pullOf 44 = .ok (.iload_n 2, 1) := by decide +kernel
theorem dX9_pullOf_45 : decode cX9_pullOf 45 = .ok (.bipush 40, 2) := by decide +kernel
theorem dX9_pullOf_47 : decode cX9_pullOf 47 = .ok (.if_icmp .lt 9, 3) := by decide +kernel
theorem dX9_pullOf_50 : decode cX9_pullOf 50 = .ok (.iconst 2, 1) := by decide +kernel
theorem dX9_pullOf_51 : decode cX9_pullOf 51 = .ok (.iload_n 3, 1) := by decide +kernel
theorem dX9_pullOf_52 : decode cX9_pullOf 52 = .ok (.imul, 1) := by decide +kernel
theorem dX9_pullOf_53 : decode cX9_pullOf 53 = .ok (.goto 24, 3) := by decide +kernel
theorem dX9_pullOf_56 : decode cX9_pullOf 56 = .ok (.aload_n 0, 1) := by decide +kernel
theorem dX9_pullOf_57 : decode cX9_pullOf 57 = .ok (.getfield 16, 3) := by decide +kernel
theorem dX9_pullOf_60 : decode cX9_pullOf 60 = .ok (.iload_n 1, 1) := by decide +kernel
theorem dX9_pullOf_61 : decode cX9_pullOf 61 = .ok (.iaload, 1) := by decide +kernel
theorem dX9_pullOf_62 : decode cX9_pullOf 62 = .ok (.iconst 3, 1) := by decide +kernel
theorem dX9_pullOf_63 : decode cX9_pullOf 63 = .ok (.if_icmp .ne 13, 3) := by decide +kernel
theorem dX9_pullOf_66 : decode cX9_pullOf 66 = .ok (.iconst 0, 1) := by decide +kernel
theorem dX9_pullOf_67 : decode cX9_pullOf 67 = .ok (.iload_n 3, 1) := by decide +kernel
theorem dX9_pullOf_68 : decode cX9_pullOf 68 = .ok (.iconst 3, 1) := by decide +kernel
theorem dX9_pullOf_69 : decode cX9_pullOf 69 = .ok (.isub, 1) := by decide +kernel
theorem dX9_pullOf_70 : decode cX9_pullOf 70 = .ok (.invokestatic 298, 3) := by decide +kernel
theorem dX9_pullOf_73 : decode cX9_pullOf 73 = .ok (.goto 4, 3) := by decide +kernel
theorem dX9_pullOf_76 : decode cX9_pullOf 76 = .ok (.iload_n 3, 1) := by decide +kernel
theorem dX9_pullOf_77 : decode cX9_pullOf 77 = .ok (.ireturn, 1) := by decide +kernel
theorem dX9_hangs_0 : decode cX9_hangs 0 = .ok (.iconst 0, 1) := by decide +kernel
theorem dX9_hangs_1 : decode cX9_hangs 1 = .ok (.istore_n 1, 1) := by decide +kernel
theorem dX9_hangs_2 : decode cX9_hangs 2 = .ok (.iconst 0, 1) := by decide +kernel
theorem dX9_hangs_3 : decode cX9_hangs 3 = .ok (.istore_n 2, 1) := by decide +kernel
theorem dX9_hangs_4 : decode cX9_hangs 4 = .ok (.iload_n 2, 1) := by decide +kernel
theorem dX9_hangs_5 : decode cX9_hangs 5 = .ok (.aload_n 0, 1) := by decide +kernel
theorem dX9_hangs_6 : decode cX9_hangs 6 = .ok (.getfield 13, 3) := by decide +kernel
theorem dX9_hangs_9 : decode cX9_hangs 9 = .ok (.iconst 4, 1) := by decide +kernel
theorem dX9_hangs_10 : decode cX9_hangs 10 = .ok (.iaload, 1) := by decide +kernel
theorem dX9_hangs_11 : decode cX9_hangs 11 = .ok (.if_icmp .ge 44, 3) := by decide +kernel
theorem dX9_hangs_14 : decode cX9_hangs 14 = .ok (.aload_n 0, 1) := by decide +kernel
theorem dX9_hangs_15 : decode cX9_hangs 15 = .ok (.getfield 93, 3) := by decide +kernel
theorem dX9_hangs_18 : decode cX9_hangs 18 = .ok (.iload_n 2, 1) := by decide +kernel
theorem dX9_hangs_19 : decode cX9_hangs 19 = .ok (.aload_n 0, 1) := by decide +kernel
theorem dX9_hangs_20 : decode cX9_hangs 20 = .ok (.iload_n 2, 1) := by decide +kernel
theorem dX9_hangs_21 : decode cX9_hangs 21 = .ok (.invokevirtual 304, 3) := by decide +kernel
theorem dX9_hangs_24 : decode cX9_hangs 24 = .ok (.iastore, 1) := by decide +kernel
theorem dX9_hangs_25 : decode cX9_hangs 25 = .ok (.iload_n 1, 1) := by decide +kernel
theorem dX9_hangs_26 : decode cX9_hangs 26 = .ok (.aload_n 0, 1) := by decide +kernel
theorem dX9_hangs_27 : decode cX9_hangs 27 = .ok (.iload_n 2, 1) := by decide +kernel
theorem dX9_hangs_28 : decode cX9_hangs 28 = .ok (.invokevirtual 292, 3) := by decide +kernel
theorem dX9_hangs_31 : decode cX9_hangs 31 = .ok (.ifCond .ne 15, 3) := by decide +kernel
theorem dX9_hangs_34 : decode cX9_hangs 34 = .ok (.aload_n 0, 1) := by decide +kernel
theorem dX9_hangs_35 : decode cX9_hangs 35 = .ok (.iload_n 2, 1) := by decide +kernel
theorem dX9_hangs_36 : decode cX9_hangs 36 = .ok (.invokevirtual 295, 3) := by decide +kernel
theorem dX9_hangs_39 : decode cX9_hangs 39 = .ok (.ifCond .ne 7, 3) := by decide +kernel
theorem dX9_hangs_42 : decode cX9_hangs 42 = .ok (.iconst 1, 1) := by decide +kernel
theorem dX9_hangs_43 : decode cX9_hangs 43 = .ok (.goto 4, 3) := by decide +kernel
theorem dX9_hangs_46 : decode cX9_hangs 46 = .ok (.iconst 0, 1) := by decide +kernel
theorem dX9_hangs_47 : decode cX9_hangs 47 = .ok (.iadd, 1) := by decide +kernel
theorem dX9_hangs_48 : decode cX9_hangs 48 = .ok (.istore_n 1, 1) := by decide +kernel
theorem dX9_hangs_49 : decode cX9_hangs 49 = .ok (.iinc 2 1, 3) := by decide +kernel
theorem dX9_hangs_52 : decode cX9_hangs 52 = .ok (.goto (-48), 3) := by decide +kernel
theorem dX9_hangs_55 : decode cX9_hangs 55 = .ok (.aload_n 0, 1) := by decide +kernel
theorem dX9_hangs_56 : decode cX9_hangs 56 = .ok (.bipush 40, 2) := by decide +kernel
theorem dX9_hangs_58 : decode cX9_hangs 58 = .ok (.putfield 307, 3) := by decide +kernel
theorem dX9_hangs_61 : decode cX9_hangs 61 = .ok (.aload_n 0, 1) := by decide +kernel
theorem dX9_hangs_62 : decode cX9_hangs 62 = .ok (.getfield 307, 3) := by decide +kernel
theorem dX9_hangs_65 : decode cX9_hangs 65 = .ok (.ifCond .le 33, 3) := by decide +kernel
theorem dX9_hangs_68 : decode cX9_hangs 68 = .ok (.aload_n 0, 1) := by decide +kernel
theorem dX9_hangs_69 : decode cX9_hangs 69 = .ok (.aload_n 0, 1) := by decide +kernel
theorem dX9_hangs_70 : decode cX9_hangs 70 = .ok (.getfield 307, 3) := by decide +kernel
theorem dX9_hangs_73 : decode cX9_hangs 73 = .ok (.invokevirtual 310, 3) := by decide +kernel
theorem dX9_hangs_76 : decode cX9_hangs 76 = .ok (.aload_n 0, 1) := by decide +kernel
theorem dX9_hangs_77 : decode cX9_hangs 77 = .ok (.getfield 13, 3) := by decide +kernel
theorem dX9_hangs_80 : decode cX9_hangs 80 = .ok (.iconst 0, 1) := by decide +kernel
theorem dX9_hangs_81 : decode cX9_hangs 81 = .ok (.iaload, 1) := by decide +kernel
theorem dX9_hangs_82 : decode cX9_hangs 82 = .ok (.if_icmp .ge 16, 3) := by decide +kernel
theorem dX9_hangs_85 : decode cX9_hangs 85 = .ok (.aload_n 0, 1) := by decide +kernel
theorem dX9_hangs_86 : decode cX9_hangs 86 = .ok (.dup, 1) := by decide +kernel
theorem dX9_hangs_87 : decode cX9_hangs 87 = .ok (.getfield 307, 3) := by decide +kernel
theorem dX9_hangs_90 : decode cX9_hangs 90 = .ok (.iconst 1, 1) := by decide +kernel
theorem dX9_hangs_91 : decode cX9_hangs 91 = .ok (.isub, 1) := by decide +kernel
theorem dX9_hangs_92 : decode cX9_hangs 92 = .ok (.putfield 307, 3) := by decide +kernel
theorem dX9_hangs_95 : decode cX9_hangs 95 = .ok (.goto (-34), 3) := by decide +kernel
theorem dX9_hangs_98 : decode cX9_hangs 98 = .ok (.aload_n 0, 1) := by decide +kernel
theorem dX9_hangs_99 : decode cX9_hangs 99 = .ok (.iconst 0, 1) := by decide +kernel
theorem dX9_hangs_100 : decode cX9_hangs 100 = .ok (.aload_n 0, 1) := by decide +kernel
theorem dX9_hangs_101 : decode cX9_hangs 101 = .ok (.getfield 307, 3) := by decide +kernel
theorem dX9_hangs_104 : decode cX9_hangs 104 = .ok (.iload_n 1, 1) := by decide +kernel
theorem dX9_hangs_105 : decode cX9_hangs 105 = .ok (.isub, 1) := by decide +kernel
theorem dX9_hangs_106 : decode cX9_hangs 106 = .ok (.invokestatic 298, 3) := by decide +kernel
theorem dX9_hangs_109 : decode cX9_hangs 109 = .ok (.putfield 313, 3) := by decide +kernel
theorem dX9_hangs_112 : decode cX9_hangs 112 = .ok (.aload_n 0, 1) := by decide +kernel
theorem dX9_hangs_113 : decode cX9_hangs 113 = .ok (.aload_n 0, 1) := by decide +kernel
theorem dX9_hangs_114 : decode cX9_hangs 114 = .ok (.getfield 307, 3) := by decide +kernel
theorem dX9_hangs_117 : decode cX9_hangs 117 = .ok (.invokevirtual 310, 3) := by decide +kernel
theorem dX9_hangs_120 : decode cX9_hangs 120 = .ok (.istore_n 2, 1) := by decide +kernel
theorem dX9_hangs_121 : decode cX9_hangs 121 = .ok (.iconst 0, 1) := by decide +kernel
theorem dX9_hangs_122 : decode cX9_hangs 122 = .ok (.istore_n 3, 1) := by decide +kernel
theorem dX9_hangs_123 : decode cX9_hangs 123 = .ok (.iconst 0, 1) := by decide +kernel
theorem dX9_hangs_124 : decode cX9_hangs 124 = .ok (.istore 4, 2) := by decide +kernel
theorem dX9_hangs_126 : decode cX9_hangs 126 = .ok (.iload 4, 2) := by decide +kernel
theorem dX9_hangs_128 : decode cX9_hangs 128 = .ok (.aload_n 0, 1) := by decide +kernel
theorem dX9_hangs_129 : decode cX9_hangs 129 = .ok (.getfield 13, 3) := by decide +kernel
theorem dX9_hangs_132 : decode cX9_hangs 132 = .ok (.iconst 4, 1) := by decide +kernel
theorem dX9_hangs_133 : decode cX9_hangs 133 = .ok (.iaload, 1) := by decide +kernel
theorem dX9_hangs_134 : decode cX9_hangs 134 = .ok (.if_icmp .ge 45, 3) := by decide +kernel
theorem dX9_hangs_137 : decode cX9_hangs 137 = .ok (.iload_n 3, 1) := by decide +kernel
theorem dX9_hangs_138 : decode cX9_hangs 138 = .ok (.aload_n 0, 1) := by decide +kernel
theorem dX9_hangs_139 : decode cX9_hangs 139 = .ok (.getfield 81, 3) := by decide +kernel
theorem dX9_hangs_142 : decode cX9_hangs 142 = .ok (.iload 4, 2) := by decide +kernel
theorem dX9_hangs_144 : decode cX9_hangs 144 = .ok (.iaload, 1) := by decide +kernel
theorem dX9_hangs_145 : decode cX9_hangs 145 = .ok (.aload_n 0, 1) := by decide +kernel
theorem dX9_hangs_146 : decode cX9_hangs 146 = .ok (.getfield 307, 3) := by decide +kernel
theorem dX9_hangs_149 : decode cX9_hangs 149 = .ok (.if_icmp .lt 21, 3) := by decide +kernel
theorem dX9_hangs_152 : decode cX9_hangs 152 = .ok (.aload_n 0, 1) := by decide +kernel
theorem dX9_hangs_153 : decode cX9_hangs 153 = .ok (.getfield 93, 3) := by decide +kernel
theorem dX9_hangs_156 : decode cX9_hangs 156 = .ok (.iload 4, 2) := by decide +kernel
theorem dX9_hangs_158 : decode cX9_hangs 158 = .ok (.iaload, 1) := by decide +kernel
theorem dX9_hangs_159 : decode cX9_hangs 159 = .ok (.aload_n 0, 1) := by decide +kernel
theorem dX9_hangs_160 : decode cX9_hangs 160 = .ok (.getfield 19, 3) := by decide +kernel
theorem dX9_hangs_163 : decode cX9_hangs 163 = .ok (.iload 4, 2) := by decide +kernel
theorem dX9_hangs_165 : decode cX9_hangs 165 = .ok (.iaload, 1) := by decide +kernel
theorem dX9_hangs_166 : decode cX9_hangs 166 = .ok (.imul, 1) := by decide +kernel
theorem dX9_hangs_167 : decode cX9_hangs 167 = .ok (.goto 4, 3) := by decide +kernel
theorem dX9_hangs_170 : decode cX9_hangs 170 = .ok (.iconst 0, 1) := by decide +kernel
theorem dX9_hangs_171 : decode cX9_hangs 171 = .ok (.iadd, 1) := by decide +kernel
theorem dX9_hangs_172 : decode cX9_hangs 172 = .ok (.istore_n 3, 1) := by decide +kernel
theorem dX9_hangs_173 : decode cX9_hangs 173 = .ok (.iinc 4 1, 3) := by decide +kernel
theorem dX9_hangs_176 : decode cX9_hangs 176 = .ok (.goto (-50), 3) := by decide +kernel
theorem dX9_hangs_179 : decode cX9_hangs 179 = .ok (.aload_n 0, 1) := by decide +kernel
theorem dX9_hangs_180 : decode cX9_hangs 180 = .ok (.iload_n 2, 1) := by decide +kernel
theorem dX9_hangs_181 : decode cX9_hangs 181 = .ok (.ifCond .ne 7, 3) := by decide +kernel
theorem dX9_hangs_184 : decode cX9_hangs 184 = .ok (.iconst 0, 1) := by decide +kernel
theorem dX9_hangs_185 : decode cX9_hangs 185 = .ok (.goto 6, 3) := by decide +kernel
theorem dX9_hangs_188 : decode cX9_hangs 188 = .ok (.iload_n 3, 1) := by decide +kernel
theorem dX9_hangs_189 : decode cX9_hangs 189 = .ok (.iload_n 2, 1) := by decide +kernel
theorem dX9_hangs_190 : decode cX9_hangs 190 = .ok (.idiv, 1) := by decide +kernel
theorem dX9_hangs_191 : decode cX9_hangs 191 = .ok (.aload_n 0, 1) := by decide +kernel
theorem dX9_hangs_192 : decode cX9_hangs 192 = .ok (.getfield 90, 3) := by decide +kernel
theorem dX9_hangs_195 : decode cX9_hangs 195 = .ok (.aload_n 0, 1) := by decide +kernel
theorem dX9_hangs_196 : decode cX9_hangs 196 = .ok (.getfield 313, 3) := by decide +kernel
theorem dX9_hangs_199 : decode cX9_hangs 199 = .ok (.iaload, 1) := by decide +kernel
theorem dX9_hangs_200 : decode cX9_hangs 200 = .ok (.iconst 5, 1) := by decide +kernel
theorem dX9_hangs_201 : decode cX9_hangs 201 = .ok (.idiv, 1) := by decide +kernel
theorem dX9_hangs_202 : decode cX9_hangs 202 = .ok (.iadd, 1) := by decide +kernel
theorem dX9_hangs_203 : decode cX9_hangs 203 = .ok (.putfield 316, 3) := by decide +kernel
theorem dX9_hangs_206 : decode cX9_hangs 206 = .ok (.return_, 1) := by decide +kernel
theorem dX9_pulledAt_0 : decode cX9_pulledAt 0 = .ok (.iconst 0, 1) := by decide +kernel
theorem dX9_pulledAt_1 : decode cX9_pulledAt 1 = .ok (.istore_n 2, 1) := by decide +kernel
theorem dX9_pulledAt_2 : decode cX9_pulledAt 2 = .ok (.iconst 0, 1) := by decide +kernel
theorem dX9_pulledAt_3 : decode cX9_pulledAt 3 = .ok (.istore_n 3, 1) := by decide +kernel
theorem dX9_pulledAt_4 : decode cX9_pulledAt 4 = .ok (.iload_n 3, 1) := by decide +kernel
theorem dX9_pulledAt_5 : decode cX9_pulledAt 5 = .ok (.aload_n 0, 1) := by decide +kernel
theorem dX9_pulledAt_6 : decode cX9_pulledAt 6 = .ok (.getfield 13, 3) := by decide +kernel
theorem dX9_pulledAt_9 : decode cX9_pulledAt 9 = .ok (.iconst 4, 1) := by decide +kernel
theorem dX9_pulledAt_10 : decode cX9_pulledAt 10 = .ok (.iaload, 1) := by decide +kernel
theorem dX9_pulledAt_11 : decode cX9_pulledAt 11 = .ok (.if_icmp .ge 32, 3) := by decide +kernel
theorem dX9_pulledAt_14 : decode cX9_pulledAt 14 = .ok (.iload_n 2, 1) := by decide +kernel
theorem dX9_pulledAt_15 : decode cX9_pulledAt 15 = .ok (.aload_n 0, 1) := by decide +kernel
theorem dX9_pulledAt_16 : decode cX9_pulledAt 16 = .ok (.getfield 81, 3) := by decide +kernel
theorem dX9_pulledAt_19 : decode cX9_pulledAt 19 = .ok (.iload_n 3, 1) := by decide +kernel
theorem dX9_pulledAt_20 : decode cX9_pulledAt 20 = .ok (.iaload, 1) := by decide +kernel
theorem dX9_pulledAt_21 : decode cX9_pulledAt 21 = .ok (.iload_n 1, 1) := by decide +kernel
theorem dX9_pulledAt_22 : decode cX9_pulledAt 22 = .ok (.if_icmp .lt 12, 3) := by decide +kernel
theorem dX9_pulledAt_25 : decode cX9_pulledAt 25 = .ok (.aload_n 0, 1) := by decide +kernel
theorem dX9_pulledAt_26 : decode cX9_pulledAt 26 = .ok (.getfield 93, 3) := by decide +kernel
theorem dX9_pulledAt_29 : decode cX9_pulledAt 29 = .ok (.iload_n 3, 1) := by decide +kernel
theorem dX9_pulledAt_30 : decode cX9_pulledAt 30 = .ok (.iaload, 1) := by decide +kernel
theorem dX9_pulledAt_31 : decode cX9_pulledAt 31 = .ok (.goto 4, 3) := by decide +kernel
theorem dX9_pulledAt_34 : decode cX9_pulledAt 34 = .ok (.iconst 0, 1) := by decide +kernel
theorem dX9_pulledAt_35 : decode cX9_pulledAt 35 = .ok (.iadd, 1) := by decide +kernel
theorem dX9_pulledAt_36 : decode cX9_pulledAt 36 = .ok (.istore_n 2, 1) := by decide +kernel
theorem dX9_pulledAt_37 : decode cX9_pulledAt 37 = .ok (.iinc 3 1, 3) := by decide +kernel
theorem dX9_pulledAt_40 : decode cX9_pulledAt 40 = .ok (.goto (-36), 3) := by decide +kernel
theorem dX9_pulledAt_43 : decode cX9_pulledAt 43 = .ok (.iload_n 2, 1) := by decide +kernel
theorem dX9_pulledAt_44 : decode cX9_pulledAt 44 = .ok (.ireturn, 1) := by decide +kernel
theorem dX9_looks_0 : decode cX9_looks 0 = .ok (.aload_n 0, 1) := by decide +kernel
theorem dX9_looks_1 : decode cX9_looks 1 = .ok (.iload_n 1, 1) := by decide +kernel
theorem dX9_looks_2 : decode cX9_looks 2 = .ok (.iload_n 2, 1) := by decide +kernel
theorem dX9_looks_3 : decode cX9_looks 3 = .ok (.invokevirtual 319, 3) := by decide +kernel
theorem dX9_looks_6 : decode cX9_looks 6 = .ok (.aload_n 0, 1) := by decide +kernel
theorem dX9_looks_7 : decode cX9_looks 7 = .ok (.invokevirtual 322, 3) := by decide +kernel
theorem dX9_looks_10 : decode cX9_looks 10 = .ok (.return_, 1) := by decide +kernel
theorem dX9_looksNow_0 : decode cX9_looksNow 0 = .ok (.aload_n 0, 1) := by decide +kernel
theorem dX9_looksNow_1 : decode cX9_looksNow 1 = .ok (.aload_n 0, 1) := by decide +kernel
theorem dX9_looksNow_2 : decode cX9_looksNow 2 = .ok (.getfield 81, 3) := by decide +kernel
theorem dX9_looksNow_5 : decode cX9_looksNow 5 = .ok (.bipush 19, 2) := by decide +kernel
theorem dX9_looksNow_7 : decode cX9_looksNow 7 = .ok (.iaload, 1) := by decide +kernel
theorem dX9_looksNow_8 : decode cX9_looksNow 8 = .ok (.iconst 0, 1) := by decide +kernel
theorem dX9_looksNow_9 : decode cX9_looksNow 9 = .ok (.invokevirtual 325, 3) := by decide +kernel
theorem dX9_looksNow_12 : decode cX9_looksNow 12 = .ok (.return_, 1) := by decide +kernel
theorem dX9_kite_0 : decode cX9_kite 0 = .ok (.aload_n 0, 1) := by decide +kernel
theorem dX9_kite_1 : decode cX9_kite 1 = .ok (.iconst 0, 1) := by decide +kernel
theorem dX9_kite_2 : decode cX9_kite 2 = .ok (.putfield 109, 3) := by decide +kernel
theorem dX9_kite_5 : decode cX9_kite 5 = .ok (.aload_n 0, 1) := by decide +kernel
theorem dX9_kite_6 : decode cX9_kite 6 = .ok (.iload_n 1, 1) := by decide +kernel
theorem dX9_kite_7 : decode cX9_kite 7 = .ok (.invokevirtual 328, 3) := by decide +kernel
theorem dX9_kite_10 : decode cX9_kite 10 = .ok (.ifCond .eq 12, 3) := by decide +kernel
theorem dX9_kite_13 : decode cX9_kite 13 = .ok (.iload_n 2, 1) := by decide +kernel
theorem dX9_kite_14 : decode cX9_kite 14 = .ok (.iconst 0, 1) := by decide +kernel
theorem dX9_kite_15 : decode cX9_kite 15 = .ok (.iconst 5, 1) := by decide +kernel
theorem dX9_kite_16 : decode cX9_kite 16 = .ok (.invokestatic 235, 3) := by decide +kernel
theorem dX9_kite_19 : decode cX9_kite 19 = .ok (.ifCond .ne 5, 3) := by decide +kernel
theorem dX9_kite_22 : decode cX9_kite 22 = .ok (.iconst (-1), 1) := by decide +kernel
theorem dX9_kite_23 : decode cX9_kite 23 = .ok (.ireturn, 1) := by decide +kernel
theorem dX9_kite_24 : decode cX9_kite 24 = .ok (.aload_n 0, 1) := by decide +kernel
theorem dX9_kite_25 : decode cX9_kite 25 = .ok (.invokevirtual 331, 3) := by decide +kernel
theorem dX9_kite_28 : decode cX9_kite 28 = .ok (.iload_n 2, 1) := by decide +kernel
theorem dX9_kite_29 : decode cX9_kite 29 = .ok (.iconst 3, 1) := by decide +kernel
theorem dX9_kite_30 : decode cX9_kite 30 = .ok (.if_icmp .ge 37, 3) := by decide +kernel
theorem dX9_kite_33 : decode cX9_kite 33 = .ok (.iload_n 2, 1) := by decide +kernel
theorem dX9_kite_34 : decode cX9_kite 34 = .ok (.ifCond .ne 12, 3) := by decide +kernel
theorem dX9_kite_37 : decode cX9_kite 37 = .ok (.aload_n 0, 1) := by decide +kernel
theorem dX9_kite_38 : decode cX9_kite 38 = .ok (.getfield 16, 3) := by decide +kernel
theorem dX9_kite_41 : decode cX9_kite 41 = .ok (.iload_n 1, 1) := by decide +kernel
theorem dX9_kite_42 : decode cX9_kite 42 = .ok (.iaload, 1) := by decide +kernel
theorem dX9_kite_43 : decode cX9_kite 43 = .ok (.goto 23, 3) := by decide +kernel
theorem dX9_kite_46 : decode cX9_kite 46 = .ok (.iload_n 2, 1) := by decide +kernel
theorem dX9_kite_47 : decode cX9_kite 47 = .ok (.iconst 1, 1) := by decide +kernel
theorem dX9_kite_48 : decode cX9_kite 48 = .ok (.if_icmp .ne 12, 3) := by decide +kernel
theorem dX9_kite_51 : decode cX9_kite 51 = .ok (.aload_n 0, 1) := by decide +kernel
theorem dX9_kite_52 : decode cX9_kite 52 = .ok (.getfield 81, 3) := by decide +kernel
theorem dX9_kite_55 : decode cX9_kite 55 = .ok (.iload_n 1, 1) := by decide +kernel
theorem dX9_kite_56 : decode cX9_kite 56 = .ok (.iaload, 1) := by decide +kernel
theorem dX9_kite_57 : decode cX9_kite 57 = .ok (.goto 9, 3) := by decide +kernel
theorem dX9_kite_60 : decode cX9_kite 60 = .ok (.aload_n 0, 1) := by decide +kernel
theorem dX9_kite_61 : decode cX9_kite 61 = .ok (.getfield 93, 3) := by decide +kernel
theorem dX9_kite_64 : decode cX9_kite 64 = .ok (.iload_n 1, 1) := by decide +kernel
theorem dX9_kite_65 : decode cX9_kite 65 = .ok (.iaload, 1) := by decide +kernel
theorem dX9_kite_66 : decode cX9_kite 66 = .ok (.ireturn, 1) := by decide +kernel
theorem dX9_kite_67 : decode cX9_kite 67 = .ok (.iload_n 2, 1) := by decide +kernel
theorem dX9_kite_68 : decode cX9_kite 68 = .ok (.iconst 3, 1) := by decide +kernel
theorem dX9_kite_69 : decode cX9_kite 69 = .ok (.if_icmp .ne 31, 3) := by decide +kernel
theorem dX9_kite_72 : decode cX9_kite 72 = .ok (.aload_n 0, 1) := by decide +kernel
theorem dX9_kite_73 : decode cX9_kite 73 = .ok (.iload_n 1, 1) := by decide +kernel
theorem dX9_kite_74 : decode cX9_kite 74 = .ok (.invokevirtual 292, 3) := by decide +kernel
theorem dX9_kite_77 : decode cX9_kite 77 = .ok (.ifCond .eq 7, 3) := by decide +kernel
theorem dX9_kite_80 : decode cX9_kite 80 = .ok (.iconst 2, 1) := by decide +kernel
theorem dX9_kite_81 : decode cX9_kite 81 = .ok (.goto 47, 3) := by decide +kernel
theorem dX9_kite_84 : decode cX9_kite 84 = .ok (.aload_n 0, 1) := by decide +kernel
theorem dX9_kite_85 : decode cX9_kite 85 = .ok (.iload_n 1, 1) := by decide +kernel
theorem dX9_kite_86 : decode cX9_kite 86 = .ok (.invokevirtual 295, 3) := by decide +kernel
theorem dX9_kite_89 : decode cX9_kite 89 = .ok (.ifCond .eq 7, 3) := by decide +kernel
theorem dX9_kite_92 : decode cX9_kite 92 = .ok (.iconst 0, 1) := by decide +kernel
theorem dX9_kite_93 : decode cX9_kite 93 = .ok (.goto 35, 3) := by decide +kernel
theorem dX9_kite_96 : decode cX9_kite 96 = .ok (.iconst 1, 1) := by decide +kernel
theorem dX9_kite_97 : decode cX9_kite 97 = .ok (.goto 31, 3) := by decide +kernel
theorem dX9_kite_100 : decode cX9_kite 100 = .ok (.iload_n 2, 1) := by decide +kernel
theorem dX9_kite_101 : decode cX9_kite 101 = .ok (.iconst 4, 1) := by decide +kernel
theorem dX9_kite_102 : decode cX9_kite 102 = .ok (.if_icmp .ne 17, 3) := by decide +kernel
theorem dX9_kite_105 : decode cX9_kite 105 = .ok (.aload_n 0, 1) := by decide +kernel
theorem dX9_kite_106 : decode cX9_kite 106 = .ok (.getfield 81, 3) := by decide +kernel
theorem dX9_kite_109 : decode cX9_kite 109 = .ok (.bipush 6, 2) := by decide +kernel
theorem dX9_kite_111 : decode cX9_kite 111 = .ok (.iload_n 1, 1) := by decide +kernel
theorem dX9_kite_112 : decode cX9_kite 112 = .ok (.iadd, 1) := by decide +kernel
theorem dX9_kite_113 : decode cX9_kite 113 = .ok (.iaload, 1) := by decide +kernel
theorem dX9_kite_114 : decode cX9_kite 114 = .ok (.iconst 1, 1) := by decide +kernel
theorem dX9_kite_115 : decode cX9_kite 115 = .ok (.isub, 1) := by decide +kernel
theorem dX9_kite_116 : decode cX9_kite 116 = .ok (.goto 12, 3) := by decide +kernel
theorem dX9_kite_119 : decode cX9_kite 119 = .ok (.aload_n 0, 1) := by decide +kernel
theorem dX9_kite_120 : decode cX9_kite 120 = .ok (.getfield 81, 3) := by decide +kernel
theorem dX9_kite_123 : decode cX9_kite 123 = .ok (.bipush 12, 2) := by decide +kernel
theorem dX9_kite_125 : decode cX9_kite 125 = .ok (.iload_n 1, 1) := by decide +kernel
theorem dX9_kite_126 : decode cX9_kite 126 = .ok (.iadd, 1) := by decide +kernel
theorem dX9_kite_127 : decode cX9_kite 127 = .ok (.iaload, 1) := by decide +kernel
theorem dX9_kite_128 : decode cX9_kite 128 = .ok (.ireturn, 1) := by decide +kernel
theorem dX9_wind_0 : decode cX9_wind 0 = .ok (.aload_n 0, 1) := by decide +kernel
theorem dX9_wind_1 : decode cX9_wind 1 = .ok (.iconst 0, 1) := by decide +kernel
theorem dX9_wind_2 : decode cX9_wind 2 = .ok (.putfield 109, 3) := by decide +kernel
theorem dX9_wind_5 : decode cX9_wind 5 = .ok (.iload_n 1, 1) := by decide +kernel
theorem dX9_wind_6 : decode cX9_wind 6 = .ok (.invokestatic 334, 3) := by decide +kernel
theorem dX9_wind_9 : decode cX9_wind 9 = .ok (.ifCond .ne 5, 3) := by decide +kernel
theorem dX9_wind_12 : decode cX9_wind 12 = .ok (.iconst (-1), 1) := by decide +kernel
theorem dX9_wind_13 : decode cX9_wind 13 = .ok (.ireturn, 1) := by decide +kernel
theorem dX9_wind_14 : decode cX9_wind 14 = .ok (.aload_n 0, 1) := by decide +kernel
theorem dX9_wind_15 : decode cX9_wind 15 = .ok (.aload_n 0, 1) := by decide +kernel
theorem dX9_wind_16 : decode cX9_wind 16 = .ok (.getfield 81, 3) := by decide +kernel
theorem dX9_wind_19 : decode cX9_wind 19 = .ok (.bipush 19, 2) := by decide +kernel
theorem dX9_wind_21 : decode cX9_wind 21 = .ok (.iaload, 1) := by decide +kernel
theorem dX9_wind_22 : decode cX9_wind 22 = .ok (.iconst 0, 1) := by decide +kernel
theorem dX9_wind_23 : decode cX9_wind 23 = .ok (.invokevirtual 319, 3) := by decide +kernel
theorem dX9_wind_26 : decode cX9_wind 26 = .ok (.aload_n 0, 1) := by decide +kernel
theorem dX9_wind_27 : decode cX9_wind 27 = .ok (.getfield 90, 3) := by decide +kernel
theorem dX9_wind_30 : decode cX9_wind 30 = .ok (.iload_n 1, 1) := by decide +kernel
theorem dX9_wind_31 : decode cX9_wind 31 = .ok (.iaload, 1) := by decide +kernel
theorem dX9_wind_32 : decode cX9_wind 32 = .ok (.ireturn, 1) := by decide +kernel
theorem dX9_lamp_0 : decode cX9_lamp 0 = .ok (.aload_n 0, 1) := by decide +kernel
theorem dX9_lamp_1 : decode cX9_lamp 1 = .ok (.iload_n 1, 1) := by decide +kernel
theorem dX9_lamp_2 : decode cX9_lamp 2 = .ok (.iconst 0, 1) := by decide +kernel
theorem dX9_lamp_3 : decode cX9_lamp 3 = .ok (.sipush 9999, 3) := by decide +kernel
theorem dX9_lamp_6 : decode cX9_lamp 6 = .ok (.invokestatic 235, 3) := by decide +kernel
theorem dX9_lamp_9 : decode cX9_lamp 9 = .ok (.ifCond .eq 16, 3) := by decide +kernel
theorem dX9_lamp_12 : decode cX9_lamp 12 = .ok (.iload_n 2, 1) := by decide +kernel
theorem dX9_lamp_13 : decode cX9_lamp 13 = .ok (.iconst 0, 1) := by decide +kernel
theorem dX9_lamp_14 : decode cX9_lamp 14 = .ok (.iconst 2, 1) := by decide +kernel
theorem dX9_lamp_15 : decode cX9_lamp 15 = .ok (.invokestatic 235, 3) := by decide +kernel
theorem dX9_lamp_18 : decode cX9_lamp 18 = .ok (.ifCond .eq 7, 3) := by decide +kernel
theorem dX9_lamp_21 : decode cX9_lamp 21 = .ok (.iconst 0, 1) := by decide +kernel
theorem dX9_lamp_22 : decode cX9_lamp 22 = .ok (.goto 4, 3) := by decide +kernel
theorem dX9_lamp_25 : decode cX9_lamp 25 = .ok (.iconst 1, 1) := by decide +kernel
theorem dX9_lamp_26 : decode cX9_lamp 26 = .ok (.putfield 109, 3) := by decide +kernel
theorem dX9_lamp_29 : decode cX9_lamp 29 = .ok (.aload_n 0, 1) := by decide +kernel
theorem dX9_lamp_30 : decode cX9_lamp 30 = .ok (.getfield 109, 3) := by decide +kernel
theorem dX9_lamp_33 : decode cX9_lamp 33 = .ok (.iconst 1, 1) := by decide +kernel
theorem dX9_lamp_34 : decode cX9_lamp 34 = .ok (.if_icmp .ne 5, 3) := by decide +kernel
theorem dX9_lamp_37 : decode cX9_lamp 37 = .ok (.iconst 0, 1) := by decide +kernel
theorem dX9_lamp_38 : decode cX9_lamp 38 = .ok (.ireturn, 1) := by decide +kernel
theorem dX9_lamp_39 : decode cX9_lamp 39 = .ok (.aload_n 0, 1) := by decide +kernel
theorem dX9_lamp_40 : decode cX9_lamp 40 = .ok (.iload_n 1, 1) := by decide +kernel
theorem dX9_lamp_41 : decode cX9_lamp 41 = .ok (.iconst 0, 1) := by decide +kernel
theorem dX9_lamp_42 : decode cX9_lamp 42 = .ok (.invokevirtual 325, 3) := by decide +kernel
theorem dX9_lamp_45 : decode cX9_lamp 45 = .ok (.iload_n 2, 1) := by decide +kernel
theorem dX9_lamp_46 : decode cX9_lamp 46 = .ok (.ifCond .ne 10, 3) := by decide +kernel
theorem dX9_lamp_49 : decode cX9_lamp 49 = .ok (.aload_n 0, 1) := by decide +kernel
theorem dX9_lamp_50 : decode cX9_lamp 50 = .ok (.getfield 316, 3) := by decide +kernel
theorem dX9_lamp_53 : decode cX9_lamp 53 = .ok (.goto 19, 3) := by decide +kernel
theorem dX9_lamp_56 : decode cX9_lamp 56 = .ok (.iload_n 2, 1) := by decide +kernel
theorem dX9_lamp_57 : decode cX9_lamp 57 = .ok (.iconst 1, 1) := by decide +kernel
theorem dX9_lamp_58 : decode cX9_lamp 58 = .ok (.if_icmp .ne 10, 3) := by decide +kernel
theorem dX9_lamp_61 : decode cX9_lamp 61 = .ok (.aload_n 0, 1) := by decide +kernel
theorem dX9_lamp_62 : decode cX9_lamp 62 = .ok (.getfield 313, 3) := by decide +kernel
theorem dX9_lamp_65 : decode cX9_lamp 65 = .ok (.goto 7, 3) := by decide +kernel
theorem dX9_lamp_68 : decode cX9_lamp 68 = .ok (.aload_n 0, 1) := by decide +kernel
theorem dX9_lamp_69 : decode cX9_lamp 69 = .ok (.getfield 307, 3) := by decide +kernel
theorem dX9_lamp_72 : decode cX9_lamp 72 = .ok (.ireturn, 1) := by decide +kernel
theorem dX9_whistle_0 : decode cX9_whistle 0 = .ok (.aload_n 0, 1) := by decide +kernel
theorem dX9_whistle_1 : decode cX9_whistle 1 = .ok (.iconst 0, 1) := by decide +kernel
theorem dX9_whistle_2 : decode cX9_whistle 2 = .ok (.putfield 109, 3) := by decide +kernel
theorem dX9_whistle_5 : decode cX9_whistle 5 = .ok (.aload_n 0, 1) := by decide +kernel
theorem dX9_whistle_6 : decode cX9_whistle 6 = .ok (.iload_n 1, 1) := by decide +kernel
theorem dX9_whistle_7 : decode cX9_whistle 7 = .ok (.invokevirtual 328, 3) := by decide +kernel
theorem dX9_whistle_10 : decode cX9_whistle 10 = .ok (.ifCond .eq 28, 3) := by decide +kernel
theorem dX9_whistle_13 : decode cX9_whistle 13 = .ok (.iload_n 2, 1) := by decide +kernel
theorem dX9_whistle_14 : decode cX9_whistle 14 = .ok (.invokestatic 334, 3) := by decide +kernel
theorem dX9_whistle_17 : decode cX9_whistle 17 = .ok (.ifCond .eq 21, 3) := by decide +kernel
theorem dX9_whistle_20 : decode cX9_whistle 20 = .ok (.aload_n 0, 1) := by decide +kernel
theorem dX9_whistle_21 : decode cX9_whistle 21 = .ok (.getfield 16, 3) := by decide +kernel
theorem dX9_whistle_24 : decode cX9_whistle 24 = .ok (.iload_n 1, 1) := by decide +kernel
theorem dX9_whistle_25 : decode cX9_whistle 25 = .ok (.iaload, 1) := by decide +kernel
theorem dX9_whistle_26 : decode cX9_whistle 26 = .ok (.iconst 4, 1) := by decide +kernel
theorem dX9_whistle_27 : decode cX9_whistle 27 = .ok (.if_icmp .eq 11, 3) := by decide +kernel
theorem dX9_whistle_30 : decode cX9_whistle 30 = .ok (.aload_n 0, 1) := by decide +kernel
theorem dX9_whistle_31 : decode cX9_whistle 31 = .ok (.iload_n 1, 1) := by decide +kernel
theorem dX9_whistle_32 : decode cX9_whistle 32 = .ok (.invokevirtual 292, 3) := by decide +kernel
theorem dX9_whistle_35 : decode cX9_whistle 35 = .ok (.ifCond .eq 5, 3) := by decide +kernel
theorem dX9_whistle_38 : decode cX9_whistle 38 = .ok (.iconst 0, 1) := by decide +kernel
theorem dX9_whistle_39 : decode cX9_whistle 39 = .ok (.ireturn, 1) := by decide +kernel
theorem dX9_whistle_40 : decode cX9_whistle 40 = .ok (.aload_n 0, 1) := by decide +kernel
theorem dX9_whistle_41 : decode cX9_whistle 41 = .ok (.getfield 81, 3) := by decide +kernel
theorem dX9_whistle_44 : decode cX9_whistle 44 = .ok (.bipush 6, 2) := by decide +kernel
theorem dX9_whistle_46 : decode cX9_whistle 46 = .ok (.iload_n 1, 1) := by decide +kernel
theorem dX9_whistle_47 : decode cX9_whistle 47 = .ok (.iadd, 1) := by decide +kernel
theorem dX9_whistle_48 : decode cX9_whistle 48 = .ok (.iload_n 2, 1) := by decide +kernel
theorem dX9_whistle_49 : decode cX9_whistle 49 = .ok (.aload_n 0, 1) := by decide +kernel
theorem dX9_whistle_50 : decode cX9_whistle 50 = .ok (.getfield 81, 3) := by decide +kernel
theorem dX9_whistle_53 : decode cX9_whistle 53 = .ok (.iload_n 1, 1) := by decide +kernel
theorem dX9_whistle_54 : decode cX9_whistle 54 = .ok (.iaload, 1) := by decide +kernel
theorem dX9_whistle_55 : decode cX9_whistle 55 = .ok (.if_icmp .ne 7, 3) := by decide +kernel
theorem dX9_whistle_58 : decode cX9_whistle 58 = .ok (.iconst 0, 1) := by decide +kernel
theorem dX9_whistle_59 : decode cX9_whistle 59 = .ok (.goto 6, 3) := by decide +kernel
theorem dX9_whistle_62 : decode cX9_whistle 62 = .ok (.iconst 1, 1) := by decide +kernel
theorem dX9_whistle_63 : decode cX9_whistle 63 = .ok (.iload_n 2, 1) := by decide +kernel
theorem dX9_whistle_64 : decode cX9_whistle 64 = .ok (.iadd, 1) := by decide +kernel
theorem dX9_whistle_65 : decode cX9_whistle 65 = .ok (.iastore, 1) := by decide +kernel
theorem dX9_whistle_66 : decode cX9_whistle 66 = .ok (.iconst 1, 1) := by decide +kernel
theorem dX9_whistle_67 : decode cX9_whistle 67 = .ok (.ireturn, 1) := by decide +kernel
theorem dX9_lose_0 : decode cX9_lose 0 = .ok (.aload_n 0, 1) := by decide +kernel
theorem dX9_lose_1 : decode cX9_lose 1 = .ok (.iconst 0, 1) := by decide +kernel
theorem dX9_lose_2 : decode cX9_lose 2 = .ok (.putfield 109, 3) := by decide +kernel
theorem dX9_lose_5 : decode cX9_lose 5 = .ok (.aload_n 0, 1) := by decide +kernel
theorem dX9_lose_6 : decode cX9_lose 6 = .ok (.iload_n 1, 1) := by decide +kernel
theorem dX9_lose_7 : decode cX9_lose 7 = .ok (.invokevirtual 328, 3) := by decide +kernel
theorem dX9_lose_10 : decode cX9_lose 10 = .ok (.ifCond .eq 12, 3) := by decide +kernel
theorem dX9_lose_13 : decode cX9_lose 13 = .ok (.aload_n 0, 1) := by decide +kernel
theorem dX9_lose_14 : decode cX9_lose 14 = .ok (.iload_n 1, 1) := by decide +kernel
theorem dX9_lose_15 : decode cX9_lose 15 = .ok (.invokevirtual 292, 3) := by decide +kernel
theorem dX9_lose_18 : decode cX9_lose 18 = .ok (.iload_n 2, 1) := by decide +kernel
theorem dX9_lose_19 : decode cX9_lose 19 = .ok (.if_icmp .eq 5, 3) := by decide +kernel
theorem dX9_lose_22 : decode cX9_lose 22 = .ok (.iconst 0, 1) := by decide +kernel
theorem dX9_lose_23 : decode cX9_lose 23 = .ok (.ireturn, 1) := by decide +kernel
theorem dX9_lose_24 : decode cX9_lose 24 = .ok (.aload_n 0, 1) := by decide +kernel
theorem dX9_lose_25 : decode cX9_lose 25 = .ok (.getfield 81, 3) := by decide +kernel
theorem dX9_lose_28 : decode cX9_lose 28 = .ok (.bipush 18, 2) := by decide +kernel
theorem dX9_lose_30 : decode cX9_lose 30 = .ok (.dup2, 1) := by decide +kernel
theorem dX9_lose_31 : decode cX9_lose 31 = .ok (.iaload, 1) := by decide +kernel
theorem dX9_lose_32 : decode cX9_lose 32 = .ok (.iconst 1, 1) := by decide +kernel
theorem dX9_lose_33 : decode cX9_lose 33 = .ok (.iload_n 1, 1) := by decide +kernel
theorem dX9_lose_34 : decode cX9_lose 34 = .ok (.ishl, 1) := by decide +kernel
theorem dX9_lose_35 : decode cX9_lose 35 = .ok (.ixor, 1) := by decide +kernel
theorem dX9_lose_36 : decode cX9_lose 36 = .ok (.iastore, 1) := by decide +kernel
theorem dX9_lose_37 : decode cX9_lose 37 = .ok (.aload_n 0, 1) := by decide +kernel
theorem dX9_lose_38 : decode cX9_lose 38 = .ok (.getfield 81, 3) := by decide +kernel
theorem dX9_lose_41 : decode cX9_lose 41 = .ok (.bipush 6, 2) := by decide +kernel
theorem dX9_lose_43 : decode cX9_lose 43 = .ok (.iload_n 1, 1) := by decide +kernel
theorem dX9_lose_44 : decode cX9_lose 44 = .ok (.iadd, 1) := by decide +kernel
theorem dX9_lose_45 : decode cX9_lose 45 = .ok (.iconst 0, 1) := by decide +kernel
theorem dX9_lose_46 : decode cX9_lose 46 = .ok (.iastore, 1) := by decide +kernel
theorem dX9_lose_47 : decode cX9_lose 47 = .ok (.aload_n 0, 1) := by decide +kernel
theorem dX9_lose_48 : decode cX9_lose 48 = .ok (.getfield 81, 3) := by decide +kernel
theorem dX9_lose_51 : decode cX9_lose 51 = .ok (.bipush 12, 2) := by decide +kernel
theorem dX9_lose_53 : decode cX9_lose 53 = .ok (.iload_n 1, 1) := by decide +kernel
theorem dX9_lose_54 : decode cX9_lose 54 = .ok (.iadd, 1) := by decide +kernel
theorem dX9_lose_55 : decode cX9_lose 55 = .ok (.iconst 0, 1) := by decide +kernel
theorem dX9_lose_56 : decode cX9_lose 56 = .ok (.iastore, 1) := by decide +kernel
theorem dX9_lose_57 : decode cX9_lose 57 = .ok (.iload_n 2, 1) := by decide +kernel
theorem dX9_lose_58 : decode cX9_lose 58 = .ok (.ifCond .eq 10, 3) := by decide +kernel
theorem dX9_lose_61 : decode cX9_lose 61 = .ok (.aload_n 0, 1) := by decide +kernel
theorem dX9_lose_62 : decode cX9_lose 62 = .ok (.getfield 81, 3) := by decide +kernel
theorem dX9_lose_65 : decode cX9_lose 65 = .ok (.iload_n 1, 1) := by decide +kernel
theorem dX9_lose_66 : decode cX9_lose 66 = .ok (.iconst 0, 1) := by decide +kernel
theorem dX9_lose_67 : decode cX9_lose 67 = .ok (.iastore, 1) := by decide +kernel
theorem dX9_lose_68 : decode cX9_lose 68 = .ok (.iconst 1, 1) := by decide +kernel
theorem dX9_lose_69 : decode cX9_lose 69 = .ok (.ireturn, 1) := by decide +kernel
theorem dX9_rests_0 : decode cX9_rests 0 = .ok (.aload_n 0, 1) := by decide +kernel
theorem dX9_rests_1 : decode cX9_rests 1 = .ok (.getfield 81, 3) := by decide +kernel
theorem dX9_rests_4 : decode cX9_rests 4 = .ok (.bipush 12, 2) := by decide +kernel
theorem dX9_rests_6 : decode cX9_rests 6 = .ok (.iload_n 1, 1) := by decide +kernel
theorem dX9_rests_7 : decode cX9_rests 7 = .ok (.iadd, 1) := by decide +kernel
theorem dX9_rests_8 : decode cX9_rests 8 = .ok (.iaload, 1) := by decide +kernel
theorem dX9_rests_9 : decode cX9_rests 9 = .ok (.aload_n 0, 1) := by decide +kernel
theorem dX9_rests_10 : decode cX9_rests 10 = .ok (.getfield 13, 3) := by decide +kernel
theorem dX9_rests_13 : decode cX9_rests 13 = .ok (.iconst 2, 1) := by decide +kernel
