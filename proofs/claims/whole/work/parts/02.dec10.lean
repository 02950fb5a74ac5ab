theorem dX9_rests_14 : decode cX9_rests 14 = .ok (.iaload, 1) := by decide +kernel
theorem dX9_rests_15 : decode cX9_rests 15 = .ok (.if_icmp .ge 26, 3) := by decide +kernel
theorem dX9_rests_18 : decode cX9_rests 18 = .ok (.aload_n 0, 1) := by decide +kernel
theorem dX9_rests_19 : decode cX9_rests 19 = .ok (.getfield 16, 3) := by decide +kernel
theorem dX9_rests_22 : decode cX9_rests 22 = .ok (.iload_n 1, 1) := by decide +kernel
theorem dX9_rests_23 : decode cX9_rests 23 = .ok (.iaload, 1) := by decide +kernel
theorem dX9_rests_24 : decode cX9_rests 24 = .ok (.iconst 5, 1) := by decide +kernel
theorem dX9_rests_25 : decode cX9_rests 25 = .ok (.if_icmp .ne 20, 3) := by decide +kernel
theorem dX9_rests_28 : decode cX9_rests 28 = .ok (.aload_n 0, 1) := by decide +kernel
theorem dX9_rests_29 : decode cX9_rests 29 = .ok (.getfield 81, 3) := by decide +kernel
theorem dX9_rests_32 : decode cX9_rests 32 = .ok (.bipush 19, 2) := by decide +kernel
theorem dX9_rests_34 : decode cX9_rests 34 = .ok (.iaload, 1) := by decide +kernel
theorem dX9_rests_35 : decode cX9_rests 35 = .ok (.iconst 2, 1) := by decide +kernel
theorem dX9_rests_36 : decode cX9_rests 36 = .ok (.irem, 1) := by decide +kernel
theorem dX9_rests_37 : decode cX9_rests 37 = .ok (.iconst 1, 1) := by decide +kernel
theorem dX9_rests_38 : decode cX9_rests 38 = .ok (.if_icmp .ne 7, 3) := by decide +kernel
theorem dX9_rests_41 : decode cX9_rests 41 = .ok (.iconst 1, 1) := by decide +kernel
theorem dX9_rests_42 : decode cX9_rests 42 = .ok (.goto 4, 3) := by decide +kernel
theorem dX9_rests_45 : decode cX9_rests 45 = .ok (.iconst 0, 1) := by decide +kernel
theorem dX9_rests_46 : decode cX9_rests 46 = .ok (.ireturn, 1) := by decide +kernel
theorem dX9_hauls_0 : decode cX9_hauls 0 = .ok (.aload_n 0, 1) := by decide +kernel
theorem dX9_hauls_1 : decode cX9_hauls 1 = .ok (.getfield 13, 3) := by decide +kernel
theorem dX9_hauls_4 : decode cX9_hauls 4 = .ok (.iconst 1, 1) := by decide +kernel
theorem dX9_hauls_5 : decode cX9_hauls 5 = .ok (.iaload, 1) := by decide +kernel
theorem dX9_hauls_6 : decode cX9_hauls 6 = .ok (.istore_n 2, 1) := by decide +kernel
theorem dX9_hauls_7 : decode cX9_hauls 7 = .ok (.aload_n 0, 1) := by decide +kernel
theorem dX9_hauls_8 : decode cX9_hauls 8 = .ok (.getfield 81, 3) := by decide +kernel
theorem dX9_hauls_11 : decode cX9_hauls 11 = .ok (.bipush 6, 2) := by decide +kernel
theorem dX9_hauls_13 : decode cX9_hauls 13 = .ok (.iload_n 1, 1) := by decide +kernel
theorem dX9_hauls_14 : decode cX9_hauls 14 = .ok (.iadd, 1) := by decide +kernel
theorem dX9_hauls_15 : decode cX9_hauls 15 = .ok (.iaload, 1) := by decide +kernel
theorem dX9_hauls_16 : decode cX9_hauls 16 = .ok (.ifCond .le 28, 3) := by decide +kernel
theorem dX9_hauls_19 : decode cX9_hauls 19 = .ok (.aload_n 0, 1) := by decide +kernel
theorem dX9_hauls_20 : decode cX9_hauls 20 = .ok (.getfield 81, 3) := by decide +kernel
theorem dX9_hauls_23 : decode cX9_hauls 23 = .ok (.bipush 6, 2) := by decide +kernel
theorem dX9_hauls_25 : decode cX9_hauls 25 = .ok (.iload_n 1, 1) := by decide +kernel
theorem dX9_hauls_26 : decode cX9_hauls 26 = .ok (.iadd, 1) := by decide +kernel
theorem dX9_hauls_27 : decode cX9_hauls 27 = .ok (.iaload, 1) := by decide +kernel
theorem dX9_hauls_28 : decode cX9_hauls 28 = .ok (.iconst 1, 1) := by decide +kernel
theorem dX9_hauls_29 : decode cX9_hauls 29 = .ok (.isub, 1) := by decide +kernel
theorem dX9_hauls_30 : decode cX9_hauls 30 = .ok (.aload_n 0, 1) := by decide +kernel
theorem dX9_hauls_31 : decode cX9_hauls 31 = .ok (.getfield 81, 3) := by decide +kernel
theorem dX9_hauls_34 : decode cX9_hauls 34 = .ok (.iload_n 1, 1) := by decide +kernel
theorem dX9_hauls_35 : decode cX9_hauls 35 = .ok (.iaload, 1) := by decide +kernel
theorem dX9_hauls_36 : decode cX9_hauls 36 = .ok (.isub, 1) := by decide +kernel
theorem dX9_hauls_37 : decode cX9_hauls 37 = .ok (.iload_n 2, 1) := by decide +kernel
theorem dX9_hauls_38 : decode cX9_hauls 38 = .ok (.ineg, 1) := by decide +kernel
theorem dX9_hauls_39 : decode cX9_hauls 39 = .ok (.iload_n 2, 1) := by decide +kernel
theorem dX9_hauls_40 : decode cX9_hauls 40 = .ok (.invokestatic 288, 3) := by decide +kernel
theorem dX9_hauls_43 : decode cX9_hauls 43 = .ok (.ireturn, 1) := by decide +kernel
theorem dX9_hauls_44 : decode cX9_hauls 44 = .ok (.aload_n 0, 1) := by decide +kernel
theorem dX9_hauls_45 : decode cX9_hauls 45 = .ok (.getfield 38, 3) := by decide +kernel
theorem dX9_hauls_48 : decode cX9_hauls 48 = .ok (.iconst 1, 1) := by decide +kernel
theorem dX9_hauls_49 : decode cX9_hauls 49 = .ok (.iaload, 1) := by decide +kernel
theorem dX9_hauls_50 : decode cX9_hauls 50 = .ok (.aload_n 0, 1) := by decide +kernel
theorem dX9_hauls_51 : decode cX9_hauls 51 = .ok (.getfield 35, 3) := by decide +kernel
theorem dX9_hauls_54 : decode cX9_hauls 54 = .ok (.iconst 1, 1) := by decide +kernel
theorem dX9_hauls_55 : decode cX9_hauls 55 = .ok (.iaload, 1) := by decide +kernel
theorem dX9_hauls_56 : decode cX9_hauls 56 = .ok (.if_icmp .ne 5, 3) := by decide +kernel
theorem dX9_hauls_59 : decode cX9_hauls 59 = .ok (.iconst 0, 1) := by decide +kernel
theorem dX9_hauls_60 : decode cX9_hauls 60 = .ok (.ireturn, 1) := by decide +kernel
theorem dX9_hauls_61 : decode cX9_hauls 61 = .ok (.aload_n 0, 1) := by decide +kernel
theorem dX9_hauls_62 : decode cX9_hauls 62 = .ok (.getfield 78, 3) := by decide +kernel
theorem dX9_hauls_65 : decode cX9_hauls 65 = .ok (.iconst 1, 1) := by decide +kernel
theorem dX9_hauls_66 : decode cX9_hauls 66 = .ok (.aload_n 0, 1) := by decide +kernel
theorem dX9_hauls_67 : decode cX9_hauls 67 = .ok (.getfield 81, 3) := by decide +kernel
theorem dX9_hauls_70 : decode cX9_hauls 70 = .ok (.iload_n 1, 1) := by decide +kernel
theorem dX9_hauls_71 : decode cX9_hauls 71 = .ok (.iaload, 1) := by decide +kernel
theorem dX9_hauls_72 : decode cX9_hauls 72 = .ok (.iastore, 1) := by decide +kernel
theorem dX9_hauls_73 : decode cX9_hauls 73 = .ok (.aload_n 0, 1) := by decide +kernel
theorem dX9_hauls_74 : decode cX9_hauls 74 = .ok (.getfield 78, 3) := by decide +kernel
theorem dX9_hauls_77 : decode cX9_hauls 77 = .ok (.iconst 2, 1) := by decide +kernel
theorem dX9_hauls_78 : decode cX9_hauls 78 = .ok (.aload_n 0, 1) := by decide +kernel
theorem dX9_hauls_79 : decode cX9_hauls 79 = .ok (.getfield 93, 3) := by decide +kernel
theorem dX9_hauls_82 : decode cX9_hauls 82 = .ok (.iload_n 1, 1) := by decide +kernel
theorem dX9_hauls_83 : decode cX9_hauls 83 = .ok (.iaload, 1) := by decide +kernel
theorem dX9_hauls_84 : decode cX9_hauls 84 = .ok (.iastore, 1) := by decide +kernel
theorem dX9_hauls_85 : decode cX9_hauls 85 = .ok (.aload_n 0, 1) := by decide +kernel
theorem dX9_hauls_86 : decode cX9_hauls 86 = .ok (.getfield 78, 3) := by decide +kernel
theorem dX9_hauls_89 : decode cX9_hauls 89 = .ok (.iconst 3, 1) := by decide +kernel
theorem dX9_hauls_90 : decode cX9_hauls 90 = .ok (.aload_n 0, 1) := by decide +kernel
theorem dX9_hauls_91 : decode cX9_hauls 91 = .ok (.getfield 313, 3) := by decide +kernel
theorem dX9_hauls_94 : decode cX9_hauls 94 = .ok (.iastore, 1) := by decide +kernel
theorem dX9_hauls_95 : decode cX9_hauls 95 = .ok (.aload_n 0, 1) := by decide +kernel
theorem dX9_hauls_96 : decode cX9_hauls 96 = .ok (.getfield 78, 3) := by decide +kernel
theorem dX9_hauls_99 : decode cX9_hauls 99 = .ok (.iconst 4, 1) := by decide +kernel
theorem dX9_hauls_100 : decode cX9_hauls 100 = .ok (.aload_n 0, 1) := by decide +kernel
theorem dX9_hauls_101 : decode cX9_hauls 101 = .ok (.getfield 316, 3) := by decide +kernel
theorem dX9_hauls_104 : decode cX9_hauls 104 = .ok (.aload_n 0, 1) := by decide +kernel
theorem dX9_hauls_105 : decode cX9_hauls 105 = .ok (.getfield 19, 3) := by decide +kernel
theorem dX9_hauls_108 : decode cX9_hauls 108 = .ok (.iload_n 1, 1) := by decide +kernel
theorem dX9_hauls_109 : decode cX9_hauls 109 = .ok (.iaload, 1) := by decide +kernel
theorem dX9_hauls_110 : decode cX9_hauls 110 = .ok (.isub, 1) := by decide +kernel
theorem dX9_hauls_111 : decode cX9_hauls 111 = .ok (.iastore, 1) := by decide +kernel
theorem dX9_hauls_112 : decode cX9_hauls 112 = .ok (.aload_n 0, 1) := by decide +kernel
theorem dX9_hauls_113 : decode cX9_hauls 113 = .ok (.getfield 78, 3) := by decide +kernel
theorem dX9_hauls_116 : decode cX9_hauls 116 = .ok (.iconst 5, 1) := by decide +kernel
theorem dX9_hauls_117 : decode cX9_hauls 117 = .ok (.aload_n 0, 1) := by decide +kernel
theorem dX9_hauls_118 : decode cX9_hauls 118 = .ok (.getfield 90, 3) := by decide +kernel
theorem dX9_hauls_121 : decode cX9_hauls 121 = .ok (.aload_n 0, 1) := by decide +kernel
theorem dX9_hauls_122 : decode cX9_hauls 122 = .ok (.getfield 81, 3) := by decide +kernel
theorem dX9_hauls_125 : decode cX9_hauls 125 = .ok (.iload_n 1, 1) := by decide +kernel
theorem dX9_hauls_126 : decode cX9_hauls 126 = .ok (.iaload, 1) := by decide +kernel
theorem dX9_hauls_127 : decode cX9_hauls 127 = .ok (.iaload, 1) := by decide +kernel
theorem dX9_hauls_128 : decode cX9_hauls 128 = .ok (.iastore, 1) := by decide +kernel
theorem dX9_hauls_129 : decode cX9_hauls 129 = .ok (.aload_n 0, 1) := by decide +kernel
theorem dX9_hauls_130 : decode cX9_hauls 130 = .ok (.getfield 78, 3) := by decide +kernel
theorem dX9_hauls_133 : decode cX9_hauls 133 = .ok (.bipush 6, 2) := by decide +kernel
theorem dX9_hauls_135 : decode cX9_hauls 135 = .ok (.aload_n 0, 1) := by decide +kernel
theorem dX9_hauls_136 : decode cX9_hauls 136 = .ok (.getfield 81, 3) := by decide +kernel
theorem dX9_hauls_139 : decode cX9_hauls 139 = .ok (.bipush 19, 2) := by decide +kernel
theorem dX9_hauls_141 : decode cX9_hauls 141 = .ok (.iaload, 1) := by decide +kernel
theorem dX9_hauls_142 : decode cX9_hauls 142 = .ok (.iastore, 1) := by decide +kernel
theorem dX9_hauls_143 : decode cX9_hauls 143 = .ok (.aload_n 0, 1) := by decide +kernel
theorem dX9_hauls_144 : decode cX9_hauls 144 = .ok (.iconst 1, 1) := by decide +kernel
theorem dX9_hauls_145 : decode cX9_hauls 145 = .ok (.invokevirtual 285, 3) := by decide +kernel
theorem dX9_hauls_148 : decode cX9_hauls 148 = .ok (.iload_n 2, 1) := by decide +kernel
theorem dX9_hauls_149 : decode cX9_hauls 149 = .ok (.ineg, 1) := by decide +kernel
theorem dX9_hauls_150 : decode cX9_hauls 150 = .ok (.iload_n 2, 1) := by decide +kernel
theorem dX9_hauls_151 : decode cX9_hauls 151 = .ok (.invokestatic 288, 3) := by decide +kernel
theorem dX9_hauls_154 : decode cX9_hauls 154 = .ok (.ireturn, 1) := by decide +kernel
theorem dX9_passes_0 : decode cX9_passes 0 = .ok (.aload_n 0, 1) := by decide +kernel
theorem dX9_passes_1 : decode cX9_passes 1 = .ok (.aload_n 0, 1) := by decide +kernel
theorem dX9_passes_2 : decode cX9_passes 2 = .ok (.getfield 81, 3) := by decide +kernel
theorem dX9_passes_5 : decode cX9_passes 5 = .ok (.bipush 19, 2) := by decide +kernel
theorem dX9_passes_7 : decode cX9_passes 7 = .ok (.iaload, 1) := by decide +kernel
theorem dX9_passes_8 : decode cX9_passes 8 = .ok (.iload_n 1, 1) := by decide +kernel
theorem dX9_passes_9 : decode cX9_passes 9 = .ok (.invokevirtual 325, 3) := by decide +kernel
theorem dX9_passes_12 : decode cX9_passes 12 = .ok (.iconst 0, 1) := by decide +kernel
theorem dX9_passes_13 : decode cX9_passes 13 = .ok (.istore_n 2, 1) := by decide +kernel
theorem dX9_passes_14 : decode cX9_passes 14 = .ok (.iload_n 2, 1) := by decide +kernel
theorem dX9_passes_15 : decode cX9_passes 15 = .ok (.aload_n 0, 1) := by decide +kernel
theorem dX9_passes_16 : decode cX9_passes 16 = .ok (.getfield 13, 3) := by decide +kernel
theorem dX9_passes_19 : decode cX9_passes 19 = .ok (.iconst 4, 1) := by decide +kernel
theorem dX9_passes_20 : decode cX9_passes 20 = .ok (.iaload, 1) := by decide +kernel
theorem dX9_passes_21 : decode cX9_passes 21 = .ok (.if_icmp .ge 58, 3) := by decide +kernel
theorem dX9_passes_24 : decode cX9_passes 24 = .ok (.aload_n 0, 1) := by decide +kernel
theorem dX9_passes_25 : decode cX9_passes 25 = .ok (.getfield 96, 3) := by decide +kernel
theorem dX9_passes_28 : decode cX9_passes 28 = .ok (.iload_n 2, 1) := by decide +kernel
theorem dX9_passes_29 : decode cX9_passes 29 = .ok (.aload_n 0, 1) := by decide +kernel
theorem dX9_passes_30 : decode cX9_passes 30 = .ok (.iload_n 2, 1) := by decide +kernel
theorem dX9_passes_31 : decode cX9_passes 31 = .ok (.invokevirtual 292, 3) := by decide +kernel
theorem dX9_passes_34 : decode cX9_passes 34 = .ok (.ifCond .ne 11, 3) := by decide +kernel
theorem dX9_passes_37 : decode cX9_passes 37 = .ok (.aload_n 0, 1) := by decide +kernel
theorem dX9_passes_38 : decode cX9_passes 38 = .ok (.iload_n 2, 1) := by decide +kernel
theorem dX9_passes_39 : decode cX9_passes 39 = .ok (.invokevirtual 337, 3) := by decide +kernel
theorem dX9_passes_42 : decode cX9_passes 42 = .ok (.ifCond .eq 12, 3) := by decide +kernel
theorem dX9_passes_45 : decode cX9_passes 45 = .ok (.aload_n 0, 1) := by decide +kernel
theorem dX9_passes_46 : decode cX9_passes 46 = .ok (.getfield 81, 3) := by decide +kernel
theorem dX9_passes_49 : decode cX9_passes 49 = .ok (.iload_n 2, 1) := by decide +kernel
theorem dX9_passes_50 : decode cX9_passes 50 = .ok (.iaload, 1) := by decide +kernel
theorem dX9_passes_51 : decode cX9_passes 51 = .ok (.goto 21, 3) := by decide +kernel
theorem dX9_passes_54 : decode cX9_passes 54 = .ok (.aload_n 0, 1) := by decide +kernel
theorem dX9_passes_55 : decode cX9_passes 55 = .ok (.getfield 81, 3) := by decide +kernel
theorem dX9_passes_58 : decode cX9_passes 58 = .ok (.iload_n 2, 1) := by decide +kernel
theorem dX9_passes_59 : decode cX9_passes 59 = .ok (.iaload, 1) := by decide +kernel
theorem dX9_passes_60 : decode cX9_passes 60 = .ok (.aload_n 0, 1) := by decide +kernel
theorem dX9_passes_61 : decode cX9_passes 61 = .ok (.iload_n 2, 1) := by decide +kernel
theorem dX9_passes_62 : decode cX9_passes 62 = .ok (.invokevirtual 340, 3) := by decide +kernel
theorem dX9_passes_65 : decode cX9_passes 65 = .ok (.iadd, 1) := by decide +kernel
theorem dX9_passes_66 : decode cX9_passes 66 = .ok (.iconst 0, 1) := by decide +kernel
theorem dX9_passes_67 : decode cX9_passes 67 = .ok (.bipush 40, 2) := by decide +kernel
theorem dX9_passes_69 : decode cX9_passes 69 = .ok (.invokestatic 288, 3) := by decide +kernel
theorem dX9_passes_72 : decode cX9_passes 72 = .ok (.iastore, 1) := by decide +kernel
theorem dX9_passes_73 : decode cX9_passes 73 = .ok (.iinc 2 1, 3) := by decide +kernel
theorem dX9_passes_76 : decode cX9_passes 76 = .ok (.goto (-62), 3) := by decide +kernel
theorem dX9_passes_79 : decode cX9_passes 79 = .ok (.aload_n 0, 1) := by decide +kernel
theorem dX9_passes_80 : decode cX9_passes 80 = .ok (.invokevirtual 343, 3) := by decide +kernel
theorem dX9_passes_83 : decode cX9_passes 83 = .ok (.return_, 1) := by decide +kernel
theorem dX9_changes_0 : decode cX9_changes 0 = .ok (.iconst 0, 1) := by decide +kernel
theorem dX9_changes_1 : decode cX9_changes 1 = .ok (.istore_n 1, 1) := by decide +kernel
theorem dX9_changes_2 : decode cX9_changes 2 = .ok (.iload_n 1, 1) := by decide +kernel
theorem dX9_changes_3 : decode cX9_changes 3 = .ok (.aload_n 0, 1) := by decide +kernel
theorem dX9_changes_4 : decode cX9_changes 4 = .ok (.getfield 13, 3) := by decide +kernel
theorem dX9_changes_7 : decode cX9_changes 7 = .ok (.iconst 4, 1) := by decide +kernel
theorem dX9_changes_8 : decode cX9_changes 8 = .ok (.iaload, 1) := by decide +kernel
theorem dX9_changes_9 : decode cX9_changes 9 = .ok (.if_icmp .ge 101, 3) := by decide +kernel
theorem dX9_changes_12 : decode cX9_changes 12 = .ok (.aload_n 0, 1) := by decide +kernel
theorem dX9_changes_13 : decode cX9_changes 13 = .ok (.iload_n 1, 1) := by decide +kernel
theorem dX9_changes_14 : decode cX9_changes 14 = .ok (.invokevirtual 292, 3) := by decide +kernel
theorem dX9_changes_17 : decode cX9_changes 17 = .ok (.ifCond .eq 6, 3) := by decide +kernel
theorem dX9_changes_20 : decode cX9_changes 20 = .ok (.goto 84, 3) := by decide +kernel
theorem dX9_changes_23 : decode cX9_changes 23 = .ok (.aload_n 0, 1) := by decide +kernel
theorem dX9_changes_24 : decode cX9_changes 24 = .ok (.getfield 81, 3) := by decide +kernel
theorem dX9_changes_27 : decode cX9_changes 27 = .ok (.bipush 12, 2) := by decide +kernel
theorem dX9_changes_29 : decode cX9_changes 29 = .ok (.iload_n 1, 1) := by decide +kernel
theorem dX9_changes_30 : decode cX9_changes 30 = .ok (.iadd, 1) := by decide +kernel
theorem dX9_changes_31 : decode cX9_changes 31 = .ok (.aload_n 0, 1) := by decide +kernel
theorem dX9_changes_32 : decode cX9_changes 32 = .ok (.getfield 96, 3) := by decide +kernel
theorem dX9_changes_35 : decode cX9_changes 35 = .ok (.iload_n 1, 1) := by decide +kernel
theorem dX9_changes_36 : decode cX9_changes 36 = .ok (.iaload, 1) := by decide +kernel
theorem dX9_changes_37 : decode cX9_changes 37 = .ok (.aload_n 0, 1) := by decide +kernel
theorem dX9_changes_38 : decode cX9_changes 38 = .ok (.getfield 81, 3) := by decide +kernel
theorem dX9_changes_41 : decode cX9_changes 41 = .ok (.iload_n 1, 1) := by decide +kernel
theorem dX9_changes_42 : decode cX9_changes 42 = .ok (.iaload, 1) := by decide +kernel
theorem dX9_changes_43 : decode cX9_changes 43 = .ok (.if_icmp .ne 7, 3) := by decide +kernel
theorem dX9_changes_46 : decode cX9_changes 46 = .ok (.iconst 0, 1) := by decide +kernel
theorem dX9_changes_47 : decode cX9_changes 47 = .ok (.goto 14, 3) := by decide +kernel
theorem dX9_changes_50 : decode cX9_changes 50 = .ok (.aload_n 0, 1) := by decide +kernel
theorem dX9_changes_51 : decode cX9_changes 51 = .ok (.getfield 81, 3) := by decide +kernel
theorem dX9_changes_54 : decode cX9_changes 54 = .ok (.bipush 12, 2) := by decide +kernel
theorem dX9_changes_56 : decode cX9_changes 56 = .ok (.iload_n 1, 1) := by decide +kernel
theorem dX9_changes_57 : decode cX9_changes 57 = .ok (.iadd, 1) := by decide +kernel
theorem dX9_changes_58 : decode cX9_changes 58 = .ok (.iaload, 1) := by decide +kernel
theorem dX9_changes_59 : decode cX9_changes 59 = .ok (.iconst 1, 1) := by decide +kernel
theorem dX9_changes_60 : decode cX9_changes 60 = .ok (.iadd, 1) := by decide +kernel
theorem dX9_changes_61 : decode cX9_changes 61 = .ok (.iastore, 1) := by decide +kernel
theorem dX9_changes_62 : decode cX9_changes 62 = .ok (.aload_n 0, 1) := by decide +kernel
theorem dX9_changes_63 : decode cX9_changes 63 = .ok (.getfield 81, 3) := by decide +kernel
theorem dX9_changes_66 : decode cX9_changes 66 = .ok (.iload_n 1, 1) := by decide +kernel
theorem dX9_changes_67 : decode cX9_changes 67 = .ok (.aload_n 0, 1) := by decide +kernel
theorem dX9_changes_68 : decode cX9_changes 68 = .ok (.getfield 96, 3) := by decide +kernel
theorem dX9_changes_71 : decode cX9_changes 71 = .ok (.iload_n 1, 1) := by decide +kernel
theorem dX9_changes_72 : decode cX9_changes 72 = .ok (.iaload, 1) := by decide +kernel
theorem dX9_changes_73 : decode cX9_changes 73 = .ok (.iastore, 1) := by decide +kernel
theorem dX9_changes_74 : decode cX9_changes 74 = .ok (.aload_n 0, 1) := by decide +kernel
theorem dX9_changes_75 : decode cX9_changes 75 = .ok (.getfield 81, 3) := by decide +kernel
theorem dX9_changes_78 : decode cX9_changes 78 = .ok (.bipush 6, 2) := by decide +kernel
theorem dX9_changes_80 : decode cX9_changes 80 = .ok (.iload_n 1, 1) := by decide +kernel
theorem dX9_changes_81 : decode cX9_changes 81 = .ok (.iadd, 1) := by decide +kernel
theorem dX9_changes_82 : decode cX9_changes 82 = .ok (.iaload, 1) := by decide +kernel
theorem dX9_changes_83 : decode cX9_changes 83 = .ok (.iconst 1, 1) := by decide +kernel
theorem dX9_changes_84 : decode cX9_changes 84 = .ok (.isub, 1) := by decide +kernel
theorem dX9_changes_85 : decode cX9_changes 85 = .ok (.aload_n 0, 1) := by decide +kernel
theorem dX9_changes_86 : decode cX9_changes 86 = .ok (.getfield 81, 3) := by decide +kernel
theorem dX9_changes_89 : decode cX9_changes 89 = .ok (.iload_n 1, 1) := by decide +kernel
theorem dX9_changes_90 : decode cX9_changes 90 = .ok (.iaload, 1) := by decide +kernel
theorem dX9_changes_91 : decode cX9_changes 91 = .ok (.if_icmp .ne 13, 3) := by decide +kernel
theorem dX9_changes_94 : decode cX9_changes 94 = .ok (.aload_n 0, 1) := by decide +kernel
theorem dX9_changes_95 : decode cX9_changes 95 = .ok (.getfield 81, 3) := by decide +kernel
theorem dX9_changes_98 : decode cX9_changes 98 = .ok (.bipush 6, 2) := by decide +kernel
theorem dX9_changes_100 : decode cX9_changes 100 = .ok (.iload_n 1, 1) := by decide +kernel
theorem dX9_changes_101 : decode cX9_changes 101 = .ok (.iadd, 1) := by decide +kernel
theorem dX9_changes_102 : decode cX9_changes 102 = .ok (.iconst 0, 1) := by decide +kernel
theorem dX9_changes_103 : decode cX9_changes 103 = .ok (.iastore, 1) := by decide +kernel
theorem dX9_changes_104 : decode cX9_changes 104 = .ok (.iinc 1 1, 3) := by decide +kernel
theorem dX9_changes_107 : decode cX9_changes 107 = .ok (.goto (-105), 3) := by decide +kernel
theorem dX9_changes_110 : decode cX9_changes 110 = .ok (.aload_n 0, 1) := by decide +kernel
theorem dX9_changes_111 : decode cX9_changes 111 = .ok (.getfield 81, 3) := by decide +kernel
theorem dX9_changes_114 : decode cX9_changes 114 = .ok (.bipush 19, 2) := by decide +kernel
theorem dX9_changes_116 : decode cX9_changes 116 = .ok (.dup2, 1) := by decide +kernel
theorem dX9_changes_117 : decode cX9_changes 117 = .ok (.iaload, 1) := by decide +kernel
theorem dX9_changes_118 : decode cX9_changes 118 = .ok (.iconst 1, 1) := by decide +kernel
theorem dX9_changes_119 : decode cX9_changes 119 = .ok (.iadd, 1) := by decide +kernel
theorem dX9_changes_120 : decode cX9_changes 120 = .ok (.iastore, 1) := by decide +kernel
theorem dX9_changes_121 : decode cX9_changes 121 = .ok (.return_, 1) := by decide +kernel
theorem dX9_run_0 : decode cX9_run 0 = .ok (.aload_n 0, 1) := by decide +kernel
theorem dX9_run_1 : decode cX9_run 1 = .ok (.iconst 0, 1) := by decide +kernel
theorem dX9_run_2 : decode cX9_run 2 = .ok (.putfield 109, 3) := by decide +kernel
theorem dX9_run_5 : decode cX9_run 5 = .ok (.iload_n 1, 1) := by decide +kernel
theorem dX9_run_6 : decode cX9_run 6 = .ok (.iconst 1, 1) := by decide +kernel
theorem dX9_run_7 : decode cX9_run 7 = .ok (.sipush 1000, 3) := by decide +kernel
theorem dX9_run_10 : decode cX9_run 10 = .ok (.invokestatic 235, 3) := by decide +kernel
theorem dX9_run_13 : decode cX9_run 13 = .ok (.ifCond .ne 5, 3) := by decide +kernel
theorem dX9_run_16 : decode cX9_run 16 = .ok (.iconst (-1), 1) := by decide +kernel
theorem dX9_run_17 : decode cX9_run 17 = .ok (.ireturn, 1) := by decide +kernel
theorem dX9_run_18 : decode cX9_run 18 = .ok (.iconst 0, 1) := by decide +kernel
theorem dX9_run_19 : decode cX9_run 19 = .ok (.istore_n 2, 1) := by decide +kernel
theorem dX9_run_20 : decode cX9_run 20 = .ok (.iload_n 2, 1) := by decide +kernel
theorem dX9_run_21 : decode cX9_run 21 = .ok (.iload_n 1, 1) := by decide +kernel
theorem dX9_run_22 : decode cX9_run 22 = .ok (.if_icmp .ge 14, 3) := by decide +kernel
theorem dX9_run_25 : decode cX9_run 25 = .ok (.aload_n 0, 1) := by decide +kernel
theorem dX9_run_26 : decode cX9_run 26 = .ok (.iconst 0, 1) := by decide +kernel
theorem dX9_run_27 : decode cX9_run 27 = .ok (.invokevirtual 346, 3) := by decide +kernel
theorem dX9_run_30 : decode cX9_run 30 = .ok (.iinc 2 1, 3) := by decide +kernel
theorem dX9_run_33 : decode cX9_run 33 = .ok (.goto (-13), 3) := by decide +kernel
theorem dX9_run_36 : decode cX9_run 36 = .ok (.aload_n 0, 1) := by decide +kernel
theorem dX9_run_37 : decode cX9_run 37 = .ok (.getfield 81, 3) := by decide +kernel
theorem dX9_run_40 : decode cX9_run 40 = .ok (.bipush 19, 2) := by decide +kernel
theorem dX9_run_42 : decode cX9_run 42 = .ok (.iaload, 1) := by decide +kernel
theorem dX9_run_43 : decode cX9_run 43 = .ok (.ireturn, 1) := by decide +kernel
theorem dX9_awayNow_0 : decode cX9_awayNow 0 = .ok (.aload_n 0, 1) := by decide +kernel
theorem dX9_awayNow_1 : decode cX9_awayNow 1 = .ok (.invokevirtual 322, 3) := by decide +kernel
theorem dX9_awayNow_4 : decode cX9_awayNow 4 = .ok (.aload_n 0, 1) := by decide +kernel
theorem dX9_awayNow_5 : decode cX9_awayNow 5 = .ok (.getfield 316, 3) := by decide +kernel
theorem dX9_awayNow_8 : decode cX9_awayNow 8 = .ok (.aload_n 0, 1) := by decide +kernel
theorem dX9_awayNow_9 : decode cX9_awayNow 9 = .ok (.getfield 349, 3) := by decide +kernel
theorem dX9_awayNow_12 : decode cX9_awayNow 12 = .ok (.invokestatic 352, 3) := by decide +kernel
theorem dX9_awayNow_15 : decode cX9_awayNow 15 = .ok (.aload_n 0, 1) := by decide +kernel
theorem dX9_awayNow_16 : decode cX9_awayNow 16 = .ok (.getfield 313, 3) := by decide +kernel
theorem dX9_awayNow_19 : decode cX9_awayNow 19 = .ok (.aload_n 0, 1) := by decide +kernel
theorem dX9_awayNow_20 : decode cX9_awayNow 20 = .ok (.getfield 355, 3) := by decide +kernel
theorem dX9_awayNow_23 : decode cX9_awayNow 23 = .ok (.invokestatic 352, 3) := by decide +kernel
theorem dX9_awayNow_26 : decode cX9_awayNow 26 = .ok (.iadd, 1) := by decide +kernel
theorem dX9_awayNow_27 : decode cX9_awayNow 27 = .ok (.ireturn, 1) := by decide +kernel
theorem dX9_isWanted_0 : decode cX9_isWanted 0 = .ok (.iload_n 0, 1) := by decide +kernel
theorem dX9_isWanted_1 : decode cX9_isWanted 1 = .ok (.iconst 0, 1) := by decide +kernel
theorem dX9_isWanted_2 : decode cX9_isWanted 2 = .ok (.sipush 999, 3) := by decide +kernel
theorem dX9_isWanted_5 : decode cX9_isWanted 5 = .ok (.invokestatic 235, 3) := by decide +kernel
theorem dX9_isWanted_8 : decode cX9_isWanted 8 = .ok (.ifCond .eq 14, 3) := by decide +kernel
theorem dX9_isWanted_11 : decode cX9_isWanted 11 = .ok (.iload_n 1, 1) := by decide +kernel
theorem dX9_isWanted_12 : decode cX9_isWanted 12 = .ok (.invokestatic 334, 3) := by decide +kernel
theorem dX9_isWanted_15 : decode cX9_isWanted 15 = .ok (.ifCond .eq 7, 3) := by decide +kernel
theorem dX9_isWanted_18 : decode cX9_isWanted 18 = .ok (.iconst 1, 1) := by decide +kernel
theorem dX9_isWanted_19 : decode cX9_isWanted 19 = .ok (.goto 4, 3) := by decide +kernel
theorem dX9_isWanted_22 : decode cX9_isWanted 22 = .ok (.iconst 0, 1) := by decide +kernel
theorem dX9_isWanted_23 : decode cX9_isWanted 23 = .ok (.ireturn, 1) := by decide +kernel
theorem dX9_tries_0 : decode cX9_tries 0 = .ok (.iload_n 1, 1) := by decide +kernel
theorem dX9_tries_1 : decode cX9_tries 1 = .ok (.aload_n 0, 1) := by decide +kernel
theorem dX9_tries_2 : decode cX9_tries 2 = .ok (.getfield 13, 3) := by decide +kernel
theorem dX9_tries_5 : decode cX9_tries 5 = .ok (.iconst 4, 1) := by decide +kernel
theorem dX9_tries_6 : decode cX9_tries 6 = .ok (.iaload, 1) := by decide +kernel
theorem dX9_tries_7 : decode cX9_tries 7 = .ok (.if_icmp .ne 85, 3) := by decide +kernel
theorem dX9_tries_10 : decode cX9_tries 10 = .ok (.aload_n 0, 1) := by decide +kernel
theorem dX9_tries_11 : decode cX9_tries 11 = .ok (.invokevirtual 358, 3) := by decide +kernel
theorem dX9_tries_14 : decode cX9_tries 14 = .ok (.istore 4, 2) := by decide +kernel
theorem dX9_tries_16 : decode cX9_tries 16 = .ok (.aload_n 0, 1) := by decide +kernel
theorem dX9_tries_17 : decode cX9_tries 17 = .ok (.getfield 361, 3) := by decide +kernel
theorem dX9_tries_20 : decode cX9_tries 20 = .ok (.ifCond .lt 30, 3) := by decide +kernel
theorem dX9_tries_23 : decode cX9_tries 23 = .ok (.iload 4, 2) := by decide +kernel
theorem dX9_tries_25 : decode cX9_tries 25 = .ok (.aload_n 0, 1) := by decide +kernel
theorem dX9_tries_26 : decode cX9_tries 26 = .ok (.getfield 361, 3) := by decide +kernel
theorem dX9_tries_29 : decode cX9_tries 29 = .ok (.if_icmp .gt 20, 3) := by decide +kernel
theorem dX9_tries_32 : decode cX9_tries 32 = .ok (.iload 4, 2) := by decide +kernel
theorem dX9_tries_34 : decode cX9_tries 34 = .ok (.aload_n 0, 1) := by decide +kernel
theorem dX9_tries_35 : decode cX9_tries 35 = .ok (.getfield 361, 3) := by decide +kernel
theorem dX9_tries_38 : decode cX9_tries 38 = .ok (.if_icmp .ne 12, 3) := by decide +kernel
theorem dX9_tries_41 : decode cX9_tries 41 = .ok (.iload_n 3, 1) := by decide +kernel
theorem dX9_tries_42 : decode cX9_tries 42 = .ok (.aload_n 0, 1) := by decide +kernel
theorem dX9_tries_43 : decode cX9_tries 43 = .ok (.getfield 364, 3) := by decide +kernel
theorem dX9_tries_46 : decode cX9_tries 46 = .ok (.if_icmp .lt 4, 3) := by decide +kernel
theorem dX9_tries_49 : decode cX9_tries 49 = .ok (.return_, 1) := by decide +kernel
theorem dX9_tries_50 : decode cX9_tries 50 = .ok (.aload_n 0, 1) := by decide +kernel
theorem dX9_tries_51 : decode cX9_tries 51 = .ok (.iload 4, 2) := by decide +kernel
theorem dX9_tries_53 : decode cX9_tries 53 = .ok (.putfield 361, 3) := by decide +kernel
theorem dX9_tries_56 : decode cX9_tries 56 = .ok (.aload_n 0, 1) := by decide +kernel
theorem dX9_tries_57 : decode cX9_tries 57 = .ok (.iload_n 3, 1) := by decide +kernel
theorem dX9_tries_58 : decode cX9_tries 58 = .ok (.putfield 364, 3) := by decide +kernel
theorem dX9_tries_61 : decode cX9_tries 61 = .ok (.iconst 0, 1) := by decide +kernel
theorem dX9_tries_62 : decode cX9_tries 62 = .ok (.istore 5, 2) := by decide +kernel
theorem dX9_tries_64 : decode cX9_tries 64 = .ok (.iload 5, 2) := by decide +kernel
theorem dX9_tries_66 : decode cX9_tries 66 = .ok (.bipush 6, 2) := by decide +kernel
theorem dX9_tries_68 : decode cX9_tries 68 = .ok (.if_icmp .ge 23, 3) := by decide +kernel
theorem dX9_tries_71 : decode cX9_tries 71 = .ok (.aload_n 0, 1) := by decide +kernel
theorem dX9_tries_72 : decode cX9_tries 72 = .ok (.getfield 99, 3) := by decide +kernel
theorem dX9_tries_75 : decode cX9_tries 75 = .ok (.iload 5, 2) := by decide +kernel
theorem dX9_tries_77 : decode cX9_tries 77 = .ok (.aload_n 0, 1) := by decide +kernel
theorem dX9_tries_78 : decode cX9_tries 78 = .ok (.getfield 81, 3) := by decide +kernel
theorem dX9_tries_81 : decode cX9_tries 81 = .ok (.iload 5, 2) := by decide +kernel
theorem dX9_tries_83 : decode cX9_tries 83 = .ok (.iaload, 1) := by decide +kernel
theorem dX9_tries_84 : decode cX9_tries 84 = .ok (.iastore, 1) := by decide +kernel
theorem dX9_tries_85 : decode cX9_tries 85 = .ok (.iinc 5 1, 3) := by decide +kernel
theorem dX9_tries_88 : decode cX9_tries 88 = .ok (.goto (-24), 3) := by decide +kernel
theorem dX9_tries_91 : decode cX9_tries 91 = .ok (.return_, 1) := by decide +kernel
theorem dX9_tries_92 : decode cX9_tries 92 = .ok (.aload_n 0, 1) := by decide +kernel
theorem dX9_tries_93 : decode cX9_tries 93 = .ok (.getfield 81, 3) := by decide +kernel
theorem dX9_tries_96 : decode cX9_tries 96 = .ok (.iload_n 1, 1) := by decide +kernel
theorem dX9_tries_97 : decode cX9_tries 97 = .ok (.iaload, 1) := by decide +kernel
theorem dX9_tries_98 : decode cX9_tries 98 = .ok (.istore 4, 2) := by decide +kernel
theorem dX9_tries_100 : decode cX9_tries 100 = .ok (.iload 4, 2) := by decide +kernel
theorem dX9_tries_102 : decode cX9_tries 102 = .ok (.iload_n 2, 1) := by decide +kernel
theorem dX9_tries_103 : decode cX9_tries 103 = .ok (.isub, 1) := by decide +kernel
theorem dX9_tries_104 : decode cX9_tries 104 = .ok (.istore 5, 2) := by decide +kernel
theorem dX9_tries_106 : decode cX9_tries 106 = .ok (.iload 5, 2) := by decide +kernel
theorem dX9_tries_108 : decode cX9_tries 108 = .ok (.iload 4, 2) := by decide +kernel
theorem dX9_tries_110 : decode cX9_tries 110 = .ok (.iload_n 2, 1) := by decide +kernel
theorem dX9_tries_111 : decode cX9_tries 111 = .ok (.iadd, 1) := by decide +kernel
theorem dX9_tries_112 : decode cX9_tries 112 = .ok (.if_icmp .gt 65, 3) := by decide +kernel
theorem dX9_tries_115 : decode cX9_tries 115 = .ok (.iload 5, 2) := by decide +kernel
theorem dX9_tries_117 : decode cX9_tries 117 = .ok (.invokestatic 334, 3) := by decide +kernel
theorem dX9_tries_120 : decode cX9_tries 120 = .ok (.ifCond .eq 51, 3) := by decide +kernel
theorem dX9_tries_123 : decode cX9_tries 123 = .ok (.aload_n 0, 1) := by decide +kernel
theorem dX9_tries_124 : decode cX9_tries 124 = .ok (.iload_n 1, 1) := by decide +kernel
theorem dX9_tries_125 : decode cX9_tries 125 = .ok (.invokevirtual 292, 3) := by decide +kernel
theorem dX9_tries_128 : decode cX9_tries 128 = .ok (.ifCond .eq 13, 3) := by decide +kernel
theorem dX9_tries_131 : decode cX9_tries 131 = .ok (.iload 5, 2) := by decide +kernel
theorem dX9_tries_133 : decode cX9_tries 133 = .ok (.iload 4, 2) := by decide +kernel
theorem dX9_tries_135 : decode cX9_tries 135 = .ok (.if_icmp .eq 6, 3) := by decide +kernel
theorem dX9_tries_138 : decode cX9_tries 138 = .ok (.goto 33, 3) := by decide +kernel
theorem dX9_tries_141 : decode cX9_tries 141 = .ok (.aload_n 0, 1) := by decide +kernel
theorem dX9_tries_142 : decode cX9_tries 142 = .ok (.getfield 81, 3) := by decide +kernel
theorem dX9_tries_145 : decode cX9_tries 145 = .ok (.iload_n 1, 1) := by decide +kernel
theorem dX9_tries_146 : decode cX9_tries 146 = .ok (.iload 5, 2) := by decide +kernel
theorem dX9_tries_148 : decode cX9_tries 148 = .ok (.iastore, 1) := by decide +kernel
theorem dX9_tries_149 : decode cX9_tries 149 = .ok (.aload_n 0, 1) := by decide +kernel
theorem dX9_tries_150 : decode cX9_tries 150 = .ok (.iload_n 1, 1) := by decide +kernel
theorem dX9_tries_151 : decode cX9_tries 151 = .ok (.iconst 1, 1) := by decide +kernel
theorem dX9_tries_152 : decode cX9_tries 152 = .ok (.iadd, 1) := by decide +kernel
theorem dX9_tries_153 : decode cX9_tries 153 = .ok (.iload_n 2, 1) := by decide +kernel
theorem dX9_tries_154 : decode cX9_tries 154 = .ok (.iload_n 3, 1) := by decide +kernel
theorem dX9_tries_155 : decode cX9_tries 155 = .ok (.iload 5, 2) := by decide +kernel
theorem dX9_tries_157 : decode cX9_tries 157 = .ok (.iload 4, 2) := by decide +kernel
theorem dX9_tries_159 : decode cX9_tries 159 = .ok (.if_icmp .ne 7, 3) := by decide +kernel
theorem dX9_tries_162 : decode cX9_tries 162 = .ok (.iconst 0, 1) := by decide +kernel
theorem dX9_tries_163 : decode cX9_tries 163 = .ok (.goto 4, 3) := by decide +kernel
theorem dX9_tries_166 : decode cX9_tries 166 = .ok (.iconst 1, 1) := by decide +kernel
theorem dX9_tries_167 : decode cX9_tries 167 = .ok (.iadd, 1) := by decide +kernel
theorem dX9_tries_168 : decode cX9_tries 168 = .ok (.invokevirtual 367, 3) := by decide +kernel
theorem dX9_tries_171 : decode cX9_tries 171 = .ok (.iinc 5 1, 3) := by decide +kernel
theorem dX9_tries_174 : decode cX9_tries 174 = .ok (.goto (-68), 3) := by decide +kernel
theorem dX9_tries_177 : decode cX9_tries 177 = .ok (.aload_n 0, 1) := by decide +kernel
theorem dX9_tries_178 : decode cX9_tries 178 = .ok (.getfield 81, 3) := by decide +kernel
theorem dX9_tries_181 : decode cX9_tries 181 = .ok (.iload_n 1, 1) := by decide +kernel
theorem dX9_tries_182 : decode cX9_tries 182 = .ok (.iload 4, 2) := by decide +kernel
theorem dX9_tries_184 : decode cX9_tries 184 = .ok (.iastore, 1) := by decide +kernel
theorem dX9_tries_185 : decode cX9_tries 185 = .ok (.return_, 1) := by decide +kernel
theorem dX9_nearest_0 : decode cX9_nearest 0 = .ok (.aload_n 0, 1) := by decide +kernel
theorem dX9_nearest_1 : decode cX9_nearest 1 = .ok (.iconst 0, 1) := by decide +kernel
theorem dX9_nearest_2 : decode cX9_nearest 2 = .ok (.putfield 109, 3) := by decide +kernel
theorem dX9_nearest_5 : decode cX9_nearest 5 = .ok (.iload_n 1, 1) := by decide +kernel
theorem dX9_nearest_6 : decode cX9_nearest 6 = .ok (.iload_n 2, 1) := by decide +kernel
theorem dX9_nearest_7 : decode cX9_nearest 7 = .ok (.invokestatic 371, 3) := by decide +kernel
theorem dX9_nearest_10 : decode cX9_nearest 10 = .ok (.ifCond .eq 19, 3) := by decide +kernel
theorem dX9_nearest_13 : decode cX9_nearest 13 = .ok (.iload_n 3, 1) := by decide +kernel
theorem dX9_nearest_14 : decode cX9_nearest 14 = .ok (.iconst 0, 1) := by decide +kernel
theorem dX9_nearest_15 : decode cX9_nearest 15 = .ok (.iconst 1, 1) := by decide +kernel
theorem dX9_nearest_16 : decode cX9_nearest 16 = .ok (.aload_n 0, 1) := by decide +kernel
theorem dX9_nearest_17 : decode cX9_nearest 17 = .ok (.getfield 13, 3) := by decide +kernel
theorem dX9_nearest_20 : decode cX9_nearest 20 = .ok (.iconst 4, 1) := by decide +kernel
theorem dX9_nearest_21 : decode cX9_nearest 21 = .ok (.iaload, 1) := by decide +kernel
theorem dX9_nearest_22 : decode cX9_nearest 22 = .ok (.iadd, 1) := by decide +kernel
theorem dX9_nearest_23 : decode cX9_nearest 23 = .ok (.invokestatic 235, 3) := by decide +kernel
theorem dX9_nearest_26 : decode cX9_nearest 26 = .ok (.ifCond .ne 5, 3) := by decide +kernel
theorem dX9_nearest_29 : decode cX9_nearest 29 = .ok (.iconst (-1), 1) := by decide +kernel
theorem dX9_nearest_30 : decode cX9_nearest 30 = .ok (.ireturn, 1) := by decide +kernel
theorem dX9_nearest_31 : decode cX9_nearest 31 = .ok (.aload_n 0, 1) := by decide +kernel
theorem dX9_nearest_32 : decode cX9_nearest 32 = .ok (.iload_n 1, 1) := by decide +kernel
theorem dX9_nearest_33 : decode cX9_nearest 33 = .ok (.putfield 349, 3) := by decide +kernel
theorem dX9_nearest_36 : decode cX9_nearest 36 = .ok (.aload_n 0, 1) := by decide +kernel
theorem dX9_nearest_37 : decode cX9_nearest 37 = .ok (.iload_n 2, 1) := by decide +kernel
theorem dX9_nearest_38 : decode cX9_nearest 38 = .ok (.putfield 355, 3) := by decide +kernel
theorem dX9_nearest_41 : decode cX9_nearest 41 = .ok (.aload_n 0, 1) := by decide +kernel
theorem dX9_nearest_42 : decode cX9_nearest 42 = .ok (.iconst (-1), 1) := by decide +kernel
theorem dX9_nearest_43 : decode cX9_nearest 43 = .ok (.putfield 361, 3) := by decide +kernel
theorem dX9_nearest_46 : decode cX9_nearest 46 = .ok (.aload_n 0, 1) := by decide +kernel
theorem dX9_nearest_47 : decode cX9_nearest 47 = .ok (.aload_n 0, 1) := by decide +kernel
theorem dX9_nearest_48 : decode cX9_nearest 48 = .ok (.getfield 81, 3) := by decide +kernel
theorem dX9_nearest_51 : decode cX9_nearest 51 = .ok (.bipush 19, 2) := by decide +kernel
theorem dX9_nearest_53 : decode cX9_nearest 53 = .ok (.iaload, 1) := by decide +kernel
theorem dX9_nearest_54 : decode cX9_nearest 54 = .ok (.iconst 0, 1) := by decide +kernel
theorem dX9_nearest_55 : decode cX9_nearest 55 = .ok (.invokevirtual 319, 3) := by decide +kernel
theorem dX9_nearest_58 : decode cX9_nearest 58 = .ok (.aload_n 0, 1) := by decide +kernel
theorem dX9_nearest_59 : decode cX9_nearest 59 = .ok (.iconst 0, 1) := by decide +kernel
theorem dX9_nearest_60 : decode cX9_nearest 60 = .ok (.iconst 2, 1) := by decide +kernel
theorem dX9_nearest_61 : decode cX9_nearest 61 = .ok (.iconst 0, 1) := by decide +kernel
theorem dX9_nearest_62 : decode cX9_nearest 62 = .ok (.invokevirtual 367, 3) := by decide +kernel
theorem dX9_nearest_65 : decode cX9_nearest 65 = .ok (.iload_n 3, 1) := by decide +kernel
theorem dX9_nearest_66 : decode cX9_nearest 66 = .ok (.ifCond .ne 10, 3) := by decide +kernel
theorem dX9_nearest_69 : decode cX9_nearest 69 = .ok (.aload_n 0, 1) := by decide +kernel
theorem dX9_nearest_70 : decode cX9_nearest 70 = .ok (.getfield 361, 3) := by decide +kernel
theorem dX9_nearest_73 : decode cX9_nearest 73 = .ok (.goto 23, 3) := by decide +kernel
theorem dX9_nearest_76 : decode cX9_nearest 76 = .ok (.iload_n 3, 1) := by decide +kernel
theorem dX9_nearest_77 : decode cX9_nearest 77 = .ok (.iconst 1, 1) := by decide +kernel
theorem dX9_nearest_78 : decode cX9_nearest 78 = .ok (.if_icmp .ne 10, 3) := by decide +kernel
theorem dX9_nearest_81 : decode cX9_nearest 81 = .ok (.aload_n 0, 1) := by decide +kernel
theorem dX9_nearest_82 : decode cX9_nearest 82 = .ok (.getfield 364, 3) := by decide +kernel
theorem dX9_nearest_85 : decode cX9_nearest 85 = .ok (.goto 11, 3) := by decide +kernel
theorem dX9_nearest_88 : decode cX9_nearest 88 = .ok (.aload_n 0, 1) := by decide +kernel
theorem dX9_nearest_89 : decode cX9_nearest 89 = .ok (.getfield 99, 3) := by decide +kernel
theorem dX9_nearest_92 : decode cX9_nearest 92 = .ok (.iload_n 3, 1) := by decide +kernel
theorem dX9_nearest_93 : decode cX9_nearest 93 = .ok (.iconst 2, 1) := by decide +kernel
theorem dX9_nearest_94 : decode cX9_nearest 94 = .ok (.isub, 1) := by decide +kernel
theorem dX9_nearest_95 : decode cX9_nearest 95 = .ok (.iaload, 1) := by decide +kernel
theorem dX9_nearest_96 : decode cX9_nearest 96 = .ok (.ireturn, 1) := by decide +kernel
theorem dX9_does_0 : decode cX9_does 0 = .ok (.iload_n 1, 1) := by decide +kernel
theorem dX9_does_1 : decode cX9_does 1 = .ok (.aload_n 0, 1) := by decide +kernel
theorem dX9_does_2 : decode cX9_does 2 = .ok (.getfield 13, 3) := by decide +kernel
theorem dX9_does_5 : decode cX9_does 5 = .ok (.iconst 4, 1) := by decide +kernel
theorem dX9_does_6 : decode cX9_does 6 = .ok (.iaload, 1) := by decide +kernel
theorem dX9_does_7 : decode cX9_does 7 = .ok (.if_icmp .ne 18, 3) := by decide +kernel
theorem dX9_does_10 : decode cX9_does 10 = .ok (.aload_n 0, 1) := by decide +kernel
theorem dX9_does_11 : decode cX9_does 11 = .ok (.invokevirtual 358, 3) := by decide +kernel
theorem dX9_does_14 : decode cX9_does 14 = .ok (.iload 4, 2) := by decide +kernel
theorem dX9_does_16 : decode cX9_does 16 = .ok (.if_icmp .gt 7, 3) := by decide +kernel
theorem dX9_does_19 : decode cX9_does 19 = .ok (.iconst 1, 1) := by decide +kernel
theorem dX9_does_20 : decode cX9_does 20 = .ok (.goto 4, 3) := by decide +kernel
theorem dX9_does_23 : decode cX9_does 23 = .ok (.iconst 0, 1) := by decide +kernel
theorem dX9_does_24 : decode cX9_does 24 = .ok (.ireturn, 1) := by decide +kernel
theorem dX9_does_25 : decode cX9_does 25 = .ok (.aload_n 0, 1) := by decide +kernel
theorem dX9_does_26 : decode cX9_does 26 = .ok (.iload_n 1, 1) := by decide +kernel
theorem dX9_does_27 : decode cX9_does 27 = .ok (.iconst 1, 1) := by decide +kernel
theorem dX9_does_28 : decode cX9_does 28 = .ok (.iadd, 1) := by decide +kernel
theorem dX9_does_29 : decode cX9_does 29 = .ok (.iload_n 2, 1) := by decide +kernel
theorem dX9_does_30 : decode cX9_does 30 = .ok (.iload_n 3, 1) := by decide +kernel
theorem dX9_does_31 : decode cX9_does 31 = .ok (.iload 4, 2) := by decide +kernel
theorem dX9_does_33 : decode cX9_does 33 = .ok (.invokevirtual 374, 3) := by decide +kernel
theorem dX9_does_36 : decode cX9_does 36 = .ok (.ifCond .eq 5, 3) := by decide +kernel
theorem dX9_does_39 : decode cX9_does 39 = .ok (.iconst 1, 1) := by decide +kernel
theorem dX9_does_40 : decode cX9_does 40 = .ok (.ireturn, 1) := by decide +kernel
theorem dX9_does_41 : decode cX9_does 41 = .ok (.iload_n 3, 1) := by decide +kernel
theorem dX9_does_42 : decode cX9_does 42 = .ok (.ifCond .eq 11, 3) := by decide +kernel
theorem dX9_does_45 : decode cX9_does 45 = .ok (.aload_n 0, 1) := by decide +kernel
theorem dX9_does_46 : decode cX9_does 46 = .ok (.iload_n 1, 1) := by decide +kernel
theorem dX9_does_47 : decode cX9_does 47 = .ok (.invokevirtual 292, 3) := by decide +kernel
theorem dX9_does_50 : decode cX9_does 50 = .ok (.ifCond .eq 5, 3) := by decide +kernel
theorem dX9_does_53 : decode cX9_does 53 = .ok (.iconst 0, 1) := by decide +kernel
theorem dX9_does_54 : decode cX9_does 54 = .ok (.ireturn, 1) := by decide +kernel
theorem dX9_does_55 : decode cX9_does 55 = .ok (.aload_n 0, 1) := by decide +kernel
theorem dX9_does_56 : decode cX9_does 56 = .ok (.getfield 81, 3) := by decide +kernel
theorem dX9_does_59 : decode cX9_does 59 = .ok (.iload_n 1, 1) := by decide +kernel
theorem dX9_does_60 : decode cX9_does 60 = .ok (.iaload, 1) := by decide +kernel
theorem dX9_does_61 : decode cX9_does 61 = .ok (.istore 5, 2) := by decide +kernel
theorem dX9_does_63 : decode cX9_does 63 = .ok (.iconst 0, 1) := by decide +kernel
theorem dX9_does_64 : decode cX9_does 64 = .ok (.istore 6, 2) := by decide +kernel
theorem dX9_does_66 : decode cX9_does 66 = .ok (.iconst 0, 1) := by decide +kernel
theorem dX9_does_67 : decode cX9_does 67 = .ok (.iload 5, 2) := by decide +kernel
theorem dX9_does_69 : decode cX9_does 69 = .ok (.iload_n 2, 1) := by decide +kernel
theorem dX9_does_70 : decode cX9_does 70 = .ok (.isub, 1) := by decide +kernel
theorem dX9_does_71 : decode cX9_does 71 = .ok (.invokestatic 298, 3) := by decide +kernel
theorem dX9_does_74 : decode cX9_does 74 = .ok (.istore 7, 2) := by decide +kernel
theorem dX9_does_76 : decode cX9_does 76 = .ok (.iload 7, 2) := by decide +kernel
theorem dX9_does_78 : decode cX9_does 78 = .ok (.bipush 40, 2) := by decide +kernel
theorem dX9_does_80 : decode cX9_does 80 = .ok (.iload 5, 2) := by decide +kernel
theorem dX9_does_82 : decode cX9_does 82 = .ok (.iload_n 2, 1) := by decide +kernel
theorem dX9_does_83 : decode cX9_does 83 = .ok (.iadd, 1) := by decide +kernel
theorem dX9_does_84 : decode cX9_does 84 = .ok (.invokestatic 378, 3) := by decide +kernel
theorem dX9_does_87 : decode cX9_does 87 = .ok (.if_icmp .gt 47, 3) := by decide +kernel
theorem dX9_does_90 : decode cX9_does 90 = .ok (.iload 6, 2) := by decide +kernel
theorem dX9_does_92 : decode cX9_does 92 = .ok (.ifCond .ne 42, 3) := by decide +kernel
theorem dX9_does_95 : decode cX9_does 95 = .ok (.iload 7, 2) := by decide +kernel
theorem dX9_does_97 : decode cX9_does 97 = .ok (.iload 5, 2) := by decide +kernel
theorem dX9_does_99 : decode cX9_does 99 = .ok (.if_icmp .ne 6, 3) := by decide +kernel
theorem dX9_does_102 : decode cX9_does 102 = .ok (.goto 26, 3) := by decide +kernel
theorem dX9_does_105 : decode cX9_does 105 = .ok (.aload_n 0, 1) := by decide +kernel
theorem dX9_does_106 : decode cX9_does 106 = .ok (.getfield 81, 3) := by decide +kernel
theorem dX9_does_109 : decode cX9_does 109 = .ok (.iload_n 1, 1) := by decide +kernel
theorem dX9_does_110 : decode cX9_does 110 = .ok (.iload 7, 2) := by decide +kernel
theorem dX9_does_112 : decode cX9_does 112 = .ok (.iastore, 1) := by decide +kernel
theorem dX9_does_113 : decode cX9_does 113 = .ok (.aload_n 0, 1) := by decide +kernel
theorem dX9_does_114 : decode cX9_does 114 = .ok (.iload_n 1, 1) := by decide +kernel
theorem dX9_does_115 : decode cX9_does 115 = .ok (.iconst 1, 1) := by decide +kernel
theorem dX9_does_116 : decode cX9_does 116 = .ok (.iadd, 1) := by decide +kernel
theorem dX9_does_117 : decode cX9_does 117 = .ok (.iload_n 2, 1) := by decide +kernel
theorem dX9_does_118 : decode cX9_does 118 = .ok (.iload_n 3, 1) := by decide +kernel
theorem dX9_does_119 : decode cX9_does 119 = .ok (.iconst 1, 1) := by decide +kernel
theorem dX9_does_120 : decode cX9_does 120 = .ok (.isub, 1) := by decide +kernel
theorem dX9_does_121 : decode cX9_does 121 = .ok (.iload 4, 2) := by decide +kernel
theorem dX9_does_123 : decode cX9_does 123 = .ok (.invokevirtual 374, 3) := by decide +kernel
theorem dX9_does_126 : decode cX9_does 126 = .ok (.istore 6, 2) := by decide +kernel
theorem dX9_does_128 : decode cX9_does 128 = .ok (.iinc 7 1, 3) := by decide +kernel
theorem dX9_does_131 : decode cX9_does 131 = .ok (.goto (-55), 3) := by decide +kernel
theorem dX9_does_134 : decode cX9_does 134 = .ok (.aload_n 0, 1) := by decide +kernel
theorem dX9_does_135 : decode cX9_does 135 = .ok (.getfield 81, 3) := by decide +kernel
theorem dX9_does_138 : decode cX9_does 138 = .ok (.iload_n 1, 1) := by decide +kernel
theorem dX9_does_139 : decode cX9_does 139 = .ok (.iload 5, 2) := by decide +kernel
theorem dX9_does_141 : decode cX9_does 141 = .ok (.iastore, 1) := by decide +kernel
theorem dX9_does_142 : decode cX9_does 142 = .ok (.iload 6, 2) := by decide +kernel
theorem dX9_does_144 : decode cX9_does 144 = .ok (.ireturn, 1) := by decide +kernel
theorem dX9_fewest_0 : decode cX9_fewest 0 = .ok (.aload_n 0, 1) := by decide +kernel
theorem dX9_fewest_1 : decode cX9_fewest 1 = .ok (.iconst 0, 1) := by decide +kernel
theorem dX9_fewest_2 : decode cX9_fewest 2 = .ok (.putfield 109, 3) := by decide +kernel
theorem dX9_fewest_5 : decode cX9_fewest 5 = .ok (.iload_n 1, 1) := by decide +kernel
theorem dX9_fewest_6 : decode cX9_fewest 6 = .ok (.iload_n 2, 1) := by decide +kernel
theorem dX9_fewest_7 : decode cX9_fewest 7 = .ok (.invokestatic 371, 3) := by decide +kernel
theorem dX9_fewest_10 : decode cX9_fewest 10 = .ok (.ifCond .eq 24, 3) := by decide +kernel
theorem dX9_fewest_13 : decode cX9_fewest 13 = .ok (.iload_n 3, 1) := by decide +kernel
theorem dX9_fewest_14 : decode cX9_fewest 14 = .ok (.iconst 0, 1) := by decide +kernel
theorem dX9_fewest_15 : decode cX9_fewest 15 = .ok (.sipush 999, 3) := by decide +kernel
theorem dX9_fewest_18 : decode cX9_fewest 18 = .ok (.invokestatic 235, 3) := by decide +kernel
theorem dX9_fewest_21 : decode cX9_fewest 21 = .ok (.ifCond .eq 13, 3) := by decide +kernel
theorem dX9_fewest_24 : decode cX9_fewest 24 = .ok (.iload 4, 2) := by decide +kernel
theorem dX9_fewest_26 : decode cX9_fewest 26 = .ok (.iconst 1, 1) := by decide +kernel
theorem dX9_fewest_27 : decode cX9_fewest 27 = .ok (.iconst 3, 1) := by decide +kernel
theorem dX9_fewest_28 : decode cX9_fewest 28 = .ok (.invokestatic 235, 3) := by decide +kernel
theorem dX9_fewest_31 : decode cX9_fewest 31 = .ok (.ifCond .ne 5, 3) := by decide +kernel
theorem dX9_fewest_34 : decode cX9_fewest 34 = .ok (.iconst (-1), 1) := by decide +kernel
theorem dX9_fewest_35 : decode cX9_fewest 35 = .ok (.ireturn, 1) := by decide +kernel
theorem dX9_fewest_36 : decode cX9_fewest 36 = .ok (.aload_n 0, 1) := by decide +kernel
theorem dX9_fewest_37 : decode cX9_fewest 37 = .ok (.iload_n 1, 1) := by decide +kernel
theorem dX9_fewest_38 : decode cX9_fewest 38 = .ok (.putfield 349, 3) := by decide +kernel
theorem dX9_fewest_41 : decode cX9_fewest 41 = .ok (.aload_n 0, 1) := by decide +kernel
theorem dX9_fewest_42 : decode cX9_fewest 42 = .ok (.iload_n 2, 1) := by decide +kernel
theorem dX9_fewest_43 : decode cX9_fewest 43 = .ok (.putfield 355, 3) := by decide +kernel
theorem dX9_fewest_46 : decode cX9_fewest 46 = .ok (.aload_n 0, 1) := by decide +kernel
theorem dX9_fewest_47 : decode cX9_fewest 47 = .ok (.aload_n 0, 1) := by decide +kernel
theorem dX9_fewest_48 : decode cX9_fewest 48 = .ok (.getfield 81, 3) := by decide +kernel
theorem dX9_fewest_51 : decode cX9_fewest 51 = .ok (.bipush 19, 2) := by decide +kernel
theorem dX9_fewest_53 : decode cX9_fewest 53 = .ok (.iaload, 1) := by decide +kernel
theorem dX9_fewest_54 : decode cX9_fewest 54 = .ok (.iconst 0, 1) := by decide +kernel
theorem dX9_fewest_55 : decode cX9_fewest 55 = .ok (.invokevirtual 319, 3) := by decide +kernel
theorem dX9_fewest_58 : decode cX9_fewest 58 = .ok (.iconst 0, 1) := by decide +kernel
theorem dX9_fewest_59 : decode cX9_fewest 59 = .ok (.istore 5, 2) := by decide +kernel
theorem dX9_fewest_61 : decode cX9_fewest 61 = .ok (.iload 5, 2) := by decide +kernel
theorem dX9_fewest_63 : decode cX9_fewest 63 = .ok (.aload_n 0, 1) := by decide +kernel
theorem dX9_fewest_64 : decode cX9_fewest 64 = .ok (.getfield 13, 3) := by decide +kernel
theorem dX9_fewest_67 : decode cX9_fewest 67 = .ok (.iconst 4, 1) := by decide +kernel
theorem dX9_fewest_68 : decode cX9_fewest 68 = .ok (.iaload, 1) := by decide +kernel
theorem dX9_fewest_69 : decode cX9_fewest 69 = .ok (.if_icmp .gt 25, 3) := by decide +kernel
theorem dX9_fewest_72 : decode cX9_fewest 72 = .ok (.aload_n 0, 1) := by decide +kernel
theorem dX9_fewest_73 : decode cX9_fewest 73 = .ok (.iconst 0, 1) := by decide +kernel
theorem dX9_fewest_74 : decode cX9_fewest 74 = .ok (.iload 4, 2) := by decide +kernel
theorem dX9_fewest_76 : decode cX9_fewest 76 = .ok (.iload 5, 2) := by decide +kernel
theorem dX9_fewest_78 : decode cX9_fewest 78 = .ok (.iload_n 3, 1) := by decide +kernel
theorem dX9_fewest_79 : decode cX9_fewest 79 = .ok (.invokevirtual 374, 3) := by decide +kernel
theorem dX9_fewest_82 : decode cX9_fewest 82 = .ok (.ifCond .eq 6, 3) := by decide +kernel
theorem dX9_fewest_85 : decode cX9_fewest 85 = .ok (.iload 5, 2) := by decide +kernel
theorem dX9_fewest_87 : decode cX9_fewest 87 = .ok (.ireturn, 1) := by decide +kernel
theorem dX9_fewest_88 : decode cX9_fewest 88 = .ok (.iinc 5 1, 3) := by decide +kernel
theorem dX9_fewest_91 : decode cX9_fewest 91 = .ok (.goto (-30), 3) := by decide +kernel
theorem dX9_fewest_94 : decode cX9_fewest 94 = .ok (.iconst (-1), 1) := by decide +kernel
theorem dX9_fewest_95 : decode cX9_fewest 95 = .ok (.ireturn, 1) := by decide +kernel
theorem dX9_holds_0 : decode cX9_holds 0 = .ok (.aload_n 0, 1) := by decide +kernel
theorem dX9_holds_1 : decode cX9_holds 1 = .ok (.iconst 0, 1) := by decide +kernel
theorem dX9_holds_2 : decode cX9_holds 2 = .ok (.putfield 109, 3) := by decide +kernel
theorem dX9_holds_5 : decode cX9_holds 5 = .ok (.iload_n 1, 1) := by decide +kernel
theorem dX9_holds_6 : decode cX9_holds 6 = .ok (.iload_n 2, 1) := by decide +kernel
theorem dX9_holds_7 : decode cX9_holds 7 = .ok (.invokestatic 371, 3) := by decide +kernel
theorem dX9_holds_10 : decode cX9_holds 10 = .ok (.ifCond .eq 26, 3) := by decide +kernel
theorem dX9_holds_13 : decode cX9_holds 13 = .ok (.iload_n 3, 1) := by decide +kernel
theorem dX9_holds_14 : decode cX9_holds 14 = .ok (.iconst 0, 1) := by decide +kernel
theorem dX9_holds_15 : decode cX9_holds 15 = .ok (.sipush 999, 3) := by decide +kernel
theorem dX9_holds_18 : decode cX9_holds 18 = .ok (.invokestatic 235, 3) := by decide +kernel
theorem dX9_holds_21 : decode cX9_holds 21 = .ok (.ifCond .eq 15, 3) := by decide +kernel
theorem dX9_holds_24 : decode cX9_holds 24 = .ok (.iload 4, 2) := by decide +kernel
theorem dX9_holds_26 : decode cX9_holds 26 = .ok (.iconst 1, 1) := by decide +kernel
theorem dX9_holds_27 : decode cX9_holds 27 = .ok (.sipush 240, 3) := by decide +kernel
theorem dX9_holds_30 : decode cX9_holds 30 = .ok (.invokestatic 235, 3) := by decide +kernel
theorem dX9_holds_33 : decode cX9_holds 33 = .ok (.ifCond .ne 6, 3) := by decide +kernel
theorem dX9_holds_36 : decode cX9_holds 36 = .ok (.bipush (-2), 2) := by decide +kernel
theorem dX9_holds_38 : decode cX9_holds 38 = .ok (.ireturn, 1) := by decide +kernel
theorem dX9_holds_39 : decode cX9_holds 39 = .ok (.aload_n 0, 1) := by decide +kernel
theorem dX9_holds_40 : decode cX9_holds 40 = .ok (.iload_n 1, 1) := by decide +kernel
theorem dX9_holds_41 : decode cX9_holds 41 = .ok (.putfield 349, 3) := by decide +kernel
theorem dX9_holds_44 : decode cX9_holds 44 = .ok (.aload_n 0, 1) := by decide +kernel
theorem dX9_holds_45 : decode cX9_holds 45 = .ok (.iload_n 2, 1) := by decide +kernel
theorem dX9_holds_46 : decode cX9_holds 46 = .ok (.putfield 355, 3) := by decide +kernel
theorem dX9_holds_49 : decode cX9_holds 49 = .ok (.aload_n 0, 1) := by decide +kernel
theorem dX9_holds_50 : decode cX9_holds 50 = .ok (.getfield 81, 3) := by decide +kernel
theorem dX9_holds_53 : decode cX9_holds 53 = .ok (.iconst 0, 1) := by decide +kernel
theorem dX9_holds_54 : decode cX9_holds 54 = .ok (.aload_n 0, 1) := by decide +kernel
theorem dX9_holds_55 : decode cX9_holds 55 = .ok (.getfield 84, 3) := by decide +kernel
theorem dX9_holds_58 : decode cX9_holds 58 = .ok (.iconst 0, 1) := by decide +kernel
theorem dX9_holds_59 : decode cX9_holds 59 = .ok (.invokestatic 381, 3) := by decide +kernel
theorem dX9_holds_62 : decode cX9_holds 62 = .ok (.iconst (-1), 1) := by decide +kernel
theorem dX9_holds_63 : decode cX9_holds 63 = .ok (.istore 5, 2) := by decide +kernel
theorem dX9_holds_65 : decode cX9_holds 65 = .ok (.iconst 0, 1) := by decide +kernel
theorem dX9_holds_66 : decode cX9_holds 66 = .ok (.istore 6, 2) := by decide +kernel
theorem dX9_holds_68 : decode cX9_holds 68 = .ok (.iload 6, 2) := by decide +kernel
theorem dX9_holds_70 : decode cX9_holds 70 = .ok (.iload 4, 2) := by decide +kernel
theorem dX9_holds_72 : decode cX9_holds 72 = .ok (.if_icmp .ge 43, 3) := by decide +kernel
theorem dX9_holds_75 : decode cX9_holds 75 = .ok (.iload 5, 2) := by decide +kernel
theorem dX9_holds_77 : decode cX9_holds 77 = .ok (.ifCond .ge 38, 3) := by decide +kernel
theorem dX9_holds_80 : decode cX9_holds 80 = .ok (.aload_n 0, 1) := by decide +kernel
theorem dX9_holds_81 : decode cX9_holds 81 = .ok (.aload_n 0, 1) := by decide +kernel
theorem dX9_holds_82 : decode cX9_holds 82 = .ok (.getfield 81, 3) := by decide +kernel
theorem dX9_holds_85 : decode cX9_holds 85 = .ok (.bipush 19, 2) := by decide +kernel
theorem dX9_holds_87 : decode cX9_holds 87 = .ok (.iaload, 1) := by decide +kernel
theorem dX9_holds_88 : decode cX9_holds 88 = .ok (.iconst 0, 1) := by decide +kernel
theorem dX9_holds_89 : decode cX9_holds 89 = .ok (.invokevirtual 319, 3) := by decide +kernel
theorem dX9_holds_92 : decode cX9_holds 92 = .ok (.aload_n 0, 1) := by decide +kernel
theorem dX9_holds_93 : decode cX9_holds 93 = .ok (.invokevirtual 358, 3) := by decide +kernel
theorem dX9_holds_96 : decode cX9_holds 96 = .ok (.iload_n 3, 1) := by decide +kernel
theorem dX9_holds_97 : decode cX9_holds 97 = .ok (.if_icmp .le 7, 3) := by decide +kernel
theorem dX9_holds_100 : decode cX9_holds 100 = .ok (.iload 6, 2) := by decide +kernel
theorem dX9_holds_102 : decode cX9_holds 102 = .ok (.istore 5, 2) := by decide +kernel
theorem dX9_holds_104 : decode cX9_holds 104 = .ok (.aload_n 0, 1) := by decide +kernel
theorem dX9_holds_105 : decode cX9_holds 105 = .ok (.iconst 0, 1) := by decide +kernel
theorem dX9_holds_106 : decode cX9_holds 106 = .ok (.invokevirtual 346, 3) := by decide +kernel
theorem dX9_holds_109 : decode cX9_holds 109 = .ok (.iinc 6 1, 3) := by decide +kernel
theorem dX9_holds_112 : decode cX9_holds 112 = .ok (.goto (-44), 3) := by decide +kernel
theorem dX9_holds_115 : decode cX9_holds 115 = .ok (.aload_n 0, 1) := by decide +kernel
theorem dX9_holds_116 : decode cX9_holds 116 = .ok (.getfield 84, 3) := by decide +kernel
theorem dX9_holds_119 : decode cX9_holds 119 = .ok (.iconst 0, 1) := by decide +kernel
theorem dX9_holds_120 : decode cX9_holds 120 = .ok (.aload_n 0, 1) := by decide +kernel
theorem dX9_holds_121 : decode cX9_holds 121 = .ok (.getfield 81, 3) := by decide +kernel
theorem dX9_holds_124 : decode cX9_holds 124 = .ok (.iconst 0, 1) := by decide +kernel
theorem dX9_holds_125 : decode cX9_holds 125 = .ok (.invokestatic 381, 3) := by decide +kernel
theorem dX9_holds_128 : decode cX9_holds 128 = .ok (.iload 5, 2) := by decide +kernel
theorem dX9_holds_130 : decode cX9_holds 130 = .ok (.ireturn, 1) := by decide +kernel
theorem dX9_highWith_0 : decode cX9_highWith 0 = .ok (.aload_n 0, 1) := by decide +kernel
theorem dX9_highWith_1 : decode cX9_highWith 1 = .ok (.getfield 81, 3) := by decide +kernel
theorem dX9_highWith_4 : decode cX9_highWith 4 = .ok (.bipush 18, 2) := by decide +kernel
theorem dX9_highWith_6 : decode cX9_highWith 6 = .ok (.iaload, 1) := by decide +kernel
theorem dX9_highWith_7 : decode cX9_highWith 7 = .ok (.istore_n 2, 1) := by decide +kernel
theorem dX9_highWith_8 : decode cX9_highWith 8 = .ok (.aload_n 0, 1) := by decide +kernel
theorem dX9_highWith_9 : decode cX9_highWith 9 = .ok (.getfield 81, 3) := by decide +kernel
theorem dX9_highWith_12 : decode cX9_highWith 12 = .ok (.bipush 18, 2) := by decide +kernel
theorem dX9_highWith_14 : decode cX9_highWith 14 = .ok (.iload_n 1, 1) := by decide +kernel
theorem dX9_highWith_15 : decode cX9_highWith 15 = .ok (.iastore, 1) := by decide +kernel
theorem dX9_highWith_16 : decode cX9_highWith 16 = .ok (.aload_n 0, 1) := by decide +kernel
theorem dX9_highWith_17 : decode cX9_highWith 17 = .ok (.invokevirtual 322, 3) := by decide +kernel
theorem dX9_highWith_20 : decode cX9_highWith 20 = .ok (.aload_n 0, 1) := by decide +kernel
theorem dX9_highWith_21 : decode cX9_highWith 21 = .ok (.getfield 81, 3) := by decide +kernel
theorem dX9_highWith_24 : decode cX9_highWith 24 = .ok (.bipush 18, 2) := by decide +kernel
theorem dX9_highWith_26 : decode cX9_highWith 26 = .ok (.iload_n 2, 1) := by decide +kernel
theorem dX9_highWith_27 : decode cX9_highWith 27 = .ok (.iastore, 1) := by decide +kernel
theorem dX9_highWith_28 : decode cX9_highWith 28 = .ok (.aload_n 0, 1) := by decide +kernel
theorem dX9_highWith_29 : decode cX9_highWith 29 = .ok (.getfield 313, 3) := by decide +kernel
theorem dX9_highWith_32 : decode cX9_highWith 32 = .ok (.ireturn, 1) := by decide +kernel
theorem dX9_mayGo_0 : decode cX9_mayGo 0 = .ok (.aload_n 0, 1) := by decide +kernel
theorem dX9_mayGo_1 : decode cX9_mayGo 1 = .ok (.iconst 0, 1) := by decide +kernel
theorem dX9_mayGo_2 : decode cX9_mayGo 2 = .ok (.putfield 109, 3) := by decide +kernel
theorem dX9_mayGo_5 : decode cX9_mayGo 5 = .ok (.iload_n 1, 1) := by decide +kernel
theorem dX9_mayGo_6 : decode cX9_mayGo 6 = .ok (.invokestatic 334, 3) := by decide +kernel
theorem dX9_mayGo_9 : decode cX9_mayGo 9 = .ok (.ifCond .ne 5, 3) := by decide +kernel
theorem dX9_mayGo_12 : decode cX9_mayGo 12 = .ok (.iconst (-1), 1) := by decide +kernel
theorem dX9_mayGo_13 : decode cX9_mayGo 13 = .ok (.ireturn, 1) := by decide +kernel
theorem dX9_mayGo_14 : decode cX9_mayGo 14 = .ok (.aload_n 0, 1) := by decide +kernel
theorem dX9_mayGo_15 : decode cX9_mayGo 15 = .ok (.aload_n 0, 1) := by decide +kernel
theorem dX9_mayGo_16 : decode cX9_mayGo 16 = .ok (.getfield 81, 3) := by decide +kernel
theorem dX9_mayGo_19 : decode cX9_mayGo 19 = .ok (.bipush 19, 2) := by decide +kernel
theorem dX9_mayGo_21 : decode cX9_mayGo 21 = .ok (.iaload, 1) := by decide +kernel
theorem dX9_mayGo_22 : decode cX9_mayGo 22 = .ok (.iconst 0, 1) := by decide +kernel
theorem dX9_mayGo_23 : decode cX9_mayGo 23 = .ok (.invokevirtual 319, 3) := by decide +kernel
theorem dX9_mayGo_26 : decode cX9_mayGo 26 = .ok (.iconst 0, 1) := by decide +kernel
theorem dX9_mayGo_27 : decode cX9_mayGo 27 = .ok (.istore_n 2, 1) := by decide +kernel
theorem dX9_mayGo_28 : decode cX9_mayGo 28 = .ok (.iconst 0, 1) := by decide +kernel
theorem dX9_mayGo_29 : decode cX9_mayGo 29 = .ok (.istore_n 3, 1) := by decide +kernel
theorem dX9_mayGo_30 : decode cX9_mayGo 30 = .ok (.iload_n 3, 1) := by decide +kernel
theorem dX9_mayGo_31 : decode cX9_mayGo 31 = .ok (.aload_n 0, 1) := by decide +kernel
