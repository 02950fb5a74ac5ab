theorem dX9_mayGo_32 : decode cX9_mayGo 32 = .ok (.getfield 13, 3) := by decide +kernel
theorem dX9_mayGo_35 : decode cX9_mayGo 35 = .ok (.iconst 4, 1) := by decide +kernel
theorem dX9_mayGo_36 : decode cX9_mayGo 36 = .ok (.iaload, 1) := by decide +kernel
theorem dX9_mayGo_37 : decode cX9_mayGo 37 = .ok (.if_icmp .ge 46, 3) := by decide +kernel
theorem dX9_mayGo_40 : decode cX9_mayGo 40 = .ok (.iload_n 2, 1) := by decide +kernel
theorem dX9_mayGo_41 : decode cX9_mayGo 41 = .ok (.aload_n 0, 1) := by decide +kernel
theorem dX9_mayGo_42 : decode cX9_mayGo 42 = .ok (.iload_n 3, 1) := by decide +kernel
theorem dX9_mayGo_43 : decode cX9_mayGo 43 = .ok (.invokevirtual 292, 3) := by decide +kernel
theorem dX9_mayGo_46 : decode cX9_mayGo 46 = .ok (.ifCond .ne 28, 3) := by decide +kernel
theorem dX9_mayGo_49 : decode cX9_mayGo 49 = .ok (.aload_n 0, 1) := by decide +kernel
theorem dX9_mayGo_50 : decode cX9_mayGo 50 = .ok (.aload_n 0, 1) := by decide +kernel
theorem dX9_mayGo_51 : decode cX9_mayGo 51 = .ok (.getfield 81, 3) := by decide +kernel
theorem dX9_mayGo_54 : decode cX9_mayGo 54 = .ok (.bipush 18, 2) := by decide +kernel
theorem dX9_mayGo_56 : decode cX9_mayGo 56 = .ok (.iaload, 1) := by decide +kernel
theorem dX9_mayGo_57 : decode cX9_mayGo 57 = .ok (.iconst 1, 1) := by decide +kernel
theorem dX9_mayGo_58 : decode cX9_mayGo 58 = .ok (.iload_n 3, 1) := by decide +kernel
theorem dX9_mayGo_59 : decode cX9_mayGo 59 = .ok (.ishl, 1) := by decide +kernel
theorem dX9_mayGo_60 : decode cX9_mayGo 60 = .ok (.ior, 1) := by decide +kernel
theorem dX9_mayGo_61 : decode cX9_mayGo 61 = .ok (.invokevirtual 385, 3) := by decide +kernel
theorem dX9_mayGo_64 : decode cX9_mayGo 64 = .ok (.iload_n 1, 1) := by decide +kernel
theorem dX9_mayGo_65 : decode cX9_mayGo 65 = .ok (.if_icmp .lt 9, 3) := by decide +kernel
theorem dX9_mayGo_68 : decode cX9_mayGo 68 = .ok (.iconst 1, 1) := by decide +kernel
theorem dX9_mayGo_69 : decode cX9_mayGo 69 = .ok (.iload_n 3, 1) := by decide +kernel
theorem dX9_mayGo_70 : decode cX9_mayGo 70 = .ok (.ishl, 1) := by decide +kernel
theorem dX9_mayGo_71 : decode cX9_mayGo 71 = .ok (.goto 4, 3) := by decide +kernel
theorem dX9_mayGo_74 : decode cX9_mayGo 74 = .ok (.iconst 0, 1) := by decide +kernel
theorem dX9_mayGo_75 : decode cX9_mayGo 75 = .ok (.ior, 1) := by decide +kernel
theorem dX9_mayGo_76 : decode cX9_mayGo 76 = .ok (.istore_n 2, 1) := by decide +kernel
theorem dX9_mayGo_77 : decode cX9_mayGo 77 = .ok (.iinc 3 1, 3) := by decide +kernel
theorem dX9_mayGo_80 : decode cX9_mayGo 80 = .ok (.goto (-50), 3) := by decide +kernel
theorem dX9_mayGo_83 : decode cX9_mayGo 83 = .ok (.iload_n 2, 1) := by decide +kernel
theorem dX9_mayGo_84 : decode cX9_mayGo 84 = .ok (.ireturn, 1) := by decide +kernel
theorem dX9_bits_0 : decode cX9_bits 0 = .ok (.iconst 0, 1) := by decide +kernel
theorem dX9_bits_1 : decode cX9_bits 1 = .ok (.istore_n 1, 1) := by decide +kernel
theorem dX9_bits_2 : decode cX9_bits 2 = .ok (.iconst 0, 1) := by decide +kernel
theorem dX9_bits_3 : decode cX9_bits 3 = .ok (.istore_n 2, 1) := by decide +kernel
theorem dX9_bits_4 : decode cX9_bits 4 = .ok (.iload_n 2, 1) := by decide +kernel
theorem dX9_bits_5 : decode cX9_bits 5 = .ok (.bipush 6, 2) := by decide +kernel
theorem dX9_bits_7 : decode cX9_bits 7 = .ok (.if_icmp .ge 17, 3) := by decide +kernel
theorem dX9_bits_10 : decode cX9_bits 10 = .ok (.iload_n 1, 1) := by decide +kernel
theorem dX9_bits_11 : decode cX9_bits 11 = .ok (.iload_n 0, 1) := by decide +kernel
theorem dX9_bits_12 : decode cX9_bits 12 = .ok (.iload_n 2, 1) := by decide +kernel
theorem dX9_bits_13 : decode cX9_bits 13 = .ok (.ishr, 1) := by decide +kernel
theorem dX9_bits_14 : decode cX9_bits 14 = .ok (.iconst 1, 1) := by decide +kernel
theorem dX9_bits_15 : decode cX9_bits 15 = .ok (.iand, 1) := by decide +kernel
theorem dX9_bits_16 : decode cX9_bits 16 = .ok (.iadd, 1) := by decide +kernel
theorem dX9_bits_17 : decode cX9_bits 17 = .ok (.istore_n 1, 1) := by decide +kernel
theorem dX9_bits_18 : decode cX9_bits 18 = .ok (.iinc 2 1, 3) := by decide +kernel
theorem dX9_bits_21 : decode cX9_bits 21 = .ok (.goto (-17), 3) := by decide +kernel
theorem dX9_bits_24 : decode cX9_bits 24 = .ok (.iload_n 1, 1) := by decide +kernel
theorem dX9_bits_25 : decode cX9_bits 25 = .ok (.ireturn, 1) := by decide +kernel
theorem dX9_needed_0 : decode cX9_needed 0 = .ok (.aload_n 0, 1) := by decide +kernel
theorem dX9_needed_1 : decode cX9_needed 1 = .ok (.iconst 0, 1) := by decide +kernel
theorem dX9_needed_2 : decode cX9_needed 2 = .ok (.putfield 109, 3) := by decide +kernel
theorem dX9_needed_5 : decode cX9_needed 5 = .ok (.iload_n 1, 1) := by decide +kernel
theorem dX9_needed_6 : decode cX9_needed 6 = .ok (.invokestatic 334, 3) := by decide +kernel
theorem dX9_needed_9 : decode cX9_needed 9 = .ok (.ifCond .eq 12, 3) := by decide +kernel
theorem dX9_needed_12 : decode cX9_needed 12 = .ok (.iload_n 2, 1) := by decide +kernel
theorem dX9_needed_13 : decode cX9_needed 13 = .ok (.iconst 0, 1) := by decide +kernel
theorem dX9_needed_14 : decode cX9_needed 14 = .ok (.iconst 1, 1) := by decide +kernel
theorem dX9_needed_15 : decode cX9_needed 15 = .ok (.invokestatic 235, 3) := by decide +kernel
theorem dX9_needed_18 : decode cX9_needed 18 = .ok (.ifCond .ne 5, 3) := by decide +kernel
theorem dX9_needed_21 : decode cX9_needed 21 = .ok (.iconst (-1), 1) := by decide +kernel
theorem dX9_needed_22 : decode cX9_needed 22 = .ok (.ireturn, 1) := by decide +kernel
theorem dX9_needed_23 : decode cX9_needed 23 = .ok (.aload_n 0, 1) := by decide +kernel
theorem dX9_needed_24 : decode cX9_needed 24 = .ok (.aload_n 0, 1) := by decide +kernel
theorem dX9_needed_25 : decode cX9_needed 25 = .ok (.getfield 81, 3) := by decide +kernel
theorem dX9_needed_28 : decode cX9_needed 28 = .ok (.bipush 19, 2) := by decide +kernel
theorem dX9_needed_30 : decode cX9_needed 30 = .ok (.iaload, 1) := by decide +kernel
theorem dX9_needed_31 : decode cX9_needed 31 = .ok (.iconst 0, 1) := by decide +kernel
theorem dX9_needed_32 : decode cX9_needed 32 = .ok (.invokevirtual 319, 3) := by decide +kernel
theorem dX9_needed_35 : decode cX9_needed 35 = .ok (.iconst 1, 1) := by decide +kernel
theorem dX9_needed_36 : decode cX9_needed 36 = .ok (.aload_n 0, 1) := by decide +kernel
theorem dX9_needed_37 : decode cX9_needed 37 = .ok (.getfield 13, 3) := by decide +kernel
theorem dX9_needed_40 : decode cX9_needed 40 = .ok (.iconst 4, 1) := by decide +kernel
theorem dX9_needed_41 : decode cX9_needed 41 = .ok (.iaload, 1) := by decide +kernel
theorem dX9_needed_42 : decode cX9_needed 42 = .ok (.ishl, 1) := by decide +kernel
theorem dX9_needed_43 : decode cX9_needed 43 = .ok (.iconst 1, 1) := by decide +kernel
theorem dX9_needed_44 : decode cX9_needed 44 = .ok (.isub, 1) := by decide +kernel
theorem dX9_needed_45 : decode cX9_needed 45 = .ok (.istore_n 3, 1) := by decide +kernel
theorem dX9_needed_46 : decode cX9_needed 46 = .ok (.iconst (-1), 1) := by decide +kernel
theorem dX9_needed_47 : decode cX9_needed 47 = .ok (.istore 4, 2) := by decide +kernel
theorem dX9_needed_49 : decode cX9_needed 49 = .ok (.iconst 0, 1) := by decide +kernel
theorem dX9_needed_50 : decode cX9_needed 50 = .ok (.istore 5, 2) := by decide +kernel
theorem dX9_needed_52 : decode cX9_needed 52 = .ok (.iload 5, 2) := by decide +kernel
theorem dX9_needed_54 : decode cX9_needed 54 = .ok (.iload_n 3, 1) := by decide +kernel
theorem dX9_needed_55 : decode cX9_needed 55 = .ok (.if_icmp .gt 61, 3) := by decide +kernel
theorem dX9_needed_58 : decode cX9_needed 58 = .ok (.iload 5, 2) := by decide +kernel
theorem dX9_needed_60 : decode cX9_needed 60 = .ok (.aload_n 0, 1) := by decide +kernel
theorem dX9_needed_61 : decode cX9_needed 61 = .ok (.getfield 81, 3) := by decide +kernel
theorem dX9_needed_64 : decode cX9_needed 64 = .ok (.bipush 18, 2) := by decide +kernel
theorem dX9_needed_66 : decode cX9_needed 66 = .ok (.iaload, 1) := by decide +kernel
theorem dX9_needed_67 : decode cX9_needed 67 = .ok (.iand, 1) := by decide +kernel
theorem dX9_needed_68 : decode cX9_needed 68 = .ok (.ifCond .ne 42, 3) := by decide +kernel
theorem dX9_needed_71 : decode cX9_needed 71 = .ok (.iload 4, 2) := by decide +kernel
theorem dX9_needed_73 : decode cX9_needed 73 = .ok (.ifCond .lt 19, 3) := by decide +kernel
theorem dX9_needed_76 : decode cX9_needed 76 = .ok (.iload 5, 2) := by decide +kernel
theorem dX9_needed_78 : decode cX9_needed 78 = .ok (.invokestatic 388, 3) := by decide +kernel
theorem dX9_needed_81 : decode cX9_needed 81 = .ok (.iload 4, 2) := by decide +kernel
theorem dX9_needed_83 : decode cX9_needed 83 = .ok (.invokestatic 388, 3) := by decide +kernel
theorem dX9_needed_86 : decode cX9_needed 86 = .ok (.if_icmp .lt 6, 3) := by decide +kernel
theorem dX9_needed_89 : decode cX9_needed 89 = .ok (.goto 21, 3) := by decide +kernel
theorem dX9_needed_92 : decode cX9_needed 92 = .ok (.aload_n 0, 1) := by decide +kernel
theorem dX9_needed_93 : decode cX9_needed 93 = .ok (.iload_n 3, 1) := by decide +kernel
theorem dX9_needed_94 : decode cX9_needed 94 = .ok (.iload 5, 2) := by decide +kernel
theorem dX9_needed_96 : decode cX9_needed 96 = .ok (.iconst (-1), 1) := by decide +kernel
theorem dX9_needed_97 : decode cX9_needed 97 = .ok (.ixor, 1) := by decide +kernel
theorem dX9_needed_98 : decode cX9_needed 98 = .ok (.iand, 1) := by decide +kernel
theorem dX9_needed_99 : decode cX9_needed 99 = .ok (.invokevirtual 385, 3) := by decide +kernel
theorem dX9_needed_102 : decode cX9_needed 102 = .ok (.iload_n 1, 1) := by decide +kernel
theorem dX9_needed_103 : decode cX9_needed 103 = .ok (.if_icmp .lt 7, 3) := by decide +kernel
theorem dX9_needed_106 : decode cX9_needed 106 = .ok (.iload 5, 2) := by decide +kernel
theorem dX9_needed_108 : decode cX9_needed 108 = .ok (.istore 4, 2) := by decide +kernel
theorem dX9_needed_110 : decode cX9_needed 110 = .ok (.iinc 5 1, 3) := by decide +kernel
theorem dX9_needed_113 : decode cX9_needed 113 = .ok (.goto (-61), 3) := by decide +kernel
theorem dX9_needed_116 : decode cX9_needed 116 = .ok (.iload 4, 2) := by decide +kernel
theorem dX9_needed_118 : decode cX9_needed 118 = .ok (.ifCond .lt 8, 3) := by decide +kernel
theorem dX9_needed_121 : decode cX9_needed 121 = .ok (.iload_n 2, 1) := by decide +kernel
theorem dX9_needed_122 : decode cX9_needed 122 = .ok (.iconst 1, 1) := by decide +kernel
theorem dX9_needed_123 : decode cX9_needed 123 = .ok (.if_icmp .ne 8, 3) := by decide +kernel
theorem dX9_needed_126 : decode cX9_needed 126 = .ok (.iload 4, 2) := by decide +kernel
theorem dX9_needed_128 : decode cX9_needed 128 = .ok (.goto 8, 3) := by decide +kernel
theorem dX9_needed_131 : decode cX9_needed 131 = .ok (.iload 4, 2) := by decide +kernel
theorem dX9_needed_133 : decode cX9_needed 133 = .ok (.invokestatic 388, 3) := by decide +kernel
theorem dX9_needed_136 : decode cX9_needed 136 = .ok (.ireturn, 1) := by decide +kernel
theorem dX9_mean_0 : decode cX9_mean 0 = .ok (.aload_n 0, 1) := by decide +kernel
theorem dX9_mean_1 : decode cX9_mean 1 = .ok (.iconst 0, 1) := by decide +kernel
theorem dX9_mean_2 : decode cX9_mean 2 = .ok (.putfield 109, 3) := by decide +kernel
theorem dX9_mean_5 : decode cX9_mean 5 = .ok (.iload_n 1, 1) := by decide +kernel
theorem dX9_mean_6 : decode cX9_mean 6 = .ok (.iconst 1, 1) := by decide +kernel
theorem dX9_mean_7 : decode cX9_mean 7 = .ok (.sipush 240, 3) := by decide +kernel
theorem dX9_mean_10 : decode cX9_mean 10 = .ok (.invokestatic 235, 3) := by decide +kernel
theorem dX9_mean_13 : decode cX9_mean 13 = .ok (.ifCond .eq 12, 3) := by decide +kernel
theorem dX9_mean_16 : decode cX9_mean 16 = .ok (.iload_n 2, 1) := by decide +kernel
theorem dX9_mean_17 : decode cX9_mean 17 = .ok (.iconst 0, 1) := by decide +kernel
theorem dX9_mean_18 : decode cX9_mean 18 = .ok (.iconst 3, 1) := by decide +kernel
theorem dX9_mean_19 : decode cX9_mean 19 = .ok (.invokestatic 235, 3) := by decide +kernel
theorem dX9_mean_22 : decode cX9_mean 22 = .ok (.ifCond .ne 7, 3) := by decide +kernel
theorem dX9_mean_25 : decode cX9_mean 25 = .ok (.ldc2_w 391, 3) := by decide +kernel
theorem dX9_mean_28 : decode cX9_mean 28 = .ok (.lreturn, 1) := by decide +kernel
theorem dX9_mean_29 : decode cX9_mean 29 = .ok (.aload_n 0, 1) := by decide +kernel
theorem dX9_mean_30 : decode cX9_mean 30 = .ok (.getfield 81, 3) := by decide +kernel
theorem dX9_mean_33 : decode cX9_mean 33 = .ok (.iconst 0, 1) := by decide +kernel
theorem dX9_mean_34 : decode cX9_mean 34 = .ok (.aload_n 0, 1) := by decide +kernel
theorem dX9_mean_35 : decode cX9_mean 35 = .ok (.getfield 84, 3) := by decide +kernel
theorem dX9_mean_38 : decode cX9_mean 38 = .ok (.iconst 0, 1) := by decide +kernel
theorem dX9_mean_39 : decode cX9_mean 39 = .ok (.invokestatic 381, 3) := by decide +kernel
theorem dX9_mean_42 : decode cX9_mean 42 = .ok (.lconst 0, 1) := by decide +kernel
theorem dX9_mean_43 : decode cX9_mean 43 = .ok (.lstore_n 3, 1) := by decide +kernel
theorem dX9_mean_44 : decode cX9_mean 44 = .ok (.ldc_w 393, 3) := by decide +kernel
theorem dX9_mean_47 : decode cX9_mean 47 = .ok (.istore 5, 2) := by decide +kernel
theorem dX9_mean_49 : decode cX9_mean 49 = .ok (.iconst 0, 1) := by decide +kernel
theorem dX9_mean_50 : decode cX9_mean 50 = .ok (.istore 6, 2) := by decide +kernel
theorem dX9_mean_52 : decode cX9_mean 52 = .ok (.iconst 0, 1) := by decide +kernel
theorem dX9_mean_53 : decode cX9_mean 53 = .ok (.istore 7, 2) := by decide +kernel
theorem dX9_mean_55 : decode cX9_mean 55 = .ok (.iload 7, 2) := by decide +kernel
theorem dX9_mean_57 : decode cX9_mean 57 = .ok (.iload_n 1, 1) := by decide +kernel
theorem dX9_mean_58 : decode cX9_mean 58 = .ok (.if_icmp .ge 48, 3) := by decide +kernel
theorem dX9_mean_61 : decode cX9_mean 61 = .ok (.aload_n 0, 1) := by decide +kernel
theorem dX9_mean_62 : decode cX9_mean 62 = .ok (.invokevirtual 331, 3) := by decide +kernel
theorem dX9_mean_65 : decode cX9_mean 65 = .ok (.lload_n 3, 1) := by decide +kernel
theorem dX9_mean_66 : decode cX9_mean 66 = .ok (.aload_n 0, 1) := by decide +kernel
theorem dX9_mean_67 : decode cX9_mean 67 = .ok (.getfield 316, 3) := by decide +kernel
theorem dX9_mean_70 : decode cX9_mean 70 = .ok (.i2l, 1) := by decide +kernel
theorem dX9_mean_71 : decode cX9_mean 71 = .ok (.ladd, 1) := by decide +kernel
theorem dX9_mean_72 : decode cX9_mean 72 = .ok (.lstore_n 3, 1) := by decide +kernel
theorem dX9_mean_73 : decode cX9_mean 73 = .ok (.iload 5, 2) := by decide +kernel
theorem dX9_mean_75 : decode cX9_mean 75 = .ok (.aload_n 0, 1) := by decide +kernel
theorem dX9_mean_76 : decode cX9_mean 76 = .ok (.getfield 316, 3) := by decide +kernel
theorem dX9_mean_79 : decode cX9_mean 79 = .ok (.invokestatic 378, 3) := by decide +kernel
theorem dX9_mean_82 : decode cX9_mean 82 = .ok (.istore 5, 2) := by decide +kernel
theorem dX9_mean_84 : decode cX9_mean 84 = .ok (.iload 6, 2) := by decide +kernel
theorem dX9_mean_86 : decode cX9_mean 86 = .ok (.aload_n 0, 1) := by decide +kernel
theorem dX9_mean_87 : decode cX9_mean 87 = .ok (.getfield 316, 3) := by decide +kernel
theorem dX9_mean_90 : decode cX9_mean 90 = .ok (.invokestatic 298, 3) := by decide +kernel
theorem dX9_mean_93 : decode cX9_mean 93 = .ok (.istore 6, 2) := by decide +kernel
theorem dX9_mean_95 : decode cX9_mean 95 = .ok (.aload_n 0, 1) := by decide +kernel
theorem dX9_mean_96 : decode cX9_mean 96 = .ok (.iconst 0, 1) := by decide +kernel
theorem dX9_mean_97 : decode cX9_mean 97 = .ok (.invokevirtual 346, 3) := by decide +kernel
theorem dX9_mean_100 : decode cX9_mean 100 = .ok (.iinc 7 1, 3) := by decide +kernel
theorem dX9_mean_103 : decode cX9_mean 103 = .ok (.goto (-48), 3) := by decide +kernel
theorem dX9_mean_106 : decode cX9_mean 106 = .ok (.aload_n 0, 1) := by decide +kernel
theorem dX9_mean_107 : decode cX9_mean 107 = .ok (.getfield 84, 3) := by decide +kernel
theorem dX9_mean_110 : decode cX9_mean 110 = .ok (.iconst 0, 1) := by decide +kernel
theorem dX9_mean_111 : decode cX9_mean 111 = .ok (.aload_n 0, 1) := by decide +kernel
theorem dX9_mean_112 : decode cX9_mean 112 = .ok (.getfield 81, 3) := by decide +kernel
theorem dX9_mean_115 : decode cX9_mean 115 = .ok (.iconst 0, 1) := by decide +kernel
theorem dX9_mean_116 : decode cX9_mean 116 = .ok (.invokestatic 381, 3) := by decide +kernel
theorem dX9_mean_119 : decode cX9_mean 119 = .ok (.iload_n 2, 1) := by decide +kernel
theorem dX9_mean_120 : decode cX9_mean 120 = .ok (.iconst 1, 1) := by decide +kernel
theorem dX9_mean_121 : decode cX9_mean 121 = .ok (.if_icmp .le 18, 3) := by decide +kernel
theorem dX9_mean_124 : decode cX9_mean 124 = .ok (.iload_n 2, 1) := by decide +kernel
theorem dX9_mean_125 : decode cX9_mean 125 = .ok (.iconst 2, 1) := by decide +kernel
theorem dX9_mean_126 : decode cX9_mean 126 = .ok (.if_icmp .ne 9, 3) := by decide +kernel
theorem dX9_mean_129 : decode cX9_mean 129 = .ok (.iload 5, 2) := by decide +kernel
theorem dX9_mean_131 : decode cX9_mean 131 = .ok (.i2l, 1) := by decide +kernel
theorem dX9_mean_132 : decode cX9_mean 132 = .ok (.goto 6, 3) := by decide +kernel
theorem dX9_mean_135 : decode cX9_mean 135 = .ok (.iload 6, 2) := by decide +kernel
theorem dX9_mean_137 : decode cX9_mean 137 = .ok (.i2l, 1) := by decide +kernel
theorem dX9_mean_138 : decode cX9_mean 138 = .ok (.lreturn, 1) := by decide +kernel
theorem dX9_mean_139 : decode cX9_mean 139 = .ok (.iload_n 2, 1) := by decide +kernel
theorem dX9_mean_140 : decode cX9_mean 140 = .ok (.ifCond .ne 7, 3) := by decide +kernel
theorem dX9_mean_143 : decode cX9_mean 143 = .ok (.lload_n 3, 1) := by decide +kernel
theorem dX9_mean_144 : decode cX9_mean 144 = .ok (.goto 5, 3) := by decide +kernel
theorem dX9_mean_147 : decode cX9_mean 147 = .ok (.iload_n 1, 1) := by decide +kernel
theorem dX9_mean_148 : decode cX9_mean 148 = .ok (.i2l, 1) := by decide +kernel
theorem dX9_mean_149 : decode cX9_mean 149 = .ok (.lload_n 3, 1) := by decide +kernel
theorem dX9_mean_150 : decode cX9_mean 150 = .ok (.iload_n 1, 1) := by decide +kernel
theorem dX9_mean_151 : decode cX9_mean 151 = .ok (.i2l, 1) := by decide +kernel
theorem dX9_mean_152 : decode cX9_mean 152 = .ok (.invokestatic 394, 3) := by decide +kernel
theorem dX9_mean_155 : decode cX9_mean 155 = .ok (.ldiv, 1) := by decide +kernel
theorem dX9_mean_156 : decode cX9_mean 156 = .ok (.lreturn, 1) := by decide +kernel
theorem dX9_down_0 : decode cX9_down 0 = .ok (.aload_n 0, 1) := by decide +kernel
theorem dX9_down_1 : decode cX9_down 1 = .ok (.iconst 0, 1) := by decide +kernel
theorem dX9_down_2 : decode cX9_down 2 = .ok (.putfield 109, 3) := by decide +kernel
theorem dX9_down_5 : decode cX9_down 5 = .ok (.aload_n 0, 1) := by decide +kernel
theorem dX9_down_6 : decode cX9_down 6 = .ok (.getfield 81, 3) := by decide +kernel
theorem dX9_down_9 : decode cX9_down 9 = .ok (.iconst 0, 1) := by decide +kernel
theorem dX9_down_10 : decode cX9_down 10 = .ok (.aload_n 0, 1) := by decide +kernel
theorem dX9_down_11 : decode cX9_down 11 = .ok (.getfield 84, 3) := by decide +kernel
theorem dX9_down_14 : decode cX9_down 14 = .ok (.iconst 0, 1) := by decide +kernel
theorem dX9_down_15 : decode cX9_down 15 = .ok (.invokestatic 381, 3) := by decide +kernel
theorem dX9_down_18 : decode cX9_down 18 = .ok (.iconst 0, 1) := by decide +kernel
theorem dX9_down_19 : decode cX9_down 19 = .ok (.istore_n 1, 1) := by decide +kernel
theorem dX9_down_20 : decode cX9_down 20 = .ok (.iconst 0, 1) := by decide +kernel
theorem dX9_down_21 : decode cX9_down 21 = .ok (.istore_n 2, 1) := by decide +kernel
theorem dX9_down_22 : decode cX9_down 22 = .ok (.iconst 0, 1) := by decide +kernel
theorem dX9_down_23 : decode cX9_down 23 = .ok (.istore_n 3, 1) := by decide +kernel
theorem dX9_down_24 : decode cX9_down 24 = .ok (.iload_n 3, 1) := by decide +kernel
theorem dX9_down_25 : decode cX9_down 25 = .ok (.aload_n 0, 1) := by decide +kernel
theorem dX9_down_26 : decode cX9_down 26 = .ok (.getfield 13, 3) := by decide +kernel
theorem dX9_down_29 : decode cX9_down 29 = .ok (.iconst 4, 1) := by decide +kernel
theorem dX9_down_30 : decode cX9_down 30 = .ok (.iaload, 1) := by decide +kernel
theorem dX9_down_31 : decode cX9_down 31 = .ok (.if_icmp .ge 30, 3) := by decide +kernel
theorem dX9_down_34 : decode cX9_down 34 = .ok (.iload_n 2, 1) := by decide +kernel
theorem dX9_down_35 : decode cX9_down 35 = .ok (.aload_n 0, 1) := by decide +kernel
theorem dX9_down_36 : decode cX9_down 36 = .ok (.iload_n 3, 1) := by decide +kernel
theorem dX9_down_37 : decode cX9_down 37 = .ok (.invokevirtual 292, 3) := by decide +kernel
theorem dX9_down_40 : decode cX9_down 40 = .ok (.ifCond .eq 7, 3) := by decide +kernel
theorem dX9_down_43 : decode cX9_down 43 = .ok (.iconst 0, 1) := by decide +kernel
theorem dX9_down_44 : decode cX9_down 44 = .ok (.goto 9, 3) := by decide +kernel
theorem dX9_down_47 : decode cX9_down 47 = .ok (.aload_n 0, 1) := by decide +kernel
theorem dX9_down_48 : decode cX9_down 48 = .ok (.getfield 81, 3) := by decide +kernel
theorem dX9_down_51 : decode cX9_down 51 = .ok (.iload_n 3, 1) := by decide +kernel
theorem dX9_down_52 : decode cX9_down 52 = .ok (.iaload, 1) := by decide +kernel
theorem dX9_down_53 : decode cX9_down 53 = .ok (.iadd, 1) := by decide +kernel
theorem dX9_down_54 : decode cX9_down 54 = .ok (.istore_n 2, 1) := by decide +kernel
theorem dX9_down_55 : decode cX9_down 55 = .ok (.iinc 3 1, 3) := by decide +kernel
theorem dX9_down_58 : decode cX9_down 58 = .ok (.goto (-34), 3) := by decide +kernel
theorem dX9_down_61 : decode cX9_down 61 = .ok (.iload_n 2, 1) := by decide +kernel
theorem dX9_down_62 : decode cX9_down 62 = .ok (.ifCond .ne 6, 3) := by decide +kernel
theorem dX9_down_65 : decode cX9_down 65 = .ok (.goto 71, 3) := by decide +kernel
theorem dX9_down_68 : decode cX9_down 68 = .ok (.iconst 0, 1) := by decide +kernel
theorem dX9_down_69 : decode cX9_down 69 = .ok (.istore_n 3, 1) := by decide +kernel
theorem dX9_down_70 : decode cX9_down 70 = .ok (.iload_n 3, 1) := by decide +kernel
theorem dX9_down_71 : decode cX9_down 71 = .ok (.aload_n 0, 1) := by decide +kernel
theorem dX9_down_72 : decode cX9_down 72 = .ok (.getfield 13, 3) := by decide +kernel
theorem dX9_down_75 : decode cX9_down 75 = .ok (.iconst 4, 1) := by decide +kernel
theorem dX9_down_76 : decode cX9_down 76 = .ok (.iaload, 1) := by decide +kernel
theorem dX9_down_77 : decode cX9_down 77 = .ok (.if_icmp .ge 49, 3) := by decide +kernel
theorem dX9_down_80 : decode cX9_down 80 = .ok (.aload_n 0, 1) := by decide +kernel
theorem dX9_down_81 : decode cX9_down 81 = .ok (.getfield 96, 3) := by decide +kernel
theorem dX9_down_84 : decode cX9_down 84 = .ok (.iload_n 3, 1) := by decide +kernel
theorem dX9_down_85 : decode cX9_down 85 = .ok (.aload_n 0, 1) := by decide +kernel
theorem dX9_down_86 : decode cX9_down 86 = .ok (.iload_n 3, 1) := by decide +kernel
theorem dX9_down_87 : decode cX9_down 87 = .ok (.invokevirtual 337, 3) := by decide +kernel
theorem dX9_down_90 : decode cX9_down 90 = .ok (.ifCond .eq 12, 3) := by decide +kernel
theorem dX9_down_93 : decode cX9_down 93 = .ok (.aload_n 0, 1) := by decide +kernel
theorem dX9_down_94 : decode cX9_down 94 = .ok (.getfield 81, 3) := by decide +kernel
theorem dX9_down_97 : decode cX9_down 97 = .ok (.iload_n 3, 1) := by decide +kernel
theorem dX9_down_98 : decode cX9_down 98 = .ok (.iaload, 1) := by decide +kernel
theorem dX9_down_99 : decode cX9_down 99 = .ok (.goto 20, 3) := by decide +kernel
theorem dX9_down_102 : decode cX9_down 102 = .ok (.iconst 0, 1) := by decide +kernel
theorem dX9_down_103 : decode cX9_down 103 = .ok (.aload_n 0, 1) := by decide +kernel
theorem dX9_down_104 : decode cX9_down 104 = .ok (.getfield 81, 3) := by decide +kernel
theorem dX9_down_107 : decode cX9_down 107 = .ok (.iload_n 3, 1) := by decide +kernel
theorem dX9_down_108 : decode cX9_down 108 = .ok (.iaload, 1) := by decide +kernel
theorem dX9_down_109 : decode cX9_down 109 = .ok (.aload_n 0, 1) := by decide +kernel
theorem dX9_down_110 : decode cX9_down 110 = .ok (.getfield 13, 3) := by decide +kernel
theorem dX9_down_113 : decode cX9_down 113 = .ok (.iconst 1, 1) := by decide +kernel
theorem dX9_down_114 : decode cX9_down 114 = .ok (.iaload, 1) := by decide +kernel
theorem dX9_down_115 : decode cX9_down 115 = .ok (.isub, 1) := by decide +kernel
theorem dX9_down_116 : decode cX9_down 116 = .ok (.invokestatic 298, 3) := by decide +kernel
theorem dX9_down_119 : decode cX9_down 119 = .ok (.iastore, 1) := by decide +kernel
theorem dX9_down_120 : decode cX9_down 120 = .ok (.iinc 3 1, 3) := by decide +kernel
theorem dX9_down_123 : decode cX9_down 123 = .ok (.goto (-53), 3) := by decide +kernel
theorem dX9_down_126 : decode cX9_down 126 = .ok (.aload_n 0, 1) := by decide +kernel
theorem dX9_down_127 : decode cX9_down 127 = .ok (.invokevirtual 343, 3) := by decide +kernel
theorem dX9_down_130 : decode cX9_down 130 = .ok (.iinc 1 1, 3) := by decide +kernel
theorem dX9_down_133 : decode cX9_down 133 = .ok (.goto (-113), 3) := by decide +kernel
theorem dX9_down_136 : decode cX9_down 136 = .ok (.aload_n 0, 1) := by decide +kernel
theorem dX9_down_137 : decode cX9_down 137 = .ok (.getfield 84, 3) := by decide +kernel
theorem dX9_down_140 : decode cX9_down 140 = .ok (.iconst 0, 1) := by decide +kernel
theorem dX9_down_141 : decode cX9_down 141 = .ok (.aload_n 0, 1) := by decide +kernel
theorem dX9_down_142 : decode cX9_down 142 = .ok (.getfield 81, 3) := by decide +kernel
theorem dX9_down_145 : decode cX9_down 145 = .ok (.iconst 0, 1) := by decide +kernel
theorem dX9_down_146 : decode cX9_down 146 = .ok (.invokestatic 381, 3) := by decide +kernel
theorem dX9_down_149 : decode cX9_down 149 = .ok (.iload_n 1, 1) := by decide +kernel
theorem dX9_down_150 : decode cX9_down 150 = .ok (.ireturn, 1) := by decide +kernel
theorem dX9_note_0 : decode cX9_note 0 = .ok (.aload_n 0, 1) := by decide +kernel
theorem dX9_note_1 : decode cX9_note 1 = .ok (.iconst 0, 1) := by decide +kernel
theorem dX9_note_2 : decode cX9_note 2 = .ok (.putfield 109, 3) := by decide +kernel
theorem dX9_note_5 : decode cX9_note 5 = .ok (.iload_n 1, 1) := by decide +kernel
theorem dX9_note_6 : decode cX9_note 6 = .ok (.iconst 0, 1) := by decide +kernel
theorem dX9_note_7 : decode cX9_note 7 = .ok (.sipush 9999, 3) := by decide +kernel
theorem dX9_note_10 : decode cX9_note 10 = .ok (.invokestatic 235, 3) := by decide +kernel
theorem dX9_note_13 : decode cX9_note 13 = .ok (.ifCond .eq 23, 3) := by decide +kernel
theorem dX9_note_16 : decode cX9_note 16 = .ok (.iload_n 2, 1) := by decide +kernel
theorem dX9_note_17 : decode cX9_note 17 = .ok (.iload_n 3, 1) := by decide +kernel
theorem dX9_note_18 : decode cX9_note 18 = .ok (.invokestatic 371, 3) := by decide +kernel
theorem dX9_note_21 : decode cX9_note 21 = .ok (.ifCond .eq 15, 3) := by decide +kernel
theorem dX9_note_24 : decode cX9_note 24 = .ok (.aload_n 0, 1) := by decide +kernel
theorem dX9_note_25 : decode cX9_note 25 = .ok (.getfield 81, 3) := by decide +kernel
theorem dX9_note_28 : decode cX9_note 28 = .ok (.bipush 20, 2) := by decide +kernel
theorem dX9_note_30 : decode cX9_note 30 = .ok (.iaload, 1) := by decide +kernel
theorem dX9_note_31 : decode cX9_note 31 = .ok (.bipush 10, 2) := by decide +kernel
theorem dX9_note_33 : decode cX9_note 33 = .ok (.if_icmp .ne 5, 3) := by decide +kernel
theorem dX9_note_36 : decode cX9_note 36 = .ok (.iconst (-1), 1) := by decide +kernel
theorem dX9_note_37 : decode cX9_note 37 = .ok (.ireturn, 1) := by decide +kernel
theorem dX9_note_38 : decode cX9_note 38 = .ok (.bipush 21, 2) := by decide +kernel
theorem dX9_note_40 : decode cX9_note 40 = .ok (.iconst 3, 1) := by decide +kernel
theorem dX9_note_41 : decode cX9_note 41 = .ok (.aload_n 0, 1) := by decide +kernel
theorem dX9_note_42 : decode cX9_note 42 = .ok (.getfield 81, 3) := by decide +kernel
theorem dX9_note_45 : decode cX9_note 45 = .ok (.bipush 20, 2) := by decide +kernel
theorem dX9_note_47 : decode cX9_note 47 = .ok (.iaload, 1) := by decide +kernel
theorem dX9_note_48 : decode cX9_note 48 = .ok (.imul, 1) := by decide +kernel
theorem dX9_note_49 : decode cX9_note 49 = .ok (.iadd, 1) := by decide +kernel
theorem dX9_note_50 : decode cX9_note 50 = .ok (.istore 4, 2) := by decide +kernel
theorem dX9_note_52 : decode cX9_note 52 = .ok (.aload_n 0, 1) := by decide +kernel
theorem dX9_note_53 : decode cX9_note 53 = .ok (.getfield 81, 3) := by decide +kernel
theorem dX9_note_56 : decode cX9_note 56 = .ok (.iload 4, 2) := by decide +kernel
theorem dX9_note_58 : decode cX9_note 58 = .ok (.iload_n 1, 1) := by decide +kernel
theorem dX9_note_59 : decode cX9_note 59 = .ok (.iastore, 1) := by decide +kernel
theorem dX9_note_60 : decode cX9_note 60 = .ok (.aload_n 0, 1) := by decide +kernel
theorem dX9_note_61 : decode cX9_note 61 = .ok (.getfield 81, 3) := by decide +kernel
theorem dX9_note_64 : decode cX9_note 64 = .ok (.iload 4, 2) := by decide +kernel
theorem dX9_note_66 : decode cX9_note 66 = .ok (.iconst 1, 1) := by decide +kernel
theorem dX9_note_67 : decode cX9_note 67 = .ok (.iadd, 1) := by decide +kernel
theorem dX9_note_68 : decode cX9_note 68 = .ok (.iload_n 2, 1) := by decide +kernel
theorem dX9_note_69 : decode cX9_note 69 = .ok (.iastore, 1) := by decide +kernel
theorem dX9_note_70 : decode cX9_note 70 = .ok (.aload_n 0, 1) := by decide +kernel
theorem dX9_note_71 : decode cX9_note 71 = .ok (.getfield 81, 3) := by decide +kernel
theorem dX9_note_74 : decode cX9_note 74 = .ok (.iload 4, 2) := by decide +kernel
theorem dX9_note_76 : decode cX9_note 76 = .ok (.iconst 2, 1) := by decide +kernel
theorem dX9_note_77 : decode cX9_note 77 = .ok (.iadd, 1) := by decide +kernel
theorem dX9_note_78 : decode cX9_note 78 = .ok (.iload_n 3, 1) := by decide +kernel
theorem dX9_note_79 : decode cX9_note 79 = .ok (.iastore, 1) := by decide +kernel
theorem dX9_note_80 : decode cX9_note 80 = .ok (.aload_n 0, 1) := by decide +kernel
theorem dX9_note_81 : decode cX9_note 81 = .ok (.getfield 81, 3) := by decide +kernel
theorem dX9_note_84 : decode cX9_note 84 = .ok (.bipush 20, 2) := by decide +kernel
theorem dX9_note_86 : decode cX9_note 86 = .ok (.dup2, 1) := by decide +kernel
theorem dX9_note_87 : decode cX9_note 87 = .ok (.iaload, 1) := by decide +kernel
theorem dX9_note_88 : decode cX9_note 88 = .ok (.iconst 1, 1) := by decide +kernel
theorem dX9_note_89 : decode cX9_note 89 = .ok (.iadd, 1) := by decide +kernel
theorem dX9_note_90 : decode cX9_note 90 = .ok (.iastore, 1) := by decide +kernel
theorem dX9_note_91 : decode cX9_note 91 = .ok (.aload_n 0, 1) := by decide +kernel
theorem dX9_note_92 : decode cX9_note 92 = .ok (.getfield 81, 3) := by decide +kernel
theorem dX9_note_95 : decode cX9_note 95 = .ok (.bipush 20, 2) := by decide +kernel
theorem dX9_note_97 : decode cX9_note 97 = .ok (.iaload, 1) := by decide +kernel
theorem dX9_note_98 : decode cX9_note 98 = .ok (.ireturn, 1) := by decide +kernel
theorem dX9_clear_0 : decode cX9_clear 0 = .ok (.aload_n 0, 1) := by decide +kernel
theorem dX9_clear_1 : decode cX9_clear 1 = .ok (.iconst 0, 1) := by decide +kernel
theorem dX9_clear_2 : decode cX9_clear 2 = .ok (.putfield 109, 3) := by decide +kernel
theorem dX9_clear_5 : decode cX9_clear 5 = .ok (.aload_n 0, 1) := by decide +kernel
theorem dX9_clear_6 : decode cX9_clear 6 = .ok (.getfield 81, 3) := by decide +kernel
theorem dX9_clear_9 : decode cX9_clear 9 = .ok (.bipush 20, 2) := by decide +kernel
theorem dX9_clear_11 : decode cX9_clear 11 = .ok (.iconst 0, 1) := by decide +kernel
theorem dX9_clear_12 : decode cX9_clear 12 = .ok (.iastore, 1) := by decide +kernel
theorem dX9_clear_13 : decode cX9_clear 13 = .ok (.iconst 1, 1) := by decide +kernel
theorem dX9_clear_14 : decode cX9_clear 14 = .ok (.ireturn, 1) := by decide +kernel
theorem dX9_isSo_0 : decode cX9_isSo 0 = .ok (.aload_n 0, 1) := by decide +kernel
theorem dX9_isSo_1 : decode cX9_isSo 1 = .ok (.getfield 81, 3) := by decide +kernel
theorem dX9_isSo_4 : decode cX9_isSo 4 = .ok (.bipush 18, 2) := by decide +kernel
theorem dX9_isSo_6 : decode cX9_isSo 6 = .ok (.iaload, 1) := by decide +kernel
theorem dX9_isSo_7 : decode cX9_isSo 7 = .ok (.istore_n 2, 1) := by decide +kernel
theorem dX9_isSo_8 : decode cX9_isSo 8 = .ok (.aload_n 0, 1) := by decide +kernel
theorem dX9_isSo_9 : decode cX9_isSo 9 = .ok (.getfield 81, 3) := by decide +kernel
theorem dX9_isSo_12 : decode cX9_isSo 12 = .ok (.bipush 18, 2) := by decide +kernel
theorem dX9_isSo_14 : decode cX9_isSo 14 = .ok (.iload_n 1, 1) := by decide +kernel
theorem dX9_isSo_15 : decode cX9_isSo 15 = .ok (.iastore, 1) := by decide +kernel
theorem dX9_isSo_16 : decode cX9_isSo 16 = .ok (.iconst 1, 1) := by decide +kernel
theorem dX9_isSo_17 : decode cX9_isSo 17 = .ok (.istore_n 3, 1) := by decide +kernel
theorem dX9_isSo_18 : decode cX9_isSo 18 = .ok (.iconst 0, 1) := by decide +kernel
theorem dX9_isSo_19 : decode cX9_isSo 19 = .ok (.istore 4, 2) := by decide +kernel
theorem dX9_isSo_21 : decode cX9_isSo 21 = .ok (.iload 4, 2) := by decide +kernel
theorem dX9_isSo_23 : decode cX9_isSo 23 = .ok (.aload_n 0, 1) := by decide +kernel
theorem dX9_isSo_24 : decode cX9_isSo 24 = .ok (.getfield 81, 3) := by decide +kernel
theorem dX9_isSo_27 : decode cX9_isSo 27 = .ok (.bipush 20, 2) := by decide +kernel
theorem dX9_isSo_29 : decode cX9_isSo 29 = .ok (.iaload, 1) := by decide +kernel
theorem dX9_isSo_30 : decode cX9_isSo 30 = .ok (.if_icmp .ge 78, 3) := by decide +kernel
theorem dX9_isSo_33 : decode cX9_isSo 33 = .ok (.iload_n 3, 1) := by decide +kernel
theorem dX9_isSo_34 : decode cX9_isSo 34 = .ok (.ifCond .eq 74, 3) := by decide +kernel
theorem dX9_isSo_37 : decode cX9_isSo 37 = .ok (.aload_n 0, 1) := by decide +kernel
theorem dX9_isSo_38 : decode cX9_isSo 38 = .ok (.aload_n 0, 1) := by decide +kernel
theorem dX9_isSo_39 : decode cX9_isSo 39 = .ok (.getfield 81, 3) := by decide +kernel
theorem dX9_isSo_42 : decode cX9_isSo 42 = .ok (.bipush 21, 2) := by decide +kernel
theorem dX9_isSo_44 : decode cX9_isSo 44 = .ok (.iconst 3, 1) := by decide +kernel
theorem dX9_isSo_45 : decode cX9_isSo 45 = .ok (.iload 4, 2) := by decide +kernel
theorem dX9_isSo_47 : decode cX9_isSo 47 = .ok (.imul, 1) := by decide +kernel
theorem dX9_isSo_48 : decode cX9_isSo 48 = .ok (.iadd, 1) := by decide +kernel
theorem dX9_isSo_49 : decode cX9_isSo 49 = .ok (.iaload, 1) := by decide +kernel
theorem dX9_isSo_50 : decode cX9_isSo 50 = .ok (.iconst 0, 1) := by decide +kernel
theorem dX9_isSo_51 : decode cX9_isSo 51 = .ok (.invokevirtual 325, 3) := by decide +kernel
theorem dX9_isSo_54 : decode cX9_isSo 54 = .ok (.aload_n 0, 1) := by decide +kernel
theorem dX9_isSo_55 : decode cX9_isSo 55 = .ok (.getfield 316, 3) := by decide +kernel
theorem dX9_isSo_58 : decode cX9_isSo 58 = .ok (.aload_n 0, 1) := by decide +kernel
theorem dX9_isSo_59 : decode cX9_isSo 59 = .ok (.getfield 81, 3) := by decide +kernel
theorem dX9_isSo_62 : decode cX9_isSo 62 = .ok (.bipush 21, 2) := by decide +kernel
theorem dX9_isSo_64 : decode cX9_isSo 64 = .ok (.iconst 3, 1) := by decide +kernel
theorem dX9_isSo_65 : decode cX9_isSo 65 = .ok (.iload 4, 2) := by decide +kernel
theorem dX9_isSo_67 : decode cX9_isSo 67 = .ok (.imul, 1) := by decide +kernel
theorem dX9_isSo_68 : decode cX9_isSo 68 = .ok (.iadd, 1) := by decide +kernel
theorem dX9_isSo_69 : decode cX9_isSo 69 = .ok (.iconst 1, 1) := by decide +kernel
theorem dX9_isSo_70 : decode cX9_isSo 70 = .ok (.iadd, 1) := by decide +kernel
theorem dX9_isSo_71 : decode cX9_isSo 71 = .ok (.iaload, 1) := by decide +kernel
theorem dX9_isSo_72 : decode cX9_isSo 72 = .ok (.if_icmp .ne 28, 3) := by decide +kernel
theorem dX9_isSo_75 : decode cX9_isSo 75 = .ok (.aload_n 0, 1) := by decide +kernel
theorem dX9_isSo_76 : decode cX9_isSo 76 = .ok (.getfield 313, 3) := by decide +kernel
theorem dX9_isSo_79 : decode cX9_isSo 79 = .ok (.aload_n 0, 1) := by decide +kernel
theorem dX9_isSo_80 : decode cX9_isSo 80 = .ok (.getfield 81, 3) := by decide +kernel
theorem dX9_isSo_83 : decode cX9_isSo 83 = .ok (.bipush 21, 2) := by decide +kernel
theorem dX9_isSo_85 : decode cX9_isSo 85 = .ok (.iconst 3, 1) := by decide +kernel
theorem dX9_isSo_86 : decode cX9_isSo 86 = .ok (.iload 4, 2) := by decide +kernel
theorem dX9_isSo_88 : decode cX9_isSo 88 = .ok (.imul, 1) := by decide +kernel
theorem dX9_isSo_89 : decode cX9_isSo 89 = .ok (.iadd, 1) := by decide +kernel
theorem dX9_isSo_90 : decode cX9_isSo 90 = .ok (.iconst 2, 1) := by decide +kernel
theorem dX9_isSo_91 : decode cX9_isSo 91 = .ok (.iadd, 1) := by decide +kernel
theorem dX9_isSo_92 : decode cX9_isSo 92 = .ok (.iaload, 1) := by decide +kernel
theorem dX9_isSo_93 : decode cX9_isSo 93 = .ok (.if_icmp .ne 7, 3) := by decide +kernel
theorem dX9_isSo_96 : decode cX9_isSo 96 = .ok (.iconst 1, 1) := by decide +kernel
theorem dX9_isSo_97 : decode cX9_isSo 97 = .ok (.goto 4, 3) := by decide +kernel
theorem dX9_isSo_100 : decode cX9_isSo 100 = .ok (.iconst 0, 1) := by decide +kernel
theorem dX9_isSo_101 : decode cX9_isSo 101 = .ok (.istore_n 3, 1) := by decide +kernel
theorem dX9_isSo_102 : decode cX9_isSo 102 = .ok (.iinc 4 1, 3) := by decide +kernel
theorem dX9_isSo_105 : decode cX9_isSo 105 = .ok (.goto (-84), 3) := by decide +kernel
theorem dX9_isSo_108 : decode cX9_isSo 108 = .ok (.aload_n 0, 1) := by decide +kernel
theorem dX9_isSo_109 : decode cX9_isSo 109 = .ok (.getfield 81, 3) := by decide +kernel
theorem dX9_isSo_112 : decode cX9_isSo 112 = .ok (.bipush 18, 2) := by decide +kernel
theorem dX9_isSo_114 : decode cX9_isSo 114 = .ok (.iload_n 2, 1) := by decide +kernel
theorem dX9_isSo_115 : decode cX9_isSo 115 = .ok (.iastore, 1) := by decide +kernel
theorem dX9_isSo_116 : decode cX9_isSo 116 = .ok (.iload_n 3, 1) := by decide +kernel
theorem dX9_isSo_117 : decode cX9_isSo 117 = .ok (.ireturn, 1) := by decide +kernel
theorem dX9_fits_0 : decode cX9_fits 0 = .ok (.aload_n 0, 1) := by decide +kernel
theorem dX9_fits_1 : decode cX9_fits 1 = .ok (.iconst 0, 1) := by decide +kernel
theorem dX9_fits_2 : decode cX9_fits 2 = .ok (.putfield 109, 3) := by decide +kernel
theorem dX9_fits_5 : decode cX9_fits 5 = .ok (.iconst 0, 1) := by decide +kernel
theorem dX9_fits_6 : decode cX9_fits 6 = .ok (.istore_n 1, 1) := by decide +kernel
theorem dX9_fits_7 : decode cX9_fits 7 = .ok (.iconst 0, 1) := by decide +kernel
theorem dX9_fits_8 : decode cX9_fits 8 = .ok (.istore_n 2, 1) := by decide +kernel
theorem dX9_fits_9 : decode cX9_fits 9 = .ok (.iload_n 2, 1) := by decide +kernel
theorem dX9_fits_10 : decode cX9_fits 10 = .ok (.iconst 1, 1) := by decide +kernel
theorem dX9_fits_11 : decode cX9_fits 11 = .ok (.aload_n 0, 1) := by decide +kernel
theorem dX9_fits_12 : decode cX9_fits 12 = .ok (.getfield 13, 3) := by decide +kernel
theorem dX9_fits_15 : decode cX9_fits 15 = .ok (.iconst 4, 1) := by decide +kernel
theorem dX9_fits_16 : decode cX9_fits 16 = .ok (.iaload, 1) := by decide +kernel
theorem dX9_fits_17 : decode cX9_fits 17 = .ok (.ishl, 1) := by decide +kernel
theorem dX9_fits_18 : decode cX9_fits 18 = .ok (.if_icmp .ge 25, 3) := by decide +kernel
theorem dX9_fits_21 : decode cX9_fits 21 = .ok (.iload_n 1, 1) := by decide +kernel
theorem dX9_fits_22 : decode cX9_fits 22 = .ok (.aload_n 0, 1) := by decide +kernel
theorem dX9_fits_23 : decode cX9_fits 23 = .ok (.iload_n 2, 1) := by decide +kernel
theorem dX9_fits_24 : decode cX9_fits 24 = .ok (.invokevirtual 398, 3) := by decide +kernel
theorem dX9_fits_27 : decode cX9_fits 27 = .ok (.ifCond .eq 7, 3) := by decide +kernel
theorem dX9_fits_30 : decode cX9_fits 30 = .ok (.iconst 1, 1) := by decide +kernel
theorem dX9_fits_31 : decode cX9_fits 31 = .ok (.goto 4, 3) := by decide +kernel
theorem dX9_fits_34 : decode cX9_fits 34 = .ok (.iconst 0, 1) := by decide +kernel
theorem dX9_fits_35 : decode cX9_fits 35 = .ok (.iadd, 1) := by decide +kernel
theorem dX9_fits_36 : decode cX9_fits 36 = .ok (.istore_n 1, 1) := by decide +kernel
theorem dX9_fits_37 : decode cX9_fits 37 = .ok (.iinc 2 1, 3) := by decide +kernel
theorem dX9_fits_40 : decode cX9_fits 40 = .ok (.goto (-31), 3) := by decide +kernel
theorem dX9_fits_43 : decode cX9_fits 43 = .ok (.iload_n 1, 1) := by decide +kernel
theorem dX9_fits_44 : decode cX9_fits 44 = .ok (.ireturn, 1) := by decide +kernel
theorem dX9_fit_0 : decode cX9_fit 0 = .ok (.aload_n 0, 1) := by decide +kernel
theorem dX9_fit_1 : decode cX9_fit 1 = .ok (.iconst 0, 1) := by decide +kernel
theorem dX9_fit_2 : decode cX9_fit 2 = .ok (.putfield 109, 3) := by decide +kernel
theorem dX9_fit_5 : decode cX9_fit 5 = .ok (.iconst 0, 1) := by decide +kernel
theorem dX9_fit_6 : decode cX9_fit 6 = .ok (.istore_n 2, 1) := by decide +kernel
theorem dX9_fit_7 : decode cX9_fit 7 = .ok (.iconst 0, 1) := by decide +kernel
theorem dX9_fit_8 : decode cX9_fit 8 = .ok (.istore_n 3, 1) := by decide +kernel
theorem dX9_fit_9 : decode cX9_fit 9 = .ok (.iload_n 3, 1) := by decide +kernel
theorem dX9_fit_10 : decode cX9_fit 10 = .ok (.iconst 1, 1) := by decide +kernel
theorem dX9_fit_11 : decode cX9_fit 11 = .ok (.aload_n 0, 1) := by decide +kernel
theorem dX9_fit_12 : decode cX9_fit 12 = .ok (.getfield 13, 3) := by decide +kernel
theorem dX9_fit_15 : decode cX9_fit 15 = .ok (.iconst 4, 1) := by decide +kernel
theorem dX9_fit_16 : decode cX9_fit 16 = .ok (.iaload, 1) := by decide +kernel
theorem dX9_fit_17 : decode cX9_fit 17 = .ok (.ishl, 1) := by decide +kernel
theorem dX9_fit_18 : decode cX9_fit 18 = .ok (.if_icmp .ge 30, 3) := by decide +kernel
theorem dX9_fit_21 : decode cX9_fit 21 = .ok (.aload_n 0, 1) := by decide +kernel
theorem dX9_fit_22 : decode cX9_fit 22 = .ok (.iload_n 3, 1) := by decide +kernel
theorem dX9_fit_23 : decode cX9_fit 23 = .ok (.invokevirtual 398, 3) := by decide +kernel
theorem dX9_fit_26 : decode cX9_fit 26 = .ok (.ifCond .ne 6, 3) := by decide +kernel
theorem dX9_fit_29 : decode cX9_fit 29 = .ok (.goto 13, 3) := by decide +kernel
theorem dX9_fit_32 : decode cX9_fit 32 = .ok (.iload_n 2, 1) := by decide +kernel
theorem dX9_fit_33 : decode cX9_fit 33 = .ok (.iload_n 1, 1) := by decide +kernel
theorem dX9_fit_34 : decode cX9_fit 34 = .ok (.if_icmp .ne 5, 3) := by decide +kernel
theorem dX9_fit_37 : decode cX9_fit 37 = .ok (.iload_n 3, 1) := by decide +kernel
theorem dX9_fit_38 : decode cX9_fit 38 = .ok (.ireturn, 1) := by decide +kernel
theorem dX9_fit_39 : decode cX9_fit 39 = .ok (.iinc 2 1, 3) := by decide +kernel
theorem dX9_fit_42 : decode cX9_fit 42 = .ok (.iinc 3 1, 3) := by decide +kernel
theorem dX9_fit_45 : decode cX9_fit 45 = .ok (.goto (-36), 3) := by decide +kernel
theorem dX9_fit_48 : decode cX9_fit 48 = .ok (.iconst (-1), 1) := by decide +kernel
theorem dX9_fit_49 : decode cX9_fit 49 = .ok (.ireturn, 1) := by decide +kernel
theorem dX9_draws_0 : decode cX9_draws 0 = .ok (.aload_n 0, 1) := by decide +kernel
theorem dX9_draws_1 : decode cX9_draws 1 = .ok (.aload_n 0, 1) := by decide +kernel
theorem dX9_draws_2 : decode cX9_draws 2 = .ok (.getfield 401, 3) := by decide +kernel
theorem dX9_draws_5 : decode cX9_draws 5 = .ok (.ldc2_w 404, 3) := by decide +kernel
theorem dX9_draws_8 : decode cX9_draws 8 = .ok (.lmul, 1) := by decide +kernel
theorem dX9_draws_9 : decode cX9_draws 9 = .ok (.ldc2_w 406, 3) := by decide +kernel
theorem dX9_draws_12 : decode cX9_draws 12 = .ok (.ladd, 1) := by decide +kernel
theorem dX9_draws_13 : decode cX9_draws 13 = .ok (.ldc2_w 408, 3) := by decide +kernel
theorem dX9_draws_16 : decode cX9_draws 16 = .ok (.lrem, 1) := by decide +kernel
theorem dX9_draws_17 : decode cX9_draws 17 = .ok (.putfield 401, 3) := by decide +kernel
theorem dX9_draws_20 : decode cX9_draws 20 = .ok (.aload_n 0, 1) := by decide +kernel
theorem dX9_draws_21 : decode cX9_draws 21 = .ok (.getfield 401, 3) := by decide +kernel
theorem dX9_draws_24 : decode cX9_draws 24 = .ok (.ldc2_w 410, 3) := by decide +kernel
theorem dX9_draws_27 : decode cX9_draws 27 = .ok (.ldiv, 1) := by decide +kernel
theorem dX9_draws_28 : decode cX9_draws 28 = .ok (.iload_n 1, 1) := by decide +kernel
theorem dX9_draws_29 : decode cX9_draws 29 = .ok (.i2l, 1) := by decide +kernel
theorem dX9_draws_30 : decode cX9_draws 30 = .ok (.lrem, 1) := by decide +kernel
theorem dX9_draws_31 : decode cX9_draws 31 = .ok (.l2i, 1) := by decide +kernel
theorem dX9_draws_32 : decode cX9_draws 32 = .ok (.ireturn, 1) := by decide +kernel
theorem dX9_lots_0 : decode cX9_lots 0 = .ok (.aload_n 0, 1) := by decide +kernel
theorem dX9_lots_1 : decode cX9_lots 1 = .ok (.iconst 0, 1) := by decide +kernel
theorem dX9_lots_2 : decode cX9_lots 2 = .ok (.putfield 109, 3) := by decide +kernel
theorem dX9_lots_5 : decode cX9_lots 5 = .ok (.iload_n 1, 1) := by decide +kernel
theorem dX9_lots_6 : decode cX9_lots 6 = .ok (.iconst 0, 1) := by decide +kernel
theorem dX9_lots_7 : decode cX9_lots 7 = .ok (.sipush 9999, 3) := by decide +kernel
theorem dX9_lots_10 : decode cX9_lots 10 = .ok (.invokestatic 235, 3) := by decide +kernel
theorem dX9_lots_13 : decode cX9_lots 13 = .ok (.ifCond .eq 41, 3) := by decide +kernel
theorem dX9_lots_16 : decode cX9_lots 16 = .ok (.iload_n 2, 1) := by decide +kernel
theorem dX9_lots_17 : decode cX9_lots 17 = .ok (.iconst 1, 1) := by decide +kernel
theorem dX9_lots_18 : decode cX9_lots 18 = .ok (.bipush 20, 2) := by decide +kernel
theorem dX9_lots_20 : decode cX9_lots 20 = .ok (.invokestatic 235, 3) := by decide +kernel
theorem dX9_lots_23 : decode cX9_lots 23 = .ok (.ifCond .eq 31, 3) := by decide +kernel
theorem dX9_lots_26 : decode cX9_lots 26 = .ok (.iload_n 3, 1) := by decide +kernel
theorem dX9_lots_27 : decode cX9_lots 27 = .ok (.iconst 1, 1) := by decide +kernel
theorem dX9_lots_28 : decode cX9_lots 28 = .ok (.bipush 60, 2) := by decide +kernel
theorem dX9_lots_30 : decode cX9_lots 30 = .ok (.invokestatic 235, 3) := by decide +kernel
theorem dX9_lots_33 : decode cX9_lots 33 = .ok (.ifCond .eq 21, 3) := by decide +kernel
theorem dX9_lots_36 : decode cX9_lots 36 = .ok (.iload 4, 2) := by decide +kernel
theorem dX9_lots_38 : decode cX9_lots 38 = .ok (.invokestatic 334, 3) := by decide +kernel
theorem dX9_lots_41 : decode cX9_lots 41 = .ok (.ifCond .eq 13, 3) := by decide +kernel
theorem dX9_lots_44 : decode cX9_lots 44 = .ok (.iload 5, 2) := by decide +kernel
theorem dX9_lots_46 : decode cX9_lots 46 = .ok (.iconst 0, 1) := by decide +kernel
theorem dX9_lots_47 : decode cX9_lots 47 = .ok (.iconst 1, 1) := by decide +kernel
theorem dX9_lots_48 : decode cX9_lots 48 = .ok (.invokestatic 235, 3) := by decide +kernel
theorem dX9_lots_51 : decode cX9_lots 51 = .ok (.ifCond .ne 5, 3) := by decide +kernel
theorem dX9_lots_54 : decode cX9_lots 54 = .ok (.iconst (-1), 1) := by decide +kernel
theorem dX9_lots_55 : decode cX9_lots 55 = .ok (.ireturn, 1) := by decide +kernel
theorem dX9_lots_56 : decode cX9_lots 56 = .ok (.aload_n 0, 1) := by decide +kernel
theorem dX9_lots_57 : decode cX9_lots 57 = .ok (.iload_n 1, 1) := by decide +kernel
theorem dX9_lots_58 : decode cX9_lots 58 = .ok (.i2l, 1) := by decide +kernel
theorem dX9_lots_59 : decode cX9_lots 59 = .ok (.putfield 401, 3) := by decide +kernel
theorem dX9_lots_62 : decode cX9_lots 62 = .ok (.aload_n 0, 1) := by decide +kernel
theorem dX9_lots_63 : decode cX9_lots 63 = .ok (.getfield 81, 3) := by decide +kernel
theorem dX9_lots_66 : decode cX9_lots 66 = .ok (.iconst 0, 1) := by decide +kernel
theorem dX9_lots_67 : decode cX9_lots 67 = .ok (.aload_n 0, 1) := by decide +kernel
theorem dX9_lots_68 : decode cX9_lots 68 = .ok (.getfield 84, 3) := by decide +kernel
theorem dX9_lots_71 : decode cX9_lots 71 = .ok (.iconst 0, 1) := by decide +kernel
theorem dX9_lots_72 : decode cX9_lots 72 = .ok (.invokestatic 381, 3) := by decide +kernel
theorem dX9_lots_75 : decode cX9_lots 75 = .ok (.iconst 0, 1) := by decide +kernel
theorem dX9_lots_76 : decode cX9_lots 76 = .ok (.istore 6, 2) := by decide +kernel
theorem dX9_lots_78 : decode cX9_lots 78 = .ok (.bipush 40, 2) := by decide +kernel
theorem dX9_lots_80 : decode cX9_lots 80 = .ok (.istore 7, 2) := by decide +kernel
theorem dX9_lots_82 : decode cX9_lots 82 = .ok (.iconst 0, 1) := by decide +kernel
theorem dX9_lots_83 : decode cX9_lots 83 = .ok (.istore 8, 2) := by decide +kernel
theorem dX9_lots_85 : decode cX9_lots 85 = .ok (.iload 8, 2) := by decide +kernel
theorem dX9_lots_87 : decode cX9_lots 87 = .ok (.iload_n 2, 1) := by decide +kernel
theorem dX9_lots_88 : decode cX9_lots 88 = .ok (.if_icmp .ge 100, 3) := by decide +kernel
theorem dX9_lots_91 : decode cX9_lots 91 = .ok (.iconst 0, 1) := by decide +kernel
theorem dX9_lots_92 : decode cX9_lots 92 = .ok (.istore 9, 2) := by decide +kernel
theorem dX9_lots_94 : decode cX9_lots 94 = .ok (.iload 9, 2) := by decide +kernel
theorem dX9_lots_96 : decode cX9_lots 96 = .ok (.iload_n 3, 1) := by decide +kernel
theorem dX9_lots_97 : decode cX9_lots 97 = .ok (.if_icmp .ge 72, 3) := by decide +kernel
theorem dX9_lots_100 : decode cX9_lots 100 = .ok (.aload_n 0, 1) := by decide +kernel
theorem dX9_lots_101 : decode cX9_lots 101 = .ok (.aload_n 0, 1) := by decide +kernel
theorem dX9_lots_102 : decode cX9_lots 102 = .ok (.getfield 13, 3) := by decide +kernel
theorem dX9_lots_105 : decode cX9_lots 105 = .ok (.iconst 3, 1) := by decide +kernel
theorem dX9_lots_106 : decode cX9_lots 106 = .ok (.iaload, 1) := by decide +kernel
theorem dX9_lots_107 : decode cX9_lots 107 = .ok (.iconst 1, 1) := by decide +kernel
theorem dX9_lots_108 : decode cX9_lots 108 = .ok (.iadd, 1) := by decide +kernel
theorem dX9_lots_109 : decode cX9_lots 109 = .ok (.invokevirtual 412, 3) := by decide +kernel
theorem dX9_lots_112 : decode cX9_lots 112 = .ok (.istore 10, 2) := by decide +kernel
theorem dX9_lots_114 : decode cX9_lots 114 = .ok (.aload_n 0, 1) := by decide +kernel
theorem dX9_lots_115 : decode cX9_lots 115 = .ok (.aload_n 0, 1) := by decide +kernel
theorem dX9_lots_116 : decode cX9_lots 116 = .ok (.getfield 81, 3) := by decide +kernel
theorem dX9_lots_119 : decode cX9_lots 119 = .ok (.bipush 19, 2) := by decide +kernel
theorem dX9_lots_121 : decode cX9_lots 121 = .ok (.iaload, 1) := by decide +kernel
theorem dX9_lots_122 : decode cX9_lots 122 = .ok (.iload 10, 2) := by decide +kernel
theorem dX9_lots_124 : decode cX9_lots 124 = .ok (.invokevirtual 325, 3) := by decide +kernel
theorem dX9_lots_127 : decode cX9_lots 127 = .ok (.iload 6, 2) := by decide +kernel
theorem dX9_lots_129 : decode cX9_lots 129 = .ok (.aload_n 0, 1) := by decide +kernel
theorem dX9_lots_130 : decode cX9_lots 130 = .ok (.getfield 313, 3) := by decide +kernel
theorem dX9_lots_133 : decode cX9_lots 133 = .ok (.iload 4, 2) := by decide +kernel
theorem dX9_lots_135 : decode cX9_lots 135 = .ok (.if_icmp .lt 7, 3) := by decide +kernel
theorem dX9_lots_138 : decode cX9_lots 138 = .ok (.iconst 1, 1) := by decide +kernel
theorem dX9_lots_139 : decode cX9_lots 139 = .ok (.goto 4, 3) := by decide +kernel
theorem dX9_lots_142 : decode cX9_lots 142 = .ok (.iconst 0, 1) := by decide +kernel
theorem dX9_lots_143 : decode cX9_lots 143 = .ok (.iadd, 1) := by decide +kernel
theorem dX9_lots_144 : decode cX9_lots 144 = .ok (.istore 6, 2) := by decide +kernel
theorem dX9_lots_146 : decode cX9_lots 146 = .ok (.iload 7, 2) := by decide +kernel
theorem dX9_lots_148 : decode cX9_lots 148 = .ok (.aload_n 0, 1) := by decide +kernel
theorem dX9_lots_149 : decode cX9_lots 149 = .ok (.getfield 313, 3) := by decide +kernel
theorem dX9_lots_152 : decode cX9_lots 152 = .ok (.invokestatic 378, 3) := by decide +kernel
theorem dX9_lots_155 : decode cX9_lots 155 = .ok (.istore 7, 2) := by decide +kernel
theorem dX9_lots_157 : decode cX9_lots 157 = .ok (.aload_n 0, 1) := by decide +kernel
theorem dX9_lots_158 : decode cX9_lots 158 = .ok (.iload 10, 2) := by decide +kernel
theorem dX9_lots_160 : decode cX9_lots 160 = .ok (.invokevirtual 346, 3) := by decide +kernel
theorem dX9_lots_163 : decode cX9_lots 163 = .ok (.iinc 9 1, 3) := by decide +kernel
theorem dX9_lots_166 : decode cX9_lots 166 = .ok (.goto (-72), 3) := by decide +kernel
theorem dX9_lots_169 : decode cX9_lots 169 = .ok (.aload_n 0, 1) := by decide +kernel
theorem dX9_lots_170 : decode cX9_lots 170 = .ok (.getfield 84, 3) := by decide +kernel
theorem dX9_lots_173 : decode cX9_lots 173 = .ok (.iconst 0, 1) := by decide +kernel
theorem dX9_lots_174 : decode cX9_lots 174 = .ok (.aload_n 0, 1) := by decide +kernel
theorem dX9_lots_175 : decode cX9_lots 175 = .ok (.getfield 81, 3) := by decide +kernel
theorem dX9_lots_178 : decode cX9_lots 178 = .ok (.iconst 0, 1) := by decide +kernel
theorem dX9_lots_179 : decode cX9_lots 179 = .ok (.invokestatic 381, 3) := by decide +kernel
theorem dX9_lots_182 : decode cX9_lots 182 = .ok (.iinc 8 1, 3) := by decide +kernel
theorem dX9_lots_185 : decode cX9_lots 185 = .ok (.goto (-100), 3) := by decide +kernel
theorem dX9_lots_188 : decode cX9_lots 188 = .ok (.iload 5, 2) := by decide +kernel
theorem dX9_lots_190 : decode cX9_lots 190 = .ok (.ifCond .ne 8, 3) := by decide +kernel
theorem dX9_lots_193 : decode cX9_lots 193 = .ok (.iload 6, 2) := by decide +kernel
theorem dX9_lots_195 : decode cX9_lots 195 = .ok (.goto 5, 3) := by decide +kernel
theorem dX9_lots_198 : decode cX9_lots 198 = .ok (.iload 7, 2) := by decide +kernel
theorem dX9_lots_200 : decode cX9_lots 200 = .ok (.ireturn, 1) := by decide +kernel
theorem dX9_mark_0 : decode cX9_mark 0 = .ok (.aload_n 0, 1) := by decide +kernel
theorem dX9_mark_1 : decode cX9_mark 1 = .ok (.iconst 0, 1) := by decide +kernel
theorem dX9_mark_2 : decode cX9_mark 2 = .ok (.putfield 109, 3) := by decide +kernel
theorem dX9_mark_5 : decode cX9_mark 5 = .ok (.iload_n 1, 1) := by decide +kernel
theorem dX9_mark_6 : decode cX9_mark 6 = .ok (.iconst 0, 1) := by decide +kernel
theorem dX9_mark_7 : decode cX9_mark 7 = .ok (.iconst 3, 1) := by decide +kernel
theorem dX9_mark_8 : decode cX9_mark 8 = .ok (.invokestatic 235, 3) := by decide +kernel
theorem dX9_mark_11 : decode cX9_mark 11 = .ok (.ifCond .eq 16, 3) := by decide +kernel
theorem dX9_mark_14 : decode cX9_mark 14 = .ok (.iload_n 2, 1) := by decide +kernel
theorem dX9_mark_15 : decode cX9_mark 15 = .ok (.ifCond .eq 14, 3) := by decide +kernel
theorem dX9_mark_18 : decode cX9_mark 18 = .ok (.aload_n 0, 1) := by decide +kernel
theorem dX9_mark_19 : decode cX9_mark 19 = .ok (.getfield 102, 3) := by decide +kernel
theorem dX9_mark_22 : decode cX9_mark 22 = .ok (.iload_n 1, 1) := by decide +kernel
theorem dX9_mark_23 : decode cX9_mark 23 = .ok (.baload, 1) := by decide +kernel
theorem dX9_mark_24 : decode cX9_mark 24 = .ok (.ifCond .ne 5, 3) := by decide +kernel
theorem dX9_mark_27 : decode cX9_mark 27 = .ok (.iconst 0, 1) := by decide +kernel
theorem dX9_mark_28 : decode cX9_mark 28 = .ok (.ireturn, 1) := by decide +kernel
theorem dX9_mark_29 : decode cX9_mark 29 = .ok (.aload_n 0, 1) := by decide +kernel
theorem dX9_mark_30 : decode cX9_mark 30 = .ok (.getfield 102, 3) := by decide +kernel
theorem dX9_mark_33 : decode cX9_mark 33 = .ok (.iload_n 1, 1) := by decide +kernel
theorem dX9_mark_34 : decode cX9_mark 34 = .ok (.iconst 1, 1) := by decide +kernel
theorem dX9_mark_35 : decode cX9_mark 35 = .ok (.bastore, 1) := by decide +kernel
theorem dX9_mark_36 : decode cX9_mark 36 = .ok (.iload_n 2, 1) := by decide +kernel
theorem dX9_mark_37 : decode cX9_mark 37 = .ok (.ifCond .eq 29, 3) := by decide +kernel
theorem dX9_mark_40 : decode cX9_mark 40 = .ok (.aload_n 0, 1) := by decide +kernel
theorem dX9_mark_41 : decode cX9_mark 41 = .ok (.iconst 2, 1) := by decide +kernel
theorem dX9_mark_42 : decode cX9_mark 42 = .ok (.iload_n 1, 1) := by decide +kernel
theorem dX9_mark_43 : decode cX9_mark 43 = .ok (.iadd, 1) := by decide +kernel
theorem dX9_mark_44 : decode cX9_mark 44 = .ok (.iconst 0, 1) := by decide +kernel
theorem dX9_mark_45 : decode cX9_mark 45 = .ok (.invokevirtual 281, 3) := by decide +kernel
theorem dX9_mark_48 : decode cX9_mark 48 = .ok (.aload_n 0, 1) := by decide +kernel
theorem dX9_mark_49 : decode cX9_mark 49 = .ok (.getfield 87, 3) := by decide +kernel
theorem dX9_mark_52 : decode cX9_mark 52 = .ok (.bipush 64, 2) := by decide +kernel
theorem dX9_mark_54 : decode cX9_mark 54 = .ok (.iload_n 1, 1) := by decide +kernel
theorem dX9_mark_55 : decode cX9_mark 55 = .ok (.imul, 1) := by decide +kernel
theorem dX9_mark_56 : decode cX9_mark 56 = .ok (.aload_n 0, 1) := by decide +kernel
theorem dX9_mark_57 : decode cX9_mark 57 = .ok (.getfield 81, 3) := by decide +kernel
theorem dX9_mark_60 : decode cX9_mark 60 = .ok (.iconst 0, 1) := by decide +kernel
theorem dX9_mark_61 : decode cX9_mark 61 = .ok (.invokestatic 381, 3) := by decide +kernel
theorem dX9_mark_64 : decode cX9_mark 64 = .ok (.iconst 1, 1) := by decide +kernel
theorem dX9_mark_65 : decode cX9_mark 65 = .ok (.ireturn, 1) := by decide +kernel
theorem dX9_mark_66 : decode cX9_mark 66 = .ok (.aload_n 0, 1) := by decide +kernel
theorem dX9_mark_67 : decode cX9_mark 67 = .ok (.iconst 0, 1) := by decide +kernel
theorem dX9_mark_68 : decode cX9_mark 68 = .ok (.iconst 2, 1) := by decide +kernel
theorem dX9_mark_69 : decode cX9_mark 69 = .ok (.iload_n 1, 1) := by decide +kernel
theorem dX9_mark_70 : decode cX9_mark 70 = .ok (.iadd, 1) := by decide +kernel
theorem dX9_mark_71 : decode cX9_mark 71 = .ok (.invokevirtual 281, 3) := by decide +kernel
theorem dX9_mark_74 : decode cX9_mark 74 = .ok (.aload_n 0, 1) := by decide +kernel
theorem dX9_mark_75 : decode cX9_mark 75 = .ok (.getfield 81, 3) := by decide +kernel
theorem dX9_mark_78 : decode cX9_mark 78 = .ok (.iconst 0, 1) := by decide +kernel
theorem dX9_mark_79 : decode cX9_mark 79 = .ok (.aload_n 0, 1) := by decide +kernel
theorem dX9_mark_80 : decode cX9_mark 80 = .ok (.getfield 87, 3) := by decide +kernel
theorem dX9_mark_83 : decode cX9_mark 83 = .ok (.bipush 64, 2) := by decide +kernel
theorem dX9_mark_85 : decode cX9_mark 85 = .ok (.iload_n 1, 1) := by decide +kernel
theorem dX9_mark_86 : decode cX9_mark 86 = .ok (.imul, 1) := by decide +kernel
theorem dX9_mark_87 : decode cX9_mark 87 = .ok (.invokestatic 381, 3) := by decide +kernel
theorem dX9_mark_90 : decode cX9_mark 90 = .ok (.iconst 1, 1) := by decide +kernel
theorem dX9_mark_91 : decode cX9_mark 91 = .ok (.ireturn, 1) := by decide +kernel
theorem dX9_count_0 : decode cX9_count 0 = .ok (.aload_n 0, 1) := by decide +kernel
theorem dX9_count_1 : decode cX9_count 1 = .ok (.iconst 0, 1) := by decide +kernel
theorem dX9_count_2 : decode cX9_count 2 = .ok (.putfield 109, 3) := by decide +kernel
theorem dX9_count_5 : decode cX9_count 5 = .ok (.iload_n 1, 1) := by decide +kernel
theorem dX9_count_6 : decode cX9_count 6 = .ok (.iconst 0, 1) := by decide +kernel
theorem dX9_count_7 : decode cX9_count 7 = .ok (.bipush 8, 2) := by decide +kernel
theorem dX9_count_9 : decode cX9_count 9 = .ok (.invokestatic 235, 3) := by decide +kernel
theorem dX9_count_12 : decode cX9_count 12 = .ok (.ifCond .ne 5, 3) := by decide +kernel
theorem dX9_count_15 : decode cX9_count 15 = .ok (.iconst (-1), 1) := by decide +kernel
theorem dX9_count_16 : decode cX9_count 16 = .ok (.ireturn, 1) := by decide +kernel
theorem dX9_count_17 : decode cX9_count 17 = .ok (.iload_n 1, 1) := by decide +kernel
theorem dX9_count_18 : decode cX9_count 18 = .ok (.iconst 2, 1) := by decide +kernel
theorem dX9_count_19 : decode cX9_count 19 = .ok (.if_icmp .ge 24, 3) := by decide +kernel
theorem dX9_count_22 : decode cX9_count 22 = .ok (.iload_n 1, 1) := by decide +kernel
theorem dX9_count_23 : decode cX9_count 23 = .ok (.ifCond .ne 12, 3) := by decide +kernel
theorem dX9_count_26 : decode cX9_count 26 = .ok (.aload_n 0, 1) := by decide +kernel
theorem dX9_count_27 : decode cX9_count 27 = .ok (.getfield 13, 3) := by decide +kernel
theorem dX9_count_30 : decode cX9_count 30 = .ok (.iconst 4, 1) := by decide +kernel
