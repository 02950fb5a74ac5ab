theorem dX8_feedEight_36 : decode cX8_feedEight 36 = .ok (.aload_n 0, 1) := by decide +kernel
theorem dX8_feedEight_37 : decode cX8_feedEight 37 = .ok (.getfield 57, 3) := by decide +kernel
theorem dX8_feedEight_40 : decode cX8_feedEight 40 = .ok (.sipush 1000, 3) := by decide +kernel
theorem dX8_feedEight_43 : decode cX8_feedEight 43 = .ok (.if_icmp .ge 25, 3) := by decide +kernel
theorem dX8_feedEight_46 : decode cX8_feedEight 46 = .ok (.aload_n 0, 1) := by decide +kernel
theorem dX8_feedEight_47 : decode cX8_feedEight 47 = .ok (.getfield 12, 3) := by decide +kernel
theorem dX8_feedEight_50 : decode cX8_feedEight 50 = .ok (.aload_n 0, 1) := by decide +kernel
theorem dX8_feedEight_51 : decode cX8_feedEight 51 = .ok (.getfield 57, 3) := by decide +kernel
theorem dX8_feedEight_54 : decode cX8_feedEight 54 = .ok (.iload 4, 2) := by decide +kernel
theorem dX8_feedEight_56 : decode cX8_feedEight 56 = .ok (.i2b, 1) := by decide +kernel
theorem dX8_feedEight_57 : decode cX8_feedEight 57 = .ok (.bastore, 1) := by decide +kernel
theorem dX8_feedEight_58 : decode cX8_feedEight 58 = .ok (.aload_n 0, 1) := by decide +kernel
theorem dX8_feedEight_59 : decode cX8_feedEight 59 = .ok (.dup, 1) := by decide +kernel
theorem dX8_feedEight_60 : decode cX8_feedEight 60 = .ok (.getfield 57, 3) := by decide +kernel
theorem dX8_feedEight_63 : decode cX8_feedEight 63 = .ok (.iconst 1, 1) := by decide +kernel
theorem dX8_feedEight_64 : decode cX8_feedEight 64 = .ok (.iadd, 1) := by decide +kernel
theorem dX8_feedEight_65 : decode cX8_feedEight 65 = .ok (.putfield 57, 3) := by decide +kernel
theorem dX8_feedEight_68 : decode cX8_feedEight 68 = .ok (.iinc 3 (-8), 3) := by decide +kernel
theorem dX8_feedEight_71 : decode cX8_feedEight 71 = .ok (.goto (-68), 3) := by decide +kernel
theorem dX8_feedEight_74 : decode cX8_feedEight 74 = .ok (.return_, 1) := by decide +kernel
theorem dX8_isKite_0 : decode cX8_isKite 0 = .ok (.iload_n 1, 1) := by decide +kernel
theorem dX8_isKite_1 : decode cX8_isKite 1 = .ok (.iconst 0, 1) := by decide +kernel
theorem dX8_isKite_2 : decode cX8_isKite 2 = .ok (.aload_n 0, 1) := by decide +kernel
theorem dX8_isKite_3 : decode cX8_isKite 3 = .ok (.getfield 42, 3) := by decide +kernel
theorem dX8_isKite_6 : decode cX8_isKite 6 = .ok (.getfield 72, 3) := by decide +kernel
theorem dX8_isKite_9 : decode cX8_isKite 9 = .ok (.getfield 150, 3) := by decide +kernel
theorem dX8_isKite_12 : decode cX8_isKite 12 = .ok (.iconst 1, 1) := by decide +kernel
theorem dX8_isKite_13 : decode cX8_isKite 13 = .ok (.isub, 1) := by decide +kernel
theorem dX8_isKite_14 : decode cX8_isKite 14 = .ok (.invokestatic 112, 3) := by decide +kernel
theorem dX8_isKite_17 : decode cX8_isKite 17 = .ok (.ireturn, 1) := by decide +kernel
theorem dX8_isHeight_0 : decode cX8_isHeight 0 = .ok (.iload_n 0, 1) := by decide +kernel
theorem dX8_isHeight_1 : decode cX8_isHeight 1 = .ok (.iconst 0, 1) := by decide +kernel
theorem dX8_isHeight_2 : decode cX8_isHeight 2 = .ok (.bipush 40, 2) := by decide +kernel
theorem dX8_isHeight_4 : decode cX8_isHeight 4 = .ok (.invokestatic 112, 3) := by decide +kernel
theorem dX8_isHeight_7 : decode cX8_isHeight 7 = .ok (.ireturn, 1) := by decide +kernel
theorem dX8_isSpot_0 : decode cX8_isSpot 0 = .ok (.iload_n 0, 1) := by decide +kernel
theorem dX8_isSpot_1 : decode cX8_isSpot 1 = .ok (.iconst 0, 1) := by decide +kernel
theorem dX8_isSpot_2 : decode cX8_isSpot 2 = .ok (.sipush 999, 3) := by decide +kernel
theorem dX8_isSpot_5 : decode cX8_isSpot 5 = .ok (.invokestatic 112, 3) := by decide +kernel
theorem dX8_isSpot_8 : decode cX8_isSpot 8 = .ok (.ifCond .eq 14, 3) := by decide +kernel
theorem dX8_isSpot_11 : decode cX8_isSpot 11 = .ok (.iload_n 1, 1) := by decide +kernel
theorem dX8_isSpot_12 : decode cX8_isSpot 12 = .ok (.invokestatic 105, 3) := by decide +kernel
theorem dX8_isSpot_15 : decode cX8_isSpot 15 = .ok (.ifCond .eq 7, 3) := by decide +kernel
theorem dX8_isSpot_18 : decode cX8_isSpot 18 = .ok (.iconst 1, 1) := by decide +kernel
theorem dX8_isSpot_19 : decode cX8_isSpot 19 = .ok (.goto 4, 3) := by decide +kernel
theorem dX8_isSpot_22 : decode cX8_isSpot 22 = .ok (.iconst 0, 1) := by decide +kernel
theorem dX8_isSpot_23 : decode cX8_isSpot 23 = .ok (.ireturn, 1) := by decide +kernel
theorem dX8_isWithin_0 : decode cX8_isWithin 0 = .ok (.iload_n 0, 1) := by decide +kernel
theorem dX8_isWithin_1 : decode cX8_isWithin 1 = .ok (.iload_n 1, 1) := by decide +kernel
theorem dX8_isWithin_2 : decode cX8_isWithin 2 = .ok (.if_icmp .lt 12, 3) := by decide +kernel
theorem dX8_isWithin_5 : decode cX8_isWithin 5 = .ok (.iload_n 0, 1) := by decide +kernel
theorem dX8_isWithin_6 : decode cX8_isWithin 6 = .ok (.iload_n 2, 1) := by decide +kernel
theorem dX8_isWithin_7 : decode cX8_isWithin 7 = .ok (.if_icmp .gt 7, 3) := by decide +kernel
theorem dX8_isWithin_10 : decode cX8_isWithin 10 = .ok (.iconst 1, 1) := by decide +kernel
theorem dX8_isWithin_11 : decode cX8_isWithin 11 = .ok (.goto 4, 3) := by decide +kernel
theorem dX8_isWithin_14 : decode cX8_isWithin 14 = .ok (.iconst 0, 1) := by decide +kernel
theorem dX8_isWithin_15 : decode cX8_isWithin 15 = .ok (.ireturn, 1) := by decide +kernel
theorem dX8_clamped_0 : decode cX8_clamped 0 = .ok (.iload_n 0, 1) := by decide +kernel
theorem dX8_clamped_1 : decode cX8_clamped 1 = .ok (.iload_n 1, 1) := by decide +kernel
theorem dX8_clamped_2 : decode cX8_clamped 2 = .ok (.if_icmp .ge 7, 3) := by decide +kernel
theorem dX8_clamped_5 : decode cX8_clamped 5 = .ok (.iload_n 1, 1) := by decide +kernel
theorem dX8_clamped_6 : decode cX8_clamped 6 = .ok (.goto 13, 3) := by decide +kernel
theorem dX8_clamped_9 : decode cX8_clamped 9 = .ok (.iload_n 0, 1) := by decide +kernel
theorem dX8_clamped_10 : decode cX8_clamped 10 = .ok (.iload_n 2, 1) := by decide +kernel
theorem dX8_clamped_11 : decode cX8_clamped 11 = .ok (.if_icmp .le 7, 3) := by decide +kernel
theorem dX8_clamped_14 : decode cX8_clamped 14 = .ok (.iload_n 2, 1) := by decide +kernel
theorem dX8_clamped_15 : decode cX8_clamped 15 = .ok (.goto 4, 3) := by decide +kernel
theorem dX8_clamped_18 : decode cX8_clamped 18 = .ok (.iload_n 0, 1) := by decide +kernel
theorem dX8_clamped_19 : decode cX8_clamped 19 = .ok (.ireturn, 1) := by decide +kernel
theorem dX8_distance_0 : decode cX8_distance 0 = .ok (.iload_n 0, 1) := by decide +kernel
theorem dX8_distance_1 : decode cX8_distance 1 = .ok (.iload_n 2, 1) := by decide +kernel
theorem dX8_distance_2 : decode cX8_distance 2 = .ok (.isub, 1) := by decide +kernel
theorem dX8_distance_3 : decode cX8_distance 3 = .ok (.invokestatic 261, 3) := by decide +kernel
theorem dX8_distance_6 : decode cX8_distance 6 = .ok (.iload_n 1, 1) := by decide +kernel
theorem dX8_distance_7 : decode cX8_distance 7 = .ok (.iload_n 3, 1) := by decide +kernel
theorem dX8_distance_8 : decode cX8_distance 8 = .ok (.isub, 1) := by decide +kernel
theorem dX8_distance_9 : decode cX8_distance 9 = .ok (.invokestatic 261, 3) := by decide +kernel
theorem dX8_distance_12 : decode cX8_distance 12 = .ok (.iadd, 1) := by decide +kernel
theorem dX8_distance_13 : decode cX8_distance 13 = .ok (.ireturn, 1) := by decide +kernel
theorem dX8_commonDivisor_0 : decode cX8_commonDivisor 0 = .ok (.lload_n 0, 1) := by decide +kernel
theorem dX8_commonDivisor_1 : decode cX8_commonDivisor 1 = .ok (.lstore 4, 2) := by decide +kernel
theorem dX8_commonDivisor_3 : decode cX8_commonDivisor 3 = .ok (.lload_n 2, 1) := by decide +kernel
theorem dX8_commonDivisor_4 : decode cX8_commonDivisor 4 = .ok (.lstore 6, 2) := by decide +kernel
theorem dX8_commonDivisor_6 : decode cX8_commonDivisor 6 = .ok (.iconst 0, 1) := by decide +kernel
theorem dX8_commonDivisor_7 : decode cX8_commonDivisor 7 = .ok (.istore 8, 2) := by decide +kernel
theorem dX8_commonDivisor_9 : decode cX8_commonDivisor 9 = .ok (.iload 8, 2) := by decide +kernel
theorem dX8_commonDivisor_11 : decode cX8_commonDivisor 11 = .ok (.bipush 64, 2) := by decide +kernel
theorem dX8_commonDivisor_13 : decode cX8_commonDivisor 13 = .ok (.if_icmp .ge 31, 3) := by decide +kernel
theorem dX8_commonDivisor_16 : decode cX8_commonDivisor 16 = .ok (.lload 6, 2) := by decide +kernel
theorem dX8_commonDivisor_18 : decode cX8_commonDivisor 18 = .ok (.lconst 0, 1) := by decide +kernel
theorem dX8_commonDivisor_19 : decode cX8_commonDivisor 19 = .ok (.lcmp, 1) := by decide +kernel
theorem dX8_commonDivisor_20 : decode cX8_commonDivisor 20 = .ok (.ifCond .eq 24, 3) := by decide +kernel
theorem dX8_commonDivisor_23 : decode cX8_commonDivisor 23 = .ok (.lload 4, 2) := by decide +kernel
theorem dX8_commonDivisor_25 : decode cX8_commonDivisor 25 = .ok (.lload 6, 2) := by decide +kernel
theorem dX8_commonDivisor_27 : decode cX8_commonDivisor 27 = .ok (.lrem, 1) := by decide +kernel
theorem dX8_commonDivisor_28 : decode cX8_commonDivisor 28 = .ok (.lstore 9, 2) := by decide +kernel
theorem dX8_commonDivisor_30 : decode cX8_commonDivisor 30 = .ok (.lload 6, 2) := by decide +kernel
theorem dX8_commonDivisor_32 : decode cX8_commonDivisor 32 = .ok (.lstore 4, 2) := by decide +kernel
theorem dX8_commonDivisor_34 : decode cX8_commonDivisor 34 = .ok (.lload 9, 2) := by decide +kernel
theorem dX8_commonDivisor_36 : decode cX8_commonDivisor 36 = .ok (.lstore 6, 2) := by decide +kernel
theorem dX8_commonDivisor_38 : decode cX8_commonDivisor 38 = .ok (.iinc 8 1, 3) := by decide +kernel
theorem dX8_commonDivisor_41 : decode cX8_commonDivisor 41 = .ok (.goto (-32), 3) := by decide +kernel
theorem dX8_commonDivisor_44 : decode cX8_commonDivisor 44 = .ok (.lload 4, 2) := by decide +kernel
theorem dX8_commonDivisor_46 : decode cX8_commonDivisor 46 = .ok (.lreturn, 1) := by decide +kernel
theorem dX8_gustOf_0 : decode cX8_gustOf 0 = .ok (.aload_n 0, 1) := by decide +kernel
theorem dX8_gustOf_1 : decode cX8_gustOf 1 = .ok (.getfield 42, 3) := by decide +kernel
theorem dX8_gustOf_4 : decode cX8_gustOf 4 = .ok (.getfield 72, 3) := by decide +kernel
theorem dX8_gustOf_7 : decode cX8_gustOf 7 = .ok (.getfield 256, 3) := by decide +kernel
theorem dX8_gustOf_10 : decode cX8_gustOf 10 = .ok (.iconst 1, 1) := by decide +kernel
theorem dX8_gustOf_11 : decode cX8_gustOf 11 = .ok (.iadd, 1) := by decide +kernel
theorem dX8_gustOf_12 : decode cX8_gustOf 12 = .ok (.istore_n 3, 1) := by decide +kernel
theorem dX8_gustOf_13 : decode cX8_gustOf 13 = .ok (.iload_n 3, 1) := by decide +kernel
theorem dX8_gustOf_14 : decode cX8_gustOf 14 = .ok (.iconst 1, 1) := by decide +kernel
theorem dX8_gustOf_15 : decode cX8_gustOf 15 = .ok (.if_icmp .ge 7, 3) := by decide +kernel
theorem dX8_gustOf_18 : decode cX8_gustOf 18 = .ok (.iconst 0, 1) := by decide +kernel
theorem dX8_gustOf_19 : decode cX8_gustOf 19 = .ok (.goto 12, 3) := by decide +kernel
theorem dX8_gustOf_22 : decode cX8_gustOf 22 = .ok (.lload_n 1, 1) := by decide +kernel
theorem dX8_gustOf_23 : decode cX8_gustOf 23 = .ok (.ldc2_w 264, 3) := by decide +kernel
theorem dX8_gustOf_26 : decode cX8_gustOf 26 = .ok (.ldiv, 1) := by decide +kernel
theorem dX8_gustOf_27 : decode cX8_gustOf 27 = .ok (.iload_n 3, 1) := by decide +kernel
theorem dX8_gustOf_28 : decode cX8_gustOf 28 = .ok (.i2l, 1) := by decide +kernel
theorem dX8_gustOf_29 : decode cX8_gustOf 29 = .ok (.lrem, 1) := by decide +kernel
theorem dX8_gustOf_30 : decode cX8_gustOf 30 = .ok (.l2i, 1) := by decide +kernel
theorem dX8_gustOf_31 : decode cX8_gustOf 31 = .ok (.ireturn, 1) := by decide +kernel
theorem dX8_fewestKept_0 : decode cX8_fewestKept 0 = .ok (.aload_n 0, 1) := by decide +kernel
theorem dX8_fewestKept_1 : decode cX8_fewestKept 1 = .ok (.getfield 28, 3) := by decide +kernel
theorem dX8_fewestKept_4 : decode cX8_fewestKept 4 = .ok (.aload_n 0, 1) := by decide +kernel
theorem dX8_fewestKept_5 : decode cX8_fewestKept 5 = .ok (.getfield 42, 3) := by decide +kernel
theorem dX8_fewestKept_8 : decode cX8_fewestKept 8 = .ok (.aload_n 0, 1) := by decide +kernel
theorem dX8_fewestKept_9 : decode cX8_fewestKept 9 = .ok (.getfield 42, 3) := by decide +kernel
theorem dX8_fewestKept_12 : decode cX8_fewestKept 12 = .ok (.getfield 83, 3) := by decide +kernel
theorem dX8_fewestKept_15 : decode cX8_fewestKept 15 = .ok (.iconst 0, 1) := by decide +kernel
theorem dX8_fewestKept_16 : decode cX8_fewestKept 16 = .ok (.invokevirtual 86, 3) := by decide +kernel
theorem dX8_fewestKept_19 : decode cX8_fewestKept 19 = .ok (.iconst 1, 1) := by decide +kernel
theorem dX8_fewestKept_20 : decode cX8_fewestKept 20 = .ok (.aload_n 0, 1) := by decide +kernel
theorem dX8_fewestKept_21 : decode cX8_fewestKept 21 = .ok (.getfield 42, 3) := by decide +kernel
theorem dX8_fewestKept_24 : decode cX8_fewestKept 24 = .ok (.getfield 72, 3) := by decide +kernel
theorem dX8_fewestKept_27 : decode cX8_fewestKept 27 = .ok (.getfield 150, 3) := by decide +kernel
theorem dX8_fewestKept_30 : decode cX8_fewestKept 30 = .ok (.ishl, 1) := by decide +kernel
theorem dX8_fewestKept_31 : decode cX8_fewestKept 31 = .ok (.iconst 1, 1) := by decide +kernel
theorem dX8_fewestKept_32 : decode cX8_fewestKept 32 = .ok (.isub, 1) := by decide +kernel
theorem dX8_fewestKept_33 : decode cX8_fewestKept 33 = .ok (.istore_n 2, 1) := by decide +kernel
theorem dX8_fewestKept_34 : decode cX8_fewestKept 34 = .ok (.iconst (-1), 1) := by decide +kernel
theorem dX8_fewestKept_35 : decode cX8_fewestKept 35 = .ok (.istore_n 3, 1) := by decide +kernel
theorem dX8_fewestKept_36 : decode cX8_fewestKept 36 = .ok (.iconst 0, 1) := by decide +kernel
theorem dX8_fewestKept_37 : decode cX8_fewestKept 37 = .ok (.istore 4, 2) := by decide +kernel
theorem dX8_fewestKept_39 : decode cX8_fewestKept 39 = .ok (.iload 4, 2) := by decide +kernel
theorem dX8_fewestKept_41 : decode cX8_fewestKept 41 = .ok (.iload_n 2, 1) := by decide +kernel
theorem dX8_fewestKept_42 : decode cX8_fewestKept 42 = .ok (.if_icmp .gt 86, 3) := by decide +kernel
theorem dX8_fewestKept_45 : decode cX8_fewestKept 45 = .ok (.iload_n 3, 1) := by decide +kernel
theorem dX8_fewestKept_46 : decode cX8_fewestKept 46 = .ok (.iconst (-1), 1) := by decide +kernel
theorem dX8_fewestKept_47 : decode cX8_fewestKept 47 = .ok (.if_icmp .eq 15, 3) := by decide +kernel
theorem dX8_fewestKept_50 : decode cX8_fewestKept 50 = .ok (.iload 4, 2) := by decide +kernel
theorem dX8_fewestKept_52 : decode cX8_fewestKept 52 = .ok (.invokestatic 187, 3) := by decide +kernel
theorem dX8_fewestKept_55 : decode cX8_fewestKept 55 = .ok (.iload_n 3, 1) := by decide +kernel
theorem dX8_fewestKept_56 : decode cX8_fewestKept 56 = .ok (.invokestatic 187, 3) := by decide +kernel
theorem dX8_fewestKept_59 : decode cX8_fewestKept 59 = .ok (.if_icmp .ge 7, 3) := by decide +kernel
theorem dX8_fewestKept_62 : decode cX8_fewestKept 62 = .ok (.iconst 1, 1) := by decide +kernel
theorem dX8_fewestKept_63 : decode cX8_fewestKept 63 = .ok (.goto 4, 3) := by decide +kernel
theorem dX8_fewestKept_66 : decode cX8_fewestKept 66 = .ok (.iconst 0, 1) := by decide +kernel
theorem dX8_fewestKept_67 : decode cX8_fewestKept 67 = .ok (.istore 5, 2) := by decide +kernel
theorem dX8_fewestKept_69 : decode cX8_fewestKept 69 = .ok (.iload 4, 2) := by decide +kernel
theorem dX8_fewestKept_71 : decode cX8_fewestKept 71 = .ok (.aload_n 0, 1) := by decide +kernel
theorem dX8_fewestKept_72 : decode cX8_fewestKept 72 = .ok (.getfield 42, 3) := by decide +kernel
theorem dX8_fewestKept_75 : decode cX8_fewestKept 75 = .ok (.getfield 135, 3) := by decide +kernel
theorem dX8_fewestKept_78 : decode cX8_fewestKept 78 = .ok (.iand, 1) := by decide +kernel
theorem dX8_fewestKept_79 : decode cX8_fewestKept 79 = .ok (.ifCond .ne 43, 3) := by decide +kernel
theorem dX8_fewestKept_82 : decode cX8_fewestKept 82 = .ok (.iload 5, 2) := by decide +kernel
theorem dX8_fewestKept_84 : decode cX8_fewestKept 84 = .ok (.ifCond .eq 38, 3) := by decide +kernel
theorem dX8_fewestKept_87 : decode cX8_fewestKept 87 = .ok (.aload_n 0, 1) := by decide +kernel
theorem dX8_fewestKept_88 : decode cX8_fewestKept 88 = .ok (.getfield 28, 3) := by decide +kernel
theorem dX8_fewestKept_91 : decode cX8_fewestKept 91 = .ok (.aload_n 0, 1) := by decide +kernel
theorem dX8_fewestKept_92 : decode cX8_fewestKept 92 = .ok (.getfield 42, 3) := by decide +kernel
theorem dX8_fewestKept_95 : decode cX8_fewestKept 95 = .ok (.iload_n 2, 1) := by decide +kernel
theorem dX8_fewestKept_96 : decode cX8_fewestKept 96 = .ok (.iload 4, 2) := by decide +kernel
theorem dX8_fewestKept_98 : decode cX8_fewestKept 98 = .ok (.iconst (-1), 1) := by decide +kernel
theorem dX8_fewestKept_99 : decode cX8_fewestKept 99 = .ok (.ixor, 1) := by decide +kernel
theorem dX8_fewestKept_100 : decode cX8_fewestKept 100 = .ok (.iand, 1) := by decide +kernel
theorem dX8_fewestKept_101 : decode cX8_fewestKept 101 = .ok (.invokevirtual 180, 3) := by decide +kernel
theorem dX8_fewestKept_104 : decode cX8_fewestKept 104 = .ok (.aload_n 0, 1) := by decide +kernel
theorem dX8_fewestKept_105 : decode cX8_fewestKept 105 = .ok (.getfield 28, 3) := by decide +kernel
theorem dX8_fewestKept_108 : decode cX8_fewestKept 108 = .ok (.getfield 129, 3) := by decide +kernel
theorem dX8_fewestKept_111 : decode cX8_fewestKept 111 = .ok (.iload_n 1, 1) := by decide +kernel
theorem dX8_fewestKept_112 : decode cX8_fewestKept 112 = .ok (.if_icmp .lt 8, 3) := by decide +kernel
theorem dX8_fewestKept_115 : decode cX8_fewestKept 115 = .ok (.iload 4, 2) := by decide +kernel
theorem dX8_fewestKept_117 : decode cX8_fewestKept 117 = .ok (.goto 4, 3) := by decide +kernel
theorem dX8_fewestKept_120 : decode cX8_fewestKept 120 = .ok (.iload_n 3, 1) := by decide +kernel
theorem dX8_fewestKept_121 : decode cX8_fewestKept 121 = .ok (.istore_n 3, 1) := by decide +kernel
theorem dX8_fewestKept_122 : decode cX8_fewestKept 122 = .ok (.iinc 4 1, 3) := by decide +kernel
theorem dX8_fewestKept_125 : decode cX8_fewestKept 125 = .ok (.goto (-86), 3) := by decide +kernel
theorem dX8_fewestKept_128 : decode cX8_fewestKept 128 = .ok (.iload_n 3, 1) := by decide +kernel
theorem dX8_fewestKept_129 : decode cX8_fewestKept 129 = .ok (.ireturn, 1) := by decide +kernel
theorem dX8_fittingSets_0 : decode cX8_fittingSets 0 = .ok (.iconst 1, 1) := by decide +kernel
theorem dX8_fittingSets_1 : decode cX8_fittingSets 1 = .ok (.aload_n 0, 1) := by decide +kernel
theorem dX8_fittingSets_2 : decode cX8_fittingSets 2 = .ok (.getfield 42, 3) := by decide +kernel
theorem dX8_fittingSets_5 : decode cX8_fittingSets 5 = .ok (.getfield 72, 3) := by decide +kernel
theorem dX8_fittingSets_8 : decode cX8_fittingSets 8 = .ok (.getfield 150, 3) := by decide +kernel
theorem dX8_fittingSets_11 : decode cX8_fittingSets 11 = .ok (.ishl, 1) := by decide +kernel
theorem dX8_fittingSets_12 : decode cX8_fittingSets 12 = .ok (.istore_n 1, 1) := by decide +kernel
theorem dX8_fittingSets_13 : decode cX8_fittingSets 13 = .ok (.iload_n 1, 1) := by decide +kernel
theorem dX8_fittingSets_14 : decode cX8_fittingSets 14 = .ok (.bipush 64, 2) := by decide +kernel
theorem dX8_fittingSets_16 : decode cX8_fittingSets 16 = .ok (.if_icmp .lt 9, 3) := by decide +kernel
theorem dX8_fittingSets_19 : decode cX8_fittingSets 19 = .ok (.ldc2_w 192, 3) := by decide +kernel
theorem dX8_fittingSets_22 : decode cX8_fittingSets 22 = .ok (.goto 8, 3) := by decide +kernel
theorem dX8_fittingSets_25 : decode cX8_fittingSets 25 = .ok (.lconst 1, 1) := by decide +kernel
theorem dX8_fittingSets_26 : decode cX8_fittingSets 26 = .ok (.iload_n 1, 1) := by decide +kernel
theorem dX8_fittingSets_27 : decode cX8_fittingSets 27 = .ok (.lshl, 1) := by decide +kernel
theorem dX8_fittingSets_28 : decode cX8_fittingSets 28 = .ok (.lconst 1, 1) := by decide +kernel
theorem dX8_fittingSets_29 : decode cX8_fittingSets 29 = .ok (.lsub, 1) := by decide +kernel
theorem dX8_fittingSets_30 : decode cX8_fittingSets 30 = .ok (.lstore_n 2, 1) := by decide +kernel
theorem dX8_fittingSets_31 : decode cX8_fittingSets 31 = .ok (.iconst 0, 1) := by decide +kernel
theorem dX8_fittingSets_32 : decode cX8_fittingSets 32 = .ok (.istore 4, 2) := by decide +kernel
theorem dX8_fittingSets_34 : decode cX8_fittingSets 34 = .ok (.iload 4, 2) := by decide +kernel
theorem dX8_fittingSets_36 : decode cX8_fittingSets 36 = .ok (.aload_n 0, 1) := by decide +kernel
theorem dX8_fittingSets_37 : decode cX8_fittingSets 37 = .ok (.getfield 42, 3) := by decide +kernel
theorem dX8_fittingSets_40 : decode cX8_fittingSets 40 = .ok (.getfield 214, 3) := by decide +kernel
theorem dX8_fittingSets_43 : decode cX8_fittingSets 43 = .ok (.if_icmp .ge 79, 3) := by decide +kernel
theorem dX8_fittingSets_46 : decode cX8_fittingSets 46 = .ok (.aload_n 0, 1) := by decide +kernel
theorem dX8_fittingSets_47 : decode cX8_fittingSets 47 = .ok (.getfield 28, 3) := by decide +kernel
theorem dX8_fittingSets_50 : decode cX8_fittingSets 50 = .ok (.aload_n 0, 1) := by decide +kernel
theorem dX8_fittingSets_51 : decode cX8_fittingSets 51 = .ok (.getfield 42, 3) := by decide +kernel
theorem dX8_fittingSets_54 : decode cX8_fittingSets 54 = .ok (.aload_n 0, 1) := by decide +kernel
theorem dX8_fittingSets_55 : decode cX8_fittingSets 55 = .ok (.getfield 42, 3) := by decide +kernel
theorem dX8_fittingSets_58 : decode cX8_fittingSets 58 = .ok (.getfield 217, 3) := by decide +kernel
theorem dX8_fittingSets_61 : decode cX8_fittingSets 61 = .ok (.iload 4, 2) := by decide +kernel
theorem dX8_fittingSets_63 : decode cX8_fittingSets 63 = .ok (.iaload, 1) := by decide +kernel
theorem dX8_fittingSets_64 : decode cX8_fittingSets 64 = .ok (.iconst 0, 1) := by decide +kernel
theorem dX8_fittingSets_65 : decode cX8_fittingSets 65 = .ok (.invokevirtual 86, 3) := by decide +kernel
theorem dX8_fittingSets_68 : decode cX8_fittingSets 68 = .ok (.iconst 0, 1) := by decide +kernel
theorem dX8_fittingSets_69 : decode cX8_fittingSets 69 = .ok (.istore 5, 2) := by decide +kernel
theorem dX8_fittingSets_71 : decode cX8_fittingSets 71 = .ok (.iload 5, 2) := by decide +kernel
theorem dX8_fittingSets_73 : decode cX8_fittingSets 73 = .ok (.iload_n 1, 1) := by decide +kernel
theorem dX8_fittingSets_74 : decode cX8_fittingSets 74 = .ok (.if_icmp .ge 42, 3) := by decide +kernel
theorem dX8_fittingSets_77 : decode cX8_fittingSets 77 = .ok (.lload_n 2, 1) := by decide +kernel
theorem dX8_fittingSets_78 : decode cX8_fittingSets 78 = .ok (.iload 5, 2) := by decide +kernel
theorem dX8_fittingSets_80 : decode cX8_fittingSets 80 = .ok (.lshr, 1) := by decide +kernel
theorem dX8_fittingSets_81 : decode cX8_fittingSets 81 = .ok (.lconst 1, 1) := by decide +kernel
theorem dX8_fittingSets_82 : decode cX8_fittingSets 82 = .ok (.land, 1) := by decide +kernel
theorem dX8_fittingSets_83 : decode cX8_fittingSets 83 = .ok (.lconst 0, 1) := by decide +kernel
theorem dX8_fittingSets_84 : decode cX8_fittingSets 84 = .ok (.lcmp, 1) := by decide +kernel
theorem dX8_fittingSets_85 : decode cX8_fittingSets 85 = .ok (.ifCond .eq 25, 3) := by decide +kernel
theorem dX8_fittingSets_88 : decode cX8_fittingSets 88 = .ok (.aload_n 0, 1) := by decide +kernel
theorem dX8_fittingSets_89 : decode cX8_fittingSets 89 = .ok (.iload 5, 2) := by decide +kernel
theorem dX8_fittingSets_91 : decode cX8_fittingSets 91 = .ok (.iload 4, 2) := by decide +kernel
theorem dX8_fittingSets_93 : decode cX8_fittingSets 93 = .ok (.invokevirtual 266, 3) := by decide +kernel
theorem dX8_fittingSets_96 : decode cX8_fittingSets 96 = .ok (.ifCond .ne 14, 3) := by decide +kernel
theorem dX8_fittingSets_99 : decode cX8_fittingSets 99 = .ok (.lload_n 2, 1) := by decide +kernel
theorem dX8_fittingSets_100 : decode cX8_fittingSets 100 = .ok (.lconst 1, 1) := by decide +kernel
theorem dX8_fittingSets_101 : decode cX8_fittingSets 101 = .ok (.iload 5, 2) := by decide +kernel
theorem dX8_fittingSets_103 : decode cX8_fittingSets 103 = .ok (.lshl, 1) := by decide +kernel
theorem dX8_fittingSets_104 : decode cX8_fittingSets 104 = .ok (.ldc2_w 192, 3) := by decide +kernel
theorem dX8_fittingSets_107 : decode cX8_fittingSets 107 = .ok (.lxor, 1) := by decide +kernel
theorem dX8_fittingSets_108 : decode cX8_fittingSets 108 = .ok (.land, 1) := by decide +kernel
theorem dX8_fittingSets_109 : decode cX8_fittingSets 109 = .ok (.lstore_n 2, 1) := by decide +kernel
theorem dX8_fittingSets_110 : decode cX8_fittingSets 110 = .ok (.iinc 5 1, 3) := by decide +kernel
theorem dX8_fittingSets_113 : decode cX8_fittingSets 113 = .ok (.goto (-42), 3) := by decide +kernel
theorem dX8_fittingSets_116 : decode cX8_fittingSets 116 = .ok (.iinc 4 1, 3) := by decide +kernel
theorem dX8_fittingSets_119 : decode cX8_fittingSets 119 = .ok (.goto (-85), 3) := by decide +kernel
theorem dX8_fittingSets_122 : decode cX8_fittingSets 122 = .ok (.lload_n 2, 1) := by decide +kernel
theorem dX8_fittingSets_123 : decode cX8_fittingSets 123 = .ok (.lreturn, 1) := by decide +kernel
theorem dX8_isSeen_0 : decode cX8_isSeen 0 = .ok (.aload_n 0, 1) := by decide +kernel
theorem dX8_isSeen_1 : decode cX8_isSeen 1 = .ok (.getfield 28, 3) := by decide +kernel
theorem dX8_isSeen_4 : decode cX8_isSeen 4 = .ok (.aload_n 0, 1) := by decide +kernel
theorem dX8_isSeen_5 : decode cX8_isSeen 5 = .ok (.getfield 42, 3) := by decide +kernel
theorem dX8_isSeen_8 : decode cX8_isSeen 8 = .ok (.iload_n 1, 1) := by decide +kernel
theorem dX8_isSeen_9 : decode cX8_isSeen 9 = .ok (.invokevirtual 180, 3) := by decide +kernel
theorem dX8_isSeen_12 : decode cX8_isSeen 12 = .ok (.aload_n 0, 1) := by decide +kernel
theorem dX8_isSeen_13 : decode cX8_isSeen 13 = .ok (.getfield 28, 3) := by decide +kernel
theorem dX8_isSeen_16 : decode cX8_isSeen 16 = .ok (.getfield 129, 3) := by decide +kernel
theorem dX8_isSeen_19 : decode cX8_isSeen 19 = .ok (.aload_n 0, 1) := by decide +kernel
theorem dX8_isSeen_20 : decode cX8_isSeen 20 = .ok (.getfield 42, 3) := by decide +kernel
theorem dX8_isSeen_23 : decode cX8_isSeen 23 = .ok (.getfield 223, 3) := by decide +kernel
theorem dX8_isSeen_26 : decode cX8_isSeen 26 = .ok (.iload_n 2, 1) := by decide +kernel
theorem dX8_isSeen_27 : decode cX8_isSeen 27 = .ok (.iaload, 1) := by decide +kernel
theorem dX8_isSeen_28 : decode cX8_isSeen 28 = .ok (.if_icmp .eq 5, 3) := by decide +kernel
theorem dX8_isSeen_31 : decode cX8_isSeen 31 = .ok (.iconst 0, 1) := by decide +kernel
theorem dX8_isSeen_32 : decode cX8_isSeen 32 = .ok (.ireturn, 1) := by decide +kernel
theorem dX8_isSeen_33 : decode cX8_isSeen 33 = .ok (.aload_n 0, 1) := by decide +kernel
theorem dX8_isSeen_34 : decode cX8_isSeen 34 = .ok (.getfield 28, 3) := by decide +kernel
theorem dX8_isSeen_37 : decode cX8_isSeen 37 = .ok (.aload_n 0, 1) := by decide +kernel
theorem dX8_isSeen_38 : decode cX8_isSeen 38 = .ok (.getfield 42, 3) := by decide +kernel
theorem dX8_isSeen_41 : decode cX8_isSeen 41 = .ok (.iload_n 1, 1) := by decide +kernel
theorem dX8_isSeen_42 : decode cX8_isSeen 42 = .ok (.invokevirtual 269, 3) := by decide +kernel
theorem dX8_isSeen_45 : decode cX8_isSeen 45 = .ok (.aload_n 0, 1) := by decide +kernel
theorem dX8_isSeen_46 : decode cX8_isSeen 46 = .ok (.getfield 28, 3) := by decide +kernel
theorem dX8_isSeen_49 : decode cX8_isSeen 49 = .ok (.getfield 126, 3) := by decide +kernel
theorem dX8_isSeen_52 : decode cX8_isSeen 52 = .ok (.aload_n 0, 1) := by decide +kernel
theorem dX8_isSeen_53 : decode cX8_isSeen 53 = .ok (.getfield 42, 3) := by decide +kernel
theorem dX8_isSeen_56 : decode cX8_isSeen 56 = .ok (.getfield 220, 3) := by decide +kernel
theorem dX8_isSeen_59 : decode cX8_isSeen 59 = .ok (.iload_n 2, 1) := by decide +kernel
theorem dX8_isSeen_60 : decode cX8_isSeen 60 = .ok (.iaload, 1) := by decide +kernel
theorem dX8_isSeen_61 : decode cX8_isSeen 61 = .ok (.if_icmp .ne 7, 3) := by decide +kernel
theorem dX8_isSeen_64 : decode cX8_isSeen 64 = .ok (.iconst 1, 1) := by decide +kernel
theorem dX8_isSeen_65 : decode cX8_isSeen 65 = .ok (.goto 4, 3) := by decide +kernel
theorem dX8_isSeen_68 : decode cX8_isSeen 68 = .ok (.iconst 0, 1) := by decide +kernel
theorem dX8_isSeen_69 : decode cX8_isSeen 69 = .ok (.ireturn, 1) := by decide +kernel
theorem dX9_init_0 : decode cX9_init 0 = .ok (.aload_n 0, 1) := by decide +kernel
theorem dX9_init_1 : decode cX9_init 1 = .ok (.invokespecial 1, 3) := by decide +kernel
theorem dX9_init_4 : decode cX9_init 4 = .ok (.aload_n 0, 1) := by decide +kernel
theorem dX9_init_5 : decode cX9_init 5 = .ok (.sipush 1000, 3) := by decide +kernel
theorem dX9_init_8 : decode cX9_init 8 = .ok (.newarray .int, 2) := by decide +kernel
theorem dX9_init_10 : decode cX9_init 10 = .ok (.putfield 7, 3) := by decide +kernel
theorem dX9_init_13 : decode cX9_init 13 = .ok (.aload_n 0, 1) := by decide +kernel
theorem dX9_init_14 : decode cX9_init 14 = .ok (.bipush 30, 2) := by decide +kernel
theorem dX9_init_16 : decode cX9_init 16 = .ok (.newarray .int, 2) := by decide +kernel
theorem dX9_init_18 : decode cX9_init 18 = .ok (.putfield 13, 3) := by decide +kernel
theorem dX9_init_21 : decode cX9_init 21 = .ok (.aload_n 0, 1) := by decide +kernel
theorem dX9_init_22 : decode cX9_init 22 = .ok (.bipush 36, 2) := by decide +kernel
theorem dX9_init_24 : decode cX9_init 24 = .ok (.newarray .int, 2) := by decide +kernel
theorem dX9_init_26 : decode cX9_init 26 = .ok (.putfield 16, 3) := by decide +kernel
theorem dX9_init_29 : decode cX9_init 29 = .ok (.aload_n 0, 1) := by decide +kernel
theorem dX9_init_30 : decode cX9_init 30 = .ok (.bipush 36, 2) := by decide +kernel
theorem dX9_init_32 : decode cX9_init 32 = .ok (.newarray .int, 2) := by decide +kernel
theorem dX9_init_34 : decode cX9_init 34 = .ok (.putfield 19, 3) := by decide +kernel
theorem dX9_init_37 : decode cX9_init 37 = .ok (.aload_n 0, 1) := by decide +kernel
theorem dX9_init_38 : decode cX9_init 38 = .ok (.bipush 36, 2) := by decide +kernel
theorem dX9_init_40 : decode cX9_init 40 = .ok (.newarray .int, 2) := by decide +kernel
theorem dX9_init_42 : decode cX9_init 42 = .ok (.putfield 22, 3) := by decide +kernel
theorem dX9_init_45 : decode cX9_init 45 = .ok (.aload_n 0, 1) := by decide +kernel
theorem dX9_init_46 : decode cX9_init 46 = .ok (.bipush 36, 2) := by decide +kernel
theorem dX9_init_48 : decode cX9_init 48 = .ok (.newarray .int, 2) := by decide +kernel
theorem dX9_init_50 : decode cX9_init 50 = .ok (.putfield 25, 3) := by decide +kernel
theorem dX9_init_53 : decode cX9_init 53 = .ok (.aload_n 0, 1) := by decide +kernel
theorem dX9_init_54 : decode cX9_init 54 = .ok (.bipush 36, 2) := by decide +kernel
theorem dX9_init_56 : decode cX9_init 56 = .ok (.newarray .int, 2) := by decide +kernel
theorem dX9_init_58 : decode cX9_init 58 = .ok (.putfield 28, 3) := by decide +kernel
theorem dX9_init_61 : decode cX9_init 61 = .ok (.aload_n 0, 1) := by decide +kernel
theorem dX9_init_62 : decode cX9_init 62 = .ok (.bipush 6, 2) := by decide +kernel
theorem dX9_init_64 : decode cX9_init 64 = .ok (.newarray .long, 2) := by decide +kernel
theorem dX9_init_66 : decode cX9_init 66 = .ok (.putfield 31, 3) := by decide +kernel
theorem dX9_init_69 : decode cX9_init 69 = .ok (.aload_n 0, 1) := by decide +kernel
theorem dX9_init_70 : decode cX9_init 70 = .ok (.bipush 12, 2) := by decide +kernel
theorem dX9_init_72 : decode cX9_init 72 = .ok (.newarray .int, 2) := by decide +kernel
theorem dX9_init_74 : decode cX9_init 74 = .ok (.putfield 35, 3) := by decide +kernel
theorem dX9_init_77 : decode cX9_init 77 = .ok (.aload_n 0, 1) := by decide +kernel
theorem dX9_init_78 : decode cX9_init 78 = .ok (.bipush 12, 2) := by decide +kernel
theorem dX9_init_80 : decode cX9_init 80 = .ok (.newarray .int, 2) := by decide +kernel
theorem dX9_init_82 : decode cX9_init 82 = .ok (.putfield 38, 3) := by decide +kernel
theorem dX9_init_85 : decode cX9_init 85 = .ok (.aload_n 0, 1) := by decide +kernel
theorem dX9_init_86 : decode cX9_init 86 = .ok (.sipush 6000, 3) := by decide +kernel
theorem dX9_init_89 : decode cX9_init 89 = .ok (.newarray .int, 2) := by decide +kernel
theorem dX9_init_91 : decode cX9_init 91 = .ok (.putfield 41, 3) := by decide +kernel
theorem dX9_init_94 : decode cX9_init 94 = .ok (.aload_n 0, 1) := by decide +kernel
theorem dX9_init_95 : decode cX9_init 95 = .ok (.bipush 7, 2) := by decide +kernel
theorem dX9_init_97 : decode cX9_init 97 = .ok (.newarray .int, 2) := by decide +kernel
theorem dX9_init_99 : decode cX9_init 99 = .ok (.putfield 44, 3) := by decide +kernel
theorem dX9_init_102 : decode cX9_init 102 = .ok (.aload_n 0, 1) := by decide +kernel
theorem dX9_init_103 : decode cX9_init 103 = .ok (.bipush 7, 2) := by decide +kernel
theorem dX9_init_105 : decode cX9_init 105 = .ok (.newarray .boolean, 2) := by decide +kernel
theorem dX9_init_107 : decode cX9_init 107 = .ok (.putfield 47, 3) := by decide +kernel
theorem dX9_init_110 : decode cX9_init 110 = .ok (.aload_n 0, 1) := by decide +kernel
theorem dX9_init_111 : decode cX9_init 111 = .ok (.bipush 7, 2) := by decide +kernel
theorem dX9_init_113 : decode cX9_init 113 = .ok (.newarray .int, 2) := by decide +kernel
theorem dX9_init_115 : decode cX9_init 115 = .ok (.putfield 51, 3) := by decide +kernel
theorem dX9_init_118 : decode cX9_init 118 = .ok (.aload_n 0, 1) := by decide +kernel
theorem dX9_init_119 : decode cX9_init 119 = .ok (.bipush 7, 2) := by decide +kernel
theorem dX9_init_121 : decode cX9_init 121 = .ok (.newarray .int, 2) := by decide +kernel
theorem dX9_init_123 : decode cX9_init 123 = .ok (.putfield 54, 3) := by decide +kernel
theorem dX9_init_126 : decode cX9_init 126 = .ok (.aload_n 0, 1) := by decide +kernel
theorem dX9_init_127 : decode cX9_init 127 = .ok (.bipush 7, 2) := by decide +kernel
theorem dX9_init_129 : decode cX9_init 129 = .ok (.newarray .int, 2) := by decide +kernel
theorem dX9_init_131 : decode cX9_init 131 = .ok (.putfield 57, 3) := by decide +kernel
theorem dX9_init_134 : decode cX9_init 134 = .ok (.aload_n 0, 1) := by decide +kernel
theorem dX9_init_135 : decode cX9_init 135 = .ok (.bipush 7, 2) := by decide +kernel
theorem dX9_init_137 : decode cX9_init 137 = .ok (.newarray .int, 2) := by decide +kernel
theorem dX9_init_139 : decode cX9_init 139 = .ok (.putfield 60, 3) := by decide +kernel
theorem dX9_init_142 : decode cX9_init 142 = .ok (.aload_n 0, 1) := by decide +kernel
theorem dX9_init_143 : decode cX9_init 143 = .ok (.bipush 7, 2) := by decide +kernel
theorem dX9_init_145 : decode cX9_init 145 = .ok (.newarray .int, 2) := by decide +kernel
theorem dX9_init_147 : decode cX9_init 147 = .ok (.putfield 63, 3) := by decide +kernel
theorem dX9_init_150 : decode cX9_init 150 = .ok (.aload_n 0, 1) := by decide +kernel
theorem dX9_init_151 : decode cX9_init 151 = .ok (.bipush 7, 2) := by decide +kernel
theorem dX9_init_153 : decode cX9_init 153 = .ok (.newarray .int, 2) := by decide +kernel
theorem dX9_init_155 : decode cX9_init 155 = .ok (.putfield 66, 3) := by decide +kernel
theorem dX9_init_158 : decode cX9_init 158 = .ok (.aload_n 0, 1) := by decide +kernel
theorem dX9_init_159 : decode cX9_init 159 = .ok (.bipush 7, 2) := by decide +kernel
theorem dX9_init_161 : decode cX9_init 161 = .ok (.newarray .int, 2) := by decide +kernel
theorem dX9_init_163 : decode cX9_init 163 = .ok (.putfield 69, 3) := by decide +kernel
theorem dX9_init_166 : decode cX9_init 166 = .ok (.aload_n 0, 1) := by decide +kernel
theorem dX9_init_167 : decode cX9_init 167 = .ok (.bipush 7, 2) := by decide +kernel
theorem dX9_init_169 : decode cX9_init 169 = .ok (.newarray .int, 2) := by decide +kernel
theorem dX9_init_171 : decode cX9_init 171 = .ok (.putfield 72, 3) := by decide +kernel
theorem dX9_init_174 : decode cX9_init 174 = .ok (.aload_n 0, 1) := by decide +kernel
theorem dX9_init_175 : decode cX9_init 175 = .ok (.bipush 7, 2) := by decide +kernel
theorem dX9_init_177 : decode cX9_init 177 = .ok (.newarray .int, 2) := by decide +kernel
theorem dX9_init_179 : decode cX9_init 179 = .ok (.putfield 75, 3) := by decide +kernel
theorem dX9_init_182 : decode cX9_init 182 = .ok (.aload_n 0, 1) := by decide +kernel
theorem dX9_init_183 : decode cX9_init 183 = .ok (.bipush 20, 2) := by decide +kernel
theorem dX9_init_185 : decode cX9_init 185 = .ok (.newarray .int, 2) := by decide +kernel
theorem dX9_init_187 : decode cX9_init 187 = .ok (.putfield 78, 3) := by decide +kernel
theorem dX9_init_190 : decode cX9_init 190 = .ok (.aload_n 0, 1) := by decide +kernel
theorem dX9_init_191 : decode cX9_init 191 = .ok (.bipush 64, 2) := by decide +kernel
theorem dX9_init_193 : decode cX9_init 193 = .ok (.newarray .int, 2) := by decide +kernel
theorem dX9_init_195 : decode cX9_init 195 = .ok (.putfield 81, 3) := by decide +kernel
theorem dX9_init_198 : decode cX9_init 198 = .ok (.aload_n 0, 1) := by decide +kernel
theorem dX9_init_199 : decode cX9_init 199 = .ok (.bipush 64, 2) := by decide +kernel
theorem dX9_init_201 : decode cX9_init 201 = .ok (.newarray .int, 2) := by decide +kernel
theorem dX9_init_203 : decode cX9_init 203 = .ok (.putfield 84, 3) := by decide +kernel
theorem dX9_init_206 : decode cX9_init 206 = .ok (.aload_n 0, 1) := by decide +kernel
theorem dX9_init_207 : decode cX9_init 207 = .ok (.sipush 256, 3) := by decide +kernel
theorem dX9_init_210 : decode cX9_init 210 = .ok (.newarray .int, 2) := by decide +kernel
theorem dX9_init_212 : decode cX9_init 212 = .ok (.putfield 87, 3) := by decide +kernel
theorem dX9_init_215 : decode cX9_init 215 = .ok (.aload_n 0, 1) := by decide +kernel
theorem dX9_init_216 : decode cX9_init 216 = .ok (.bipush 41, 2) := by decide +kernel
theorem dX9_init_218 : decode cX9_init 218 = .ok (.newarray .int, 2) := by decide +kernel
theorem dX9_init_220 : decode cX9_init 220 = .ok (.putfield 90, 3) := by decide +kernel
theorem dX9_init_223 : decode cX9_init 223 = .ok (.aload_n 0, 1) := by decide +kernel
theorem dX9_init_224 : decode cX9_init 224 = .ok (.bipush 6, 2) := by decide +kernel
theorem dX9_init_226 : decode cX9_init 226 = .ok (.newarray .int, 2) := by decide +kernel
theorem dX9_init_228 : decode cX9_init 228 = .ok (.putfield 93, 3) := by decide +kernel
theorem dX9_init_231 : decode cX9_init 231 = .ok (.aload_n 0, 1) := by decide +kernel
theorem dX9_init_232 : decode cX9_init 232 = .ok (.bipush 6, 2) := by decide +kernel
theorem dX9_init_234 : decode cX9_init 234 = .ok (.newarray .int, 2) := by decide +kernel
theorem dX9_init_236 : decode cX9_init 236 = .ok (.putfield 96, 3) := by decide +kernel
theorem dX9_init_239 : decode cX9_init 239 = .ok (.aload_n 0, 1) := by decide +kernel
theorem dX9_init_240 : decode cX9_init 240 = .ok (.bipush 6, 2) := by decide +kernel
theorem dX9_init_242 : decode cX9_init 242 = .ok (.newarray .int, 2) := by decide +kernel
theorem dX9_init_244 : decode cX9_init 244 = .ok (.putfield 99, 3) := by decide +kernel
theorem dX9_init_247 : decode cX9_init 247 = .ok (.aload_n 0, 1) := by decide +kernel
theorem dX9_init_248 : decode cX9_init 248 = .ok (.iconst 4, 1) := by decide +kernel
theorem dX9_init_249 : decode cX9_init 249 = .ok (.newarray .boolean, 2) := by decide +kernel
theorem dX9_init_251 : decode cX9_init 251 = .ok (.putfield 102, 3) := by decide +kernel
theorem dX9_init_254 : decode cX9_init 254 = .ok (.aload_n 0, 1) := by decide +kernel
theorem dX9_init_255 : decode cX9_init 255 = .ok (.iconst 0, 1) := by decide +kernel
theorem dX9_init_256 : decode cX9_init 256 = .ok (.invokevirtual 105, 3) := by decide +kernel
theorem dX9_init_259 : decode cX9_init 259 = .ok (.return_, 1) := by decide +kernel
theorem dX9_thrown_0 : decode cX9_thrown 0 = .ok (.aload_n 0, 1) := by decide +kernel
theorem dX9_thrown_1 : decode cX9_thrown 1 = .ok (.getfield 109, 3) := by decide +kernel
theorem dX9_thrown_4 : decode cX9_thrown 4 = .ok (.ireturn, 1) := by decide +kernel
theorem dX9_within_0 : decode cX9_within 0 = .ok (.iload_n 0, 1) := by decide +kernel
theorem dX9_within_1 : decode cX9_within 1 = .ok (.iload_n 1, 1) := by decide +kernel
theorem dX9_within_2 : decode cX9_within 2 = .ok (.if_icmp .lt 12, 3) := by decide +kernel
theorem dX9_within_5 : decode cX9_within 5 = .ok (.iload_n 0, 1) := by decide +kernel
theorem dX9_within_6 : decode cX9_within 6 = .ok (.iload_n 2, 1) := by decide +kernel
theorem dX9_within_7 : decode cX9_within 7 = .ok (.if_icmp .gt 7, 3) := by decide +kernel
theorem dX9_within_10 : decode cX9_within 10 = .ok (.iconst 1, 1) := by decide +kernel
theorem dX9_within_11 : decode cX9_within 11 = .ok (.goto 4, 3) := by decide +kernel
theorem dX9_within_14 : decode cX9_within 14 = .ok (.iconst 0, 1) := by decide +kernel
theorem dX9_within_15 : decode cX9_within 15 = .ok (.ireturn, 1) := by decide +kernel
theorem dX9_between_0 : decode cX9_between 0 = .ok (.iload_n 0, 1) := by decide +kernel
theorem dX9_between_1 : decode cX9_between 1 = .ok (.iload_n 1, 1) := by decide +kernel
theorem dX9_between_2 : decode cX9_between 2 = .ok (.if_icmp .ge 7, 3) := by decide +kernel
theorem dX9_between_5 : decode cX9_between 5 = .ok (.iload_n 1, 1) := by decide +kernel
theorem dX9_between_6 : decode cX9_between 6 = .ok (.goto 13, 3) := by decide +kernel
theorem dX9_between_9 : decode cX9_between 9 = .ok (.iload_n 0, 1) := by decide +kernel
theorem dX9_between_10 : decode cX9_between 10 = .ok (.iload_n 2, 1) := by decide +kernel
theorem dX9_between_11 : decode cX9_between 11 = .ok (.if_icmp .le 7, 3) := by decide +kernel
theorem dX9_between_14 : decode cX9_between 14 = .ok (.iload_n 2, 1) := by decide +kernel
theorem dX9_between_15 : decode cX9_between 15 = .ok (.goto 4, 3) := by decide +kernel
theorem dX9_between_18 : decode cX9_between 18 = .ok (.iload_n 0, 1) := by decide +kernel
theorem dX9_between_19 : decode cX9_between 19 = .ok (.ireturn, 1) := by decide +kernel
theorem dX9_away_0 : decode cX9_away 0 = .ok (.iload_n 0, 1) := by decide +kernel
theorem dX9_away_1 : decode cX9_away 1 = .ok (.iload_n 1, 1) := by decide +kernel
theorem dX9_away_2 : decode cX9_away 2 = .ok (.if_icmp .ge 9, 3) := by decide +kernel
theorem dX9_away_5 : decode cX9_away 5 = .ok (.iload_n 1, 1) := by decide +kernel
theorem dX9_away_6 : decode cX9_away 6 = .ok (.iload_n 0, 1) := by decide +kernel
theorem dX9_away_7 : decode cX9_away 7 = .ok (.isub, 1) := by decide +kernel
theorem dX9_away_8 : decode cX9_away 8 = .ok (.goto 6, 3) := by decide +kernel
theorem dX9_away_11 : decode cX9_away 11 = .ok (.iload_n 0, 1) := by decide +kernel
theorem dX9_away_12 : decode cX9_away 12 = .ok (.iload_n 1, 1) := by decide +kernel
theorem dX9_away_13 : decode cX9_away 13 = .ok (.isub, 1) := by decide +kernel
theorem dX9_away_14 : decode cX9_away 14 = .ok (.ireturn, 1) := by decide +kernel
theorem dX9_gcd_0 : decode cX9_gcd 0 = .ok (.lload_n 0, 1) := by decide +kernel
theorem dX9_gcd_1 : decode cX9_gcd 1 = .ok (.lstore 4, 2) := by decide +kernel
theorem dX9_gcd_3 : decode cX9_gcd 3 = .ok (.lload_n 2, 1) := by decide +kernel
theorem dX9_gcd_4 : decode cX9_gcd 4 = .ok (.lstore 6, 2) := by decide +kernel
theorem dX9_gcd_6 : decode cX9_gcd 6 = .ok (.lload 6, 2) := by decide +kernel
theorem dX9_gcd_8 : decode cX9_gcd 8 = .ok (.lconst 0, 1) := by decide +kernel
theorem dX9_gcd_9 : decode cX9_gcd 9 = .ok (.lcmp, 1) := by decide +kernel
theorem dX9_gcd_10 : decode cX9_gcd 10 = .ok (.ifCond .eq 21, 3) := by decide +kernel
theorem dX9_gcd_13 : decode cX9_gcd 13 = .ok (.lload 4, 2) := by decide +kernel
theorem dX9_gcd_15 : decode cX9_gcd 15 = .ok (.lload 6, 2) := by decide +kernel
theorem dX9_gcd_17 : decode cX9_gcd 17 = .ok (.lrem, 1) := by decide +kernel
theorem dX9_gcd_18 : decode cX9_gcd 18 = .ok (.lstore 8, 2) := by decide +kernel
theorem dX9_gcd_20 : decode cX9_gcd 20 = .ok (.lload 6, 2) := by decide +kernel
theorem dX9_gcd_22 : decode cX9_gcd 22 = .ok (.lstore 4, 2) := by decide +kernel
theorem dX9_gcd_24 : decode cX9_gcd 24 = .ok (.lload 8, 2) := by decide +kernel
theorem dX9_gcd_26 : decode cX9_gcd 26 = .ok (.lstore 6, 2) := by decide +kernel
theorem dX9_gcd_28 : decode cX9_gcd 28 = .ok (.goto (-22), 3) := by decide +kernel
theorem dX9_gcd_31 : decode cX9_gcd 31 = .ok (.lload 4, 2) := by decide +kernel
theorem dX9_gcd_33 : decode cX9_gcd 33 = .ok (.lreturn, 1) := by decide +kernel
theorem dX9_feed_0 : decode cX9_feed 0 = .ok (.aload_n 0, 1) := by decide +kernel
theorem dX9_feed_1 : decode cX9_feed 1 = .ok (.iconst 0, 1) := by decide +kernel
theorem dX9_feed_2 : decode cX9_feed 2 = .ok (.putfield 109, 3) := by decide +kernel
theorem dX9_feed_5 : decode cX9_feed 5 = .ok (.iconst 0, 1) := by decide +kernel
theorem dX9_feed_6 : decode cX9_feed 6 = .ok (.istore 7, 2) := by decide +kernel
theorem dX9_feed_8 : decode cX9_feed 8 = .ok (.iload 7, 2) := by decide +kernel
theorem dX9_feed_10 : decode cX9_feed 10 = .ok (.bipush 24, 2) := by decide +kernel
theorem dX9_feed_12 : decode cX9_feed 12 = .ok (.if_icmp .ge 108, 3) := by decide +kernel
theorem dX9_feed_15 : decode cX9_feed 15 = .ok (.iload 7, 2) := by decide +kernel
theorem dX9_feed_17 : decode cX9_feed 17 = .ok (.bipush 8, 2) := by decide +kernel
theorem dX9_feed_19 : decode cX9_feed 19 = .ok (.if_icmp .ge 7, 3) := by decide +kernel
theorem dX9_feed_22 : decode cX9_feed 22 = .ok (.lload_n 1, 1) := by decide +kernel
theorem dX9_feed_23 : decode cX9_feed 23 = .ok (.goto 16, 3) := by decide +kernel
theorem dX9_feed_26 : decode cX9_feed 26 = .ok (.iload 7, 2) := by decide +kernel
theorem dX9_feed_28 : decode cX9_feed 28 = .ok (.bipush 16, 2) := by decide +kernel
theorem dX9_feed_30 : decode cX9_feed 30 = .ok (.if_icmp .ge 7, 3) := by decide +kernel
theorem dX9_feed_33 : decode cX9_feed 33 = .ok (.lload_n 3, 1) := by decide +kernel
theorem dX9_feed_34 : decode cX9_feed 34 = .ok (.goto 5, 3) := by decide +kernel
theorem dX9_feed_37 : decode cX9_feed 37 = .ok (.lload 5, 2) := by decide +kernel
theorem dX9_feed_39 : decode cX9_feed 39 = .ok (.lstore 8, 2) := by decide +kernel
theorem dX9_feed_41 : decode cX9_feed 41 = .ok (.lload 8, 2) := by decide +kernel
theorem dX9_feed_43 : decode cX9_feed 43 = .ok (.bipush 56, 2) := by decide +kernel
theorem dX9_feed_45 : decode cX9_feed 45 = .ok (.bipush 8, 2) := by decide +kernel
theorem dX9_feed_47 : decode cX9_feed 47 = .ok (.iload 7, 2) := by decide +kernel
theorem dX9_feed_49 : decode cX9_feed 49 = .ok (.bipush 7, 2) := by decide +kernel
theorem dX9_feed_51 : decode cX9_feed 51 = .ok (.iand, 1) := by decide +kernel
theorem dX9_feed_52 : decode cX9_feed 52 = .ok (.imul, 1) := by decide +kernel
theorem dX9_feed_53 : decode cX9_feed 53 = .ok (.isub, 1) := by decide +kernel
theorem dX9_feed_54 : decode cX9_feed 54 = .ok (.lushr, 1) := by decide +kernel
theorem dX9_feed_55 : decode cX9_feed 55 = .ok (.ldc2_w 113, 3) := by decide +kernel
theorem dX9_feed_58 : decode cX9_feed 58 = .ok (.land, 1) := by decide +kernel
theorem dX9_feed_59 : decode cX9_feed 59 = .ok (.l2i, 1) := by decide +kernel
theorem dX9_feed_60 : decode cX9_feed 60 = .ok (.istore 10, 2) := by decide +kernel
theorem dX9_feed_62 : decode cX9_feed 62 = .ok (.aload_n 0, 1) := by decide +kernel
theorem dX9_feed_63 : decode cX9_feed 63 = .ok (.getfield 115, 3) := by decide +kernel
theorem dX9_feed_66 : decode cX9_feed 66 = .ok (.sipush 1000, 3) := by decide +kernel
theorem dX9_feed_69 : decode cX9_feed 69 = .ok (.if_icmp .ge 45, 3) := by decide +kernel
theorem dX9_feed_72 : decode cX9_feed 72 = .ok (.iload 10, 2) := by decide +kernel
theorem dX9_feed_74 : decode cX9_feed 74 = .ok (.bipush 10, 2) := by decide +kernel
theorem dX9_feed_76 : decode cX9_feed 76 = .ok (.if_icmp .eq 17, 3) := by decide +kernel
theorem dX9_feed_79 : decode cX9_feed 79 = .ok (.iload 10, 2) := by decide +kernel
theorem dX9_feed_81 : decode cX9_feed 81 = .ok (.bipush 32, 2) := by decide +kernel
theorem dX9_feed_83 : decode cX9_feed 83 = .ok (.if_icmp .lt 31, 3) := by decide +kernel
theorem dX9_feed_86 : decode cX9_feed 86 = .ok (.iload 10, 2) := by decide +kernel
theorem dX9_feed_88 : decode cX9_feed 88 = .ok (.bipush 126, 2) := by decide +kernel
theorem dX9_feed_90 : decode cX9_feed 90 = .ok (.if_icmp .gt 24, 3) := by decide +kernel
theorem dX9_feed_93 : decode cX9_feed 93 = .ok (.aload_n 0, 1) := by decide +kernel
theorem dX9_feed_94 : decode cX9_feed 94 = .ok (.getfield 7, 3) := by decide +kernel
theorem dX9_feed_97 : decode cX9_feed 97 = .ok (.aload_n 0, 1) := by decide +kernel
theorem dX9_feed_98 : decode cX9_feed 98 = .ok (.getfield 115, 3) := by decide +kernel
theorem dX9_feed_101 : decode cX9_feed 101 = .ok (.iload 10, 2) := by decide +kernel
theorem dX9_feed_103 : decode cX9_feed 103 = .ok (.iastore, 1) := by decide +kernel
theorem dX9_feed_104 : decode cX9_feed 104 = .ok (.aload_n 0, 1) := by decide +kernel
theorem dX9_feed_105 : decode cX9_feed 105 = .ok (.dup, 1) := by decide +kernel
theorem dX9_feed_106 : decode cX9_feed 106 = .ok (.getfield 115, 3) := by decide +kernel
theorem dX9_feed_109 : decode cX9_feed 109 = .ok (.iconst 1, 1) := by decide +kernel
theorem dX9_feed_110 : decode cX9_feed 110 = .ok (.iadd, 1) := by decide +kernel
theorem dX9_feed_111 : decode cX9_feed 111 = .ok (.putfield 115, 3) := by decide +kernel
theorem dX9_feed_114 : decode cX9_feed 114 = .ok (.iinc 7 1, 3) := by decide +kernel
theorem dX9_feed_117 : decode cX9_feed 117 = .ok (.goto (-109), 3) := by decide +kernel
theorem dX9_feed_120 : decode cX9_feed 120 = .ok (.aload_n 0, 1) := by decide +kernel
theorem dX9_feed_121 : decode cX9_feed 121 = .ok (.getfield 115, 3) := by decide +kernel
theorem dX9_feed_124 : decode cX9_feed 124 = .ok (.ireturn, 1) := by decide +kernel
theorem dX9_signAt_0 : decode cX9_signAt 0 = .ok (.iload_n 1, 1) := by decide +kernel
theorem dX9_signAt_1 : decode cX9_signAt 1 = .ok (.aload_n 0, 1) := by decide +kernel
theorem dX9_signAt_2 : decode cX9_signAt 2 = .ok (.getfield 118, 3) := by decide +kernel
theorem dX9_signAt_5 : decode cX9_signAt 5 = .ok (.if_icmp .ge 12, 3) := by decide +kernel
theorem dX9_signAt_8 : decode cX9_signAt 8 = .ok (.aload_n 0, 1) := by decide +kernel
theorem dX9_signAt_9 : decode cX9_signAt 9 = .ok (.getfield 7, 3) := by decide +kernel
theorem dX9_signAt_12 : decode cX9_signAt 12 = .ok (.iload_n 1, 1) := by decide +kernel
theorem dX9_signAt_13 : decode cX9_signAt 13 = .ok (.iaload, 1) := by decide +kernel
theorem dX9_signAt_14 : decode cX9_signAt 14 = .ok (.goto 4, 3) := by decide +kernel
theorem dX9_signAt_17 : decode cX9_signAt 17 = .ok (.iconst 0, 1) := by decide +kernel
theorem dX9_signAt_18 : decode cX9_signAt 18 = .ok (.ireturn, 1) := by decide +kernel
theorem dX9_nextToken_0 : decode cX9_nextToken 0 = .ok (.aload_n 0, 1) := by decide +kernel
theorem dX9_nextToken_1 : decode cX9_nextToken 1 = .ok (.getfield 121, 3) := by decide +kernel
theorem dX9_nextToken_4 : decode cX9_nextToken 4 = .ok (.aload_n 0, 1) := by decide +kernel
theorem dX9_nextToken_5 : decode cX9_nextToken 5 = .ok (.getfield 118, 3) := by decide +kernel
theorem dX9_nextToken_8 : decode cX9_nextToken 8 = .ok (.if_icmp .ge 44, 3) := by decide +kernel
theorem dX9_nextToken_11 : decode cX9_nextToken 11 = .ok (.aload_n 0, 1) := by decide +kernel
theorem dX9_nextToken_12 : decode cX9_nextToken 12 = .ok (.getfield 7, 3) := by decide +kernel
theorem dX9_nextToken_15 : decode cX9_nextToken 15 = .ok (.aload_n 0, 1) := by decide +kernel
theorem dX9_nextToken_16 : decode cX9_nextToken 16 = .ok (.getfield 121, 3) := by decide +kernel
theorem dX9_nextToken_19 : decode cX9_nextToken 19 = .ok (.iaload, 1) := by decide +kernel
theorem dX9_nextToken_20 : decode cX9_nextToken 20 = .ok (.bipush 32, 2) := by decide +kernel
theorem dX9_nextToken_22 : decode cX9_nextToken 22 = .ok (.if_icmp .eq 17, 3) := by decide +kernel
theorem dX9_nextToken_25 : decode cX9_nextToken 25 = .ok (.aload_n 0, 1) := by decide +kernel
theorem dX9_nextToken_26 : decode cX9_nextToken 26 = .ok (.getfield 7, 3) := by decide +kernel
theorem dX9_nextToken_29 : decode cX9_nextToken 29 = .ok (.aload_n 0, 1) := by decide +kernel
theorem dX9_nextToken_30 : decode cX9_nextToken 30 = .ok (.getfield 121, 3) := by decide +kernel
theorem dX9_nextToken_33 : decode cX9_nextToken 33 = .ok (.iaload, 1) := by decide +kernel
theorem dX9_nextToken_34 : decode cX9_nextToken 34 = .ok (.bipush 10, 2) := by decide +kernel
theorem dX9_nextToken_36 : decode cX9_nextToken 36 = .ok (.if_icmp .ne 16, 3) := by decide +kernel
theorem dX9_nextToken_39 : decode cX9_nextToken 39 = .ok (.aload_n 0, 1) := by decide +kernel
theorem dX9_nextToken_40 : decode cX9_nextToken 40 = .ok (.dup, 1) := by decide +kernel
theorem dX9_nextToken_41 : decode cX9_nextToken 41 = .ok (.getfield 121, 3) := by decide +kernel
theorem dX9_nextToken_44 : decode cX9_nextToken 44 = .ok (.iconst 1, 1) := by decide +kernel
theorem dX9_nextToken_45 : decode cX9_nextToken 45 = .ok (.iadd, 1) := by decide +kernel
theorem dX9_nextToken_46 : decode cX9_nextToken 46 = .ok (.putfield 121, 3) := by decide +kernel
theorem dX9_nextToken_49 : decode cX9_nextToken 49 = .ok (.goto (-49), 3) := by decide +kernel
theorem dX9_nextToken_52 : decode cX9_nextToken 52 = .ok (.aload_n 0, 1) := by decide +kernel
theorem dX9_nextToken_53 : decode cX9_nextToken 53 = .ok (.aload_n 0, 1) := by decide +kernel
theorem dX9_nextToken_54 : decode cX9_nextToken 54 = .ok (.getfield 121, 3) := by decide +kernel
theorem dX9_nextToken_57 : decode cX9_nextToken 57 = .ok (.putfield 124, 3) := by decide +kernel
theorem dX9_nextToken_60 : decode cX9_nextToken 60 = .ok (.aload_n 0, 1) := by decide +kernel
theorem dX9_nextToken_61 : decode cX9_nextToken 61 = .ok (.lconst 0, 1) := by decide +kernel
theorem dX9_nextToken_62 : decode cX9_nextToken 62 = .ok (.putfield 127, 3) := by decide +kernel
theorem dX9_nextToken_65 : decode cX9_nextToken 65 = .ok (.aload_n 0, 1) := by decide +kernel
theorem dX9_nextToken_66 : decode cX9_nextToken 66 = .ok (.iconst 0, 1) := by decide +kernel
theorem dX9_nextToken_67 : decode cX9_nextToken 67 = .ok (.putfield 131, 3) := by decide +kernel
theorem dX9_nextToken_70 : decode cX9_nextToken 70 = .ok (.aload_n 0, 1) := by decide +kernel
theorem dX9_nextToken_71 : decode cX9_nextToken 71 = .ok (.getfield 121, 3) := by decide +kernel
theorem dX9_nextToken_74 : decode cX9_nextToken 74 = .ok (.aload_n 0, 1) := by decide +kernel
theorem dX9_nextToken_75 : decode cX9_nextToken 75 = .ok (.getfield 118, 3) := by decide +kernel
theorem dX9_nextToken_78 : decode cX9_nextToken 78 = .ok (.if_icmp .ne 9, 3) := by decide +kernel
theorem dX9_nextToken_81 : decode cX9_nextToken 81 = .ok (.aload_n 0, 1) := by decide +kernel
theorem dX9_nextToken_82 : decode cX9_nextToken 82 = .ok (.iconst 0, 1) := by decide +kernel
theorem dX9_nextToken_83 : decode cX9_nextToken 83 = .ok (.putfield 134, 3) := by decide +kernel
theorem dX9_nextToken_86 : decode cX9_nextToken 86 = .ok (.return_, 1) := by decide +kernel
theorem dX9_nextToken_87 : decode cX9_nextToken 87 = .ok (.aload_n 0, 1) := by decide +kernel
theorem dX9_nextToken_88 : decode cX9_nextToken 88 = .ok (.getfield 7, 3) := by decide +kernel
theorem dX9_nextToken_91 : decode cX9_nextToken 91 = .ok (.aload_n 0, 1) := by decide +kernel
theorem dX9_nextToken_92 : decode cX9_nextToken 92 = .ok (.getfield 121, 3) := by decide +kernel
theorem dX9_nextToken_95 : decode cX9_nextToken 95 = .ok (.iaload, 1) := by decide +kernel
theorem dX9_nextToken_96 : decode cX9_nextToken 96 = .ok (.istore_n 1, 1) := by decide +kernel
theorem dX9_nextToken_97 : decode cX9_nextToken 97 = .ok (.iload_n 1, 1) := by decide +kernel
theorem dX9_nextToken_98 : decode cX9_nextToken 98 = .ok (.bipush 97, 2) := by decide +kernel
theorem dX9_nextToken_100 : decode cX9_nextToken 100 = .ok (.if_icmp .lt 112, 3) := by decide +kernel
theorem dX9_nextToken_103 : decode cX9_nextToken 103 = .ok (.iload_n 1, 1) := by decide +kernel
theorem dX9_nextToken_104 : decode cX9_nextToken 104 = .ok (.bipush 122, 2) := by decide +kernel
theorem dX9_nextToken_106 : decode cX9_nextToken 106 = .ok (.if_icmp .gt 106, 3) := by decide +kernel
theorem dX9_nextToken_109 : decode cX9_nextToken 109 = .ok (.aload_n 0, 1) := by decide +kernel
theorem dX9_nextToken_110 : decode cX9_nextToken 110 = .ok (.aload_n 0, 1) := by decide +kernel
theorem dX9_nextToken_111 : decode cX9_nextToken 111 = .ok (.getfield 121, 3) := by decide +kernel
theorem dX9_nextToken_114 : decode cX9_nextToken 114 = .ok (.invokevirtual 137, 3) := by decide +kernel
theorem dX9_nextToken_117 : decode cX9_nextToken 117 = .ok (.bipush 97, 2) := by decide +kernel
theorem dX9_nextToken_119 : decode cX9_nextToken 119 = .ok (.if_icmp .lt 69, 3) := by decide +kernel
theorem dX9_nextToken_122 : decode cX9_nextToken 122 = .ok (.aload_n 0, 1) := by decide +kernel
theorem dX9_nextToken_123 : decode cX9_nextToken 123 = .ok (.aload_n 0, 1) := by decide +kernel
theorem dX9_nextToken_124 : decode cX9_nextToken 124 = .ok (.getfield 121, 3) := by decide +kernel
theorem dX9_nextToken_127 : decode cX9_nextToken 127 = .ok (.invokevirtual 137, 3) := by decide +kernel
theorem dX9_nextToken_130 : decode cX9_nextToken 130 = .ok (.bipush 122, 2) := by decide +kernel
theorem dX9_nextToken_132 : decode cX9_nextToken 132 = .ok (.if_icmp .gt 56, 3) := by decide +kernel
theorem dX9_nextToken_135 : decode cX9_nextToken 135 = .ok (.aload_n 0, 1) := by decide +kernel
theorem dX9_nextToken_136 : decode cX9_nextToken 136 = .ok (.getfield 121, 3) := by decide +kernel
theorem dX9_nextToken_139 : decode cX9_nextToken 139 = .ok (.aload_n 0, 1) := by decide +kernel
theorem dX9_nextToken_140 : decode cX9_nextToken 140 = .ok (.getfield 124, 3) := by decide +kernel
theorem dX9_nextToken_143 : decode cX9_nextToken 143 = .ok (.isub, 1) := by decide +kernel
theorem dX9_nextToken_144 : decode cX9_nextToken 144 = .ok (.bipush 8, 2) := by decide +kernel
theorem dX9_nextToken_146 : decode cX9_nextToken 146 = .ok (.if_icmp .ge 29, 3) := by decide +kernel
theorem dX9_nextToken_149 : decode cX9_nextToken 149 = .ok (.aload_n 0, 1) := by decide +kernel
theorem dX9_nextToken_150 : decode cX9_nextToken 150 = .ok (.aload_n 0, 1) := by decide +kernel
theorem dX9_nextToken_151 : decode cX9_nextToken 151 = .ok (.getfield 127, 3) := by decide +kernel
theorem dX9_nextToken_154 : decode cX9_nextToken 154 = .ok (.ldc2_w 141, 3) := by decide +kernel
theorem dX9_nextToken_157 : decode cX9_nextToken 157 = .ok (.lmul, 1) := by decide +kernel
theorem dX9_nextToken_158 : decode cX9_nextToken 158 = .ok (.aload_n 0, 1) := by decide +kernel
theorem dX9_nextToken_159 : decode cX9_nextToken 159 = .ok (.aload_n 0, 1) := by decide +kernel
theorem dX9_nextToken_160 : decode cX9_nextToken 160 = .ok (.getfield 121, 3) := by decide +kernel
theorem dX9_nextToken_163 : decode cX9_nextToken 163 = .ok (.invokevirtual 137, 3) := by decide +kernel
theorem dX9_nextToken_166 : decode cX9_nextToken 166 = .ok (.i2l, 1) := by decide +kernel
theorem dX9_nextToken_167 : decode cX9_nextToken 167 = .ok (.ladd, 1) := by decide +kernel
theorem dX9_nextToken_168 : decode cX9_nextToken 168 = .ok (.ldc2_w 143, 3) := by decide +kernel
theorem dX9_nextToken_171 : decode cX9_nextToken 171 = .ok (.lsub, 1) := by decide +kernel
theorem dX9_nextToken_172 : decode cX9_nextToken 172 = .ok (.putfield 127, 3) := by decide +kernel
theorem dX9_nextToken_175 : decode cX9_nextToken 175 = .ok (.aload_n 0, 1) := by decide +kernel
theorem dX9_nextToken_176 : decode cX9_nextToken 176 = .ok (.dup, 1) := by decide +kernel
theorem dX9_nextToken_177 : decode cX9_nextToken 177 = .ok (.getfield 121, 3) := by decide +kernel
theorem dX9_nextToken_180 : decode cX9_nextToken 180 = .ok (.iconst 1, 1) := by decide +kernel
theorem dX9_nextToken_181 : decode cX9_nextToken 181 = .ok (.iadd, 1) := by decide +kernel
theorem dX9_nextToken_182 : decode cX9_nextToken 182 = .ok (.putfield 121, 3) := by decide +kernel
theorem dX9_nextToken_185 : decode cX9_nextToken 185 = .ok (.goto (-76), 3) := by decide +kernel
theorem dX9_nextToken_188 : decode cX9_nextToken 188 = .ok (.aload_n 0, 1) := by decide +kernel
theorem dX9_nextToken_189 : decode cX9_nextToken 189 = .ok (.aload_n 0, 1) := by decide +kernel
theorem dX9_nextToken_190 : decode cX9_nextToken 190 = .ok (.getfield 121, 3) := by decide +kernel
theorem dX9_nextToken_193 : decode cX9_nextToken 193 = .ok (.aload_n 0, 1) := by decide +kernel
theorem dX9_nextToken_194 : decode cX9_nextToken 194 = .ok (.getfield 124, 3) := by decide +kernel
theorem dX9_nextToken_197 : decode cX9_nextToken 197 = .ok (.isub, 1) := by decide +kernel
theorem dX9_nextToken_198 : decode cX9_nextToken 198 = .ok (.bipush 8, 2) := by decide +kernel
theorem dX9_nextToken_200 : decode cX9_nextToken 200 = .ok (.if_icmp .le 7, 3) := by decide +kernel
theorem dX9_nextToken_203 : decode cX9_nextToken 203 = .ok (.iconst 4, 1) := by decide +kernel
theorem dX9_nextToken_204 : decode cX9_nextToken 204 = .ok (.goto 4, 3) := by decide +kernel
theorem dX9_nextToken_207 : decode cX9_nextToken 207 = .ok (.iconst 1, 1) := by decide +kernel
theorem dX9_nextToken_208 : decode cX9_nextToken 208 = .ok (.putfield 134, 3) := by decide +kernel
theorem dX9_nextToken_211 : decode cX9_nextToken 211 = .ok (.return_, 1) := by decide +kernel
theorem dX9_nextToken_212 : decode cX9_nextToken 212 = .ok (.iload_n 1, 1) := by decide +kernel
theorem dX9_nextToken_213 : decode cX9_nextToken 213 = .ok (.bipush 48, 2) := by decide +kernel
theorem dX9_nextToken_215 : decode cX9_nextToken 215 = .ok (.if_icmp .lt 107, 3) := by decide +kernel
theorem dX9_nextToken_218 : decode cX9_nextToken 218 = .ok (.iload_n 1, 1) := by decide +kernel
theorem dX9_nextToken_219 : decode cX9_nextToken 219 = .ok (.bipush 57, 2) := by decide +kernel
theorem dX9_nextToken_221 : decode cX9_nextToken 221 = .ok (.if_icmp .gt 101, 3) := by decide +kernel
theorem dX9_nextToken_224 : decode cX9_nextToken 224 = .ok (.aload_n 0, 1) := by decide +kernel
theorem dX9_nextToken_225 : decode cX9_nextToken 225 = .ok (.aload_n 0, 1) := by decide +kernel
theorem dX9_nextToken_226 : decode cX9_nextToken 226 = .ok (.getfield 121, 3) := by decide +kernel
theorem dX9_nextToken_229 : decode cX9_nextToken 229 = .ok (.invokevirtual 137, 3) := by decide +kernel
theorem dX9_nextToken_232 : decode cX9_nextToken 232 = .ok (.bipush 48, 2) := by decide +kernel
theorem dX9_nextToken_234 : decode cX9_nextToken 234 = .ok (.if_icmp .lt 65, 3) := by decide +kernel
theorem dX9_nextToken_237 : decode cX9_nextToken 237 = .ok (.aload_n 0, 1) := by decide +kernel
theorem dX9_nextToken_238 : decode cX9_nextToken 238 = .ok (.aload_n 0, 1) := by decide +kernel
theorem dX9_nextToken_239 : decode cX9_nextToken 239 = .ok (.getfield 121, 3) := by decide +kernel
theorem dX9_nextToken_242 : decode cX9_nextToken 242 = .ok (.invokevirtual 137, 3) := by decide +kernel
theorem dX9_nextToken_245 : decode cX9_nextToken 245 = .ok (.bipush 57, 2) := by decide +kernel
theorem dX9_nextToken_247 : decode cX9_nextToken 247 = .ok (.if_icmp .gt 52, 3) := by decide +kernel
theorem dX9_nextToken_250 : decode cX9_nextToken 250 = .ok (.aload_n 0, 1) := by decide +kernel
theorem dX9_nextToken_251 : decode cX9_nextToken 251 = .ok (.getfield 121, 3) := by decide +kernel
theorem dX9_nextToken_254 : decode cX9_nextToken 254 = .ok (.aload_n 0, 1) := by decide +kernel
theorem dX9_nextToken_255 : decode cX9_nextToken 255 = .ok (.getfield 124, 3) := by decide +kernel
theorem dX9_nextToken_258 : decode cX9_nextToken 258 = .ok (.isub, 1) := by decide +kernel
theorem dX9_nextToken_259 : decode cX9_nextToken 259 = .ok (.iconst 4, 1) := by decide +kernel
theorem dX9_nextToken_260 : decode cX9_nextToken 260 = .ok (.if_icmp .ge 26, 3) := by decide +kernel
theorem dX9_nextToken_263 : decode cX9_nextToken 263 = .ok (.aload_n 0, 1) := by decide +kernel
theorem dX9_nextToken_264 : decode cX9_nextToken 264 = .ok (.aload_n 0, 1) := by decide +kernel
theorem dX9_nextToken_265 : decode cX9_nextToken 265 = .ok (.getfield 131, 3) := by decide +kernel
theorem dX9_nextToken_268 : decode cX9_nextToken 268 = .ok (.bipush 10, 2) := by decide +kernel
theorem dX9_nextToken_270 : decode cX9_nextToken 270 = .ok (.imul, 1) := by decide +kernel
theorem dX9_nextToken_271 : decode cX9_nextToken 271 = .ok (.aload_n 0, 1) := by decide +kernel
theorem dX9_nextToken_272 : decode cX9_nextToken 272 = .ok (.aload_n 0, 1) := by decide +kernel
theorem dX9_nextToken_273 : decode cX9_nextToken 273 = .ok (.getfield 121, 3) := by decide +kernel
theorem dX9_nextToken_276 : decode cX9_nextToken 276 = .ok (.invokevirtual 137, 3) := by decide +kernel
theorem dX9_nextToken_279 : decode cX9_nextToken 279 = .ok (.iadd, 1) := by decide +kernel
