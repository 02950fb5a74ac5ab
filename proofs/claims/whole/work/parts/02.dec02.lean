theorem dX2_begin_24 : decode cX2_begin 24 = .ok (.iconst 0, 1) := by decide +kernel
theorem dX2_begin_25 : decode cX2_begin 25 = .ok (.aload_n 0, 1) := by decide +kernel
theorem dX2_begin_26 : decode cX2_begin 26 = .ok (.getfield 9, 3) := by decide +kernel
theorem dX2_begin_29 : decode cX2_begin 29 = .ok (.iconst 0, 1) := by decide +kernel
theorem dX2_begin_30 : decode cX2_begin 30 = .ok (.bipush 6, 2) := by decide +kernel
theorem dX2_begin_32 : decode cX2_begin 32 = .ok (.invokestatic 47, 3) := by decide +kernel
theorem dX2_begin_35 : decode cX2_begin 35 = .ok (.aload_n 0, 1) := by decide +kernel
theorem dX2_begin_36 : decode cX2_begin 36 = .ok (.getfield 15, 3) := by decide +kernel
theorem dX2_begin_39 : decode cX2_begin 39 = .ok (.iconst (-1), 1) := by decide +kernel
theorem dX2_begin_40 : decode cX2_begin 40 = .ok (.invokestatic 53, 3) := by decide +kernel
theorem dX2_begin_43 : decode cX2_begin 43 = .ok (.aload_n 0, 1) := by decide +kernel
theorem dX2_begin_44 : decode cX2_begin 44 = .ok (.getfield 18, 3) := by decide +kernel
theorem dX2_begin_47 : decode cX2_begin 47 = .ok (.iconst 0, 1) := by decide +kernel
theorem dX2_begin_48 : decode cX2_begin 48 = .ok (.invokestatic 53, 3) := by decide +kernel
theorem dX2_begin_51 : decode cX2_begin 51 = .ok (.return_, 1) := by decide +kernel
theorem dX2_take_0 : decode cX2_take 0 = .ok (.aload_n 0, 1) := by decide +kernel
theorem dX2_take_1 : decode cX2_take 1 = .ok (.aload_n 1, 1) := by decide +kernel
theorem dX2_take_2 : decode cX2_take 2 = .ok (.getfield 30, 3) := by decide +kernel
theorem dX2_take_5 : decode cX2_take 5 = .ok (.putfield 30, 3) := by decide +kernel
theorem dX2_take_8 : decode cX2_take 8 = .ok (.aload_n 0, 1) := by decide +kernel
theorem dX2_take_9 : decode cX2_take 9 = .ok (.aload_n 1, 1) := by decide +kernel
theorem dX2_take_10 : decode cX2_take 10 = .ok (.getfield 34, 3) := by decide +kernel
theorem dX2_take_13 : decode cX2_take 13 = .ok (.putfield 34, 3) := by decide +kernel
theorem dX2_take_16 : decode cX2_take 16 = .ok (.aload_n 0, 1) := by decide +kernel
theorem dX2_take_17 : decode cX2_take 17 = .ok (.aload_n 1, 1) := by decide +kernel
theorem dX2_take_18 : decode cX2_take 18 = .ok (.getfield 38, 3) := by decide +kernel
theorem dX2_take_21 : decode cX2_take 21 = .ok (.putfield 38, 3) := by decide +kernel
theorem dX2_take_24 : decode cX2_take 24 = .ok (.aload_n 0, 1) := by decide +kernel
theorem dX2_take_25 : decode cX2_take 25 = .ok (.aload_n 1, 1) := by decide +kernel
theorem dX2_take_26 : decode cX2_take 26 = .ok (.getfield 41, 3) := by decide +kernel
theorem dX2_take_29 : decode cX2_take 29 = .ok (.putfield 41, 3) := by decide +kernel
theorem dX2_take_32 : decode cX2_take 32 = .ok (.aload_n 1, 1) := by decide +kernel
theorem dX2_take_33 : decode cX2_take 33 = .ok (.getfield 9, 3) := by decide +kernel
theorem dX2_take_36 : decode cX2_take 36 = .ok (.iconst 0, 1) := by decide +kernel
theorem dX2_take_37 : decode cX2_take 37 = .ok (.aload_n 0, 1) := by decide +kernel
theorem dX2_take_38 : decode cX2_take 38 = .ok (.getfield 9, 3) := by decide +kernel
theorem dX2_take_41 : decode cX2_take 41 = .ok (.iconst 0, 1) := by decide +kernel
theorem dX2_take_42 : decode cX2_take 42 = .ok (.bipush 6, 2) := by decide +kernel
theorem dX2_take_44 : decode cX2_take 44 = .ok (.invokestatic 47, 3) := by decide +kernel
theorem dX2_take_47 : decode cX2_take 47 = .ok (.aload_n 1, 1) := by decide +kernel
theorem dX2_take_48 : decode cX2_take 48 = .ok (.getfield 15, 3) := by decide +kernel
theorem dX2_take_51 : decode cX2_take 51 = .ok (.iconst 0, 1) := by decide +kernel
theorem dX2_take_52 : decode cX2_take 52 = .ok (.aload_n 0, 1) := by decide +kernel
theorem dX2_take_53 : decode cX2_take 53 = .ok (.getfield 15, 3) := by decide +kernel
theorem dX2_take_56 : decode cX2_take 56 = .ok (.iconst 0, 1) := by decide +kernel
theorem dX2_take_57 : decode cX2_take 57 = .ok (.bipush 6, 2) := by decide +kernel
theorem dX2_take_59 : decode cX2_take 59 = .ok (.invokestatic 47, 3) := by decide +kernel
theorem dX2_take_62 : decode cX2_take 62 = .ok (.aload_n 1, 1) := by decide +kernel
theorem dX2_take_63 : decode cX2_take 63 = .ok (.getfield 18, 3) := by decide +kernel
theorem dX2_take_66 : decode cX2_take 66 = .ok (.iconst 0, 1) := by decide +kernel
theorem dX2_take_67 : decode cX2_take 67 = .ok (.aload_n 0, 1) := by decide +kernel
theorem dX2_take_68 : decode cX2_take 68 = .ok (.getfield 18, 3) := by decide +kernel
theorem dX2_take_71 : decode cX2_take 71 = .ok (.iconst 0, 1) := by decide +kernel
theorem dX2_take_72 : decode cX2_take 72 = .ok (.bipush 6, 2) := by decide +kernel
theorem dX2_take_74 : decode cX2_take 74 = .ok (.invokestatic 47, 3) := by decide +kernel
theorem dX2_take_77 : decode cX2_take 77 = .ok (.aload_n 1, 1) := by decide +kernel
theorem dX2_take_78 : decode cX2_take 78 = .ok (.getfield 21, 3) := by decide +kernel
theorem dX2_take_81 : decode cX2_take 81 = .ok (.iconst 0, 1) := by decide +kernel
theorem dX2_take_82 : decode cX2_take 82 = .ok (.aload_n 0, 1) := by decide +kernel
theorem dX2_take_83 : decode cX2_take 83 = .ok (.getfield 21, 3) := by decide +kernel
theorem dX2_take_86 : decode cX2_take 86 = .ok (.iconst 0, 1) := by decide +kernel
theorem dX2_take_87 : decode cX2_take 87 = .ok (.bipush 10, 2) := by decide +kernel
theorem dX2_take_89 : decode cX2_take 89 = .ok (.invokestatic 47, 3) := by decide +kernel
theorem dX2_take_92 : decode cX2_take 92 = .ok (.aload_n 1, 1) := by decide +kernel
theorem dX2_take_93 : decode cX2_take 93 = .ok (.getfield 24, 3) := by decide +kernel
theorem dX2_take_96 : decode cX2_take 96 = .ok (.iconst 0, 1) := by decide +kernel
theorem dX2_take_97 : decode cX2_take 97 = .ok (.aload_n 0, 1) := by decide +kernel
theorem dX2_take_98 : decode cX2_take 98 = .ok (.getfield 24, 3) := by decide +kernel
theorem dX2_take_101 : decode cX2_take 101 = .ok (.iconst 0, 1) := by decide +kernel
theorem dX2_take_102 : decode cX2_take 102 = .ok (.bipush 10, 2) := by decide +kernel
theorem dX2_take_104 : decode cX2_take 104 = .ok (.invokestatic 47, 3) := by decide +kernel
theorem dX2_take_107 : decode cX2_take 107 = .ok (.aload_n 1, 1) := by decide +kernel
theorem dX2_take_108 : decode cX2_take 108 = .ok (.getfield 27, 3) := by decide +kernel
theorem dX2_take_111 : decode cX2_take 111 = .ok (.iconst 0, 1) := by decide +kernel
theorem dX2_take_112 : decode cX2_take 112 = .ok (.aload_n 0, 1) := by decide +kernel
theorem dX2_take_113 : decode cX2_take 113 = .ok (.getfield 27, 3) := by decide +kernel
theorem dX2_take_116 : decode cX2_take 116 = .ok (.iconst 0, 1) := by decide +kernel
theorem dX2_take_117 : decode cX2_take 117 = .ok (.bipush 10, 2) := by decide +kernel
theorem dX2_take_119 : decode cX2_take 119 = .ok (.invokestatic 47, 3) := by decide +kernel
theorem dX2_take_122 : decode cX2_take 122 = .ok (.return_, 1) := by decide +kernel
theorem dX2_isLost_0 : decode cX2_isLost 0 = .ok (.aload_n 0, 1) := by decide +kernel
theorem dX2_isLost_1 : decode cX2_isLost 1 = .ok (.getfield 38, 3) := by decide +kernel
theorem dX2_isLost_4 : decode cX2_isLost 4 = .ok (.iload_n 1, 1) := by decide +kernel
theorem dX2_isLost_5 : decode cX2_isLost 5 = .ok (.ishr, 1) := by decide +kernel
theorem dX2_isLost_6 : decode cX2_isLost 6 = .ok (.iconst 1, 1) := by decide +kernel
theorem dX2_isLost_7 : decode cX2_isLost 7 = .ok (.iand, 1) := by decide +kernel
theorem dX2_isLost_8 : decode cX2_isLost 8 = .ok (.ifCond .eq 7, 3) := by decide +kernel
theorem dX2_isLost_11 : decode cX2_isLost 11 = .ok (.iconst 1, 1) := by decide +kernel
theorem dX2_isLost_12 : decode cX2_isLost 12 = .ok (.goto 4, 3) := by decide +kernel
theorem dX2_isLost_15 : decode cX2_isLost 15 = .ok (.iconst 0, 1) := by decide +kernel
theorem dX2_isLost_16 : decode cX2_isLost 16 = .ok (.ireturn, 1) := by decide +kernel
theorem dX2_passMinute_0 : decode cX2_passMinute 0 = .ok (.iconst 0, 1) := by decide +kernel
theorem dX2_passMinute_1 : decode cX2_passMinute 1 = .ok (.istore_n 2, 1) := by decide +kernel
theorem dX2_passMinute_2 : decode cX2_passMinute 2 = .ok (.iload_n 2, 1) := by decide +kernel
theorem dX2_passMinute_3 : decode cX2_passMinute 3 = .ok (.aload_n 0, 1) := by decide +kernel
theorem dX2_passMinute_4 : decode cX2_passMinute 4 = .ok (.getfield 30, 3) := by decide +kernel
theorem dX2_passMinute_7 : decode cX2_passMinute 7 = .ok (.getfield 59, 3) := by decide +kernel
theorem dX2_passMinute_10 : decode cX2_passMinute 10 = .ok (.if_icmp .ge 45, 3) := by decide +kernel
theorem dX2_passMinute_13 : decode cX2_passMinute 13 = .ok (.aload_n 0, 1) := by decide +kernel
theorem dX2_passMinute_14 : decode cX2_passMinute 14 = .ok (.iload_n 2, 1) := by decide +kernel
theorem dX2_passMinute_15 : decode cX2_passMinute 15 = .ok (.invokevirtual 62, 3) := by decide +kernel
theorem dX2_passMinute_18 : decode cX2_passMinute 18 = .ok (.ifCond .ne 31, 3) := by decide +kernel
theorem dX2_passMinute_21 : decode cX2_passMinute 21 = .ok (.aload_n 0, 1) := by decide +kernel
theorem dX2_passMinute_22 : decode cX2_passMinute 22 = .ok (.iload_n 2, 1) := by decide +kernel
theorem dX2_passMinute_23 : decode cX2_passMinute 23 = .ok (.aload_n 0, 1) := by decide +kernel
theorem dX2_passMinute_24 : decode cX2_passMinute 24 = .ok (.iload_n 2, 1) := by decide +kernel
theorem dX2_passMinute_25 : decode cX2_passMinute 25 = .ok (.invokevirtual 66, 3) := by decide +kernel
theorem dX2_passMinute_28 : decode cX2_passMinute 28 = .ok (.ifCond .eq 12, 3) := by decide +kernel
theorem dX2_passMinute_31 : decode cX2_passMinute 31 = .ok (.aload_n 0, 1) := by decide +kernel
theorem dX2_passMinute_32 : decode cX2_passMinute 32 = .ok (.getfield 9, 3) := by decide +kernel
theorem dX2_passMinute_35 : decode cX2_passMinute 35 = .ok (.iload_n 2, 1) := by decide +kernel
theorem dX2_passMinute_36 : decode cX2_passMinute 36 = .ok (.iaload, 1) := by decide +kernel
theorem dX2_passMinute_37 : decode cX2_passMinute 37 = .ok (.goto 9, 3) := by decide +kernel
theorem dX2_passMinute_40 : decode cX2_passMinute 40 = .ok (.aload_n 0, 1) := by decide +kernel
theorem dX2_passMinute_41 : decode cX2_passMinute 41 = .ok (.iload_n 2, 1) := by decide +kernel
theorem dX2_passMinute_42 : decode cX2_passMinute 42 = .ok (.aload_n 1, 1) := by decide +kernel
theorem dX2_passMinute_43 : decode cX2_passMinute 43 = .ok (.invokevirtual 69, 3) := by decide +kernel
theorem dX2_passMinute_46 : decode cX2_passMinute 46 = .ok (.invokevirtual 73, 3) := by decide +kernel
theorem dX2_passMinute_49 : decode cX2_passMinute 49 = .ok (.iinc 2 1, 3) := by decide +kernel
theorem dX2_passMinute_52 : decode cX2_passMinute 52 = .ok (.goto (-50), 3) := by decide +kernel
theorem dX2_passMinute_55 : decode cX2_passMinute 55 = .ok (.aload_n 0, 1) := by decide +kernel
theorem dX2_passMinute_56 : decode cX2_passMinute 56 = .ok (.dup, 1) := by decide +kernel
theorem dX2_passMinute_57 : decode cX2_passMinute 57 = .ok (.getfield 34, 3) := by decide +kernel
theorem dX2_passMinute_60 : decode cX2_passMinute 60 = .ok (.iconst 1, 1) := by decide +kernel
theorem dX2_passMinute_61 : decode cX2_passMinute 61 = .ok (.iadd, 1) := by decide +kernel
theorem dX2_passMinute_62 : decode cX2_passMinute 62 = .ok (.putfield 34, 3) := by decide +kernel
theorem dX2_passMinute_65 : decode cX2_passMinute 65 = .ok (.return_, 1) := by decide +kernel
theorem dX2_haulDown_0 : decode cX2_haulDown 0 = .ok (.iconst 0, 1) := by decide +kernel
theorem dX2_haulDown_1 : decode cX2_haulDown 1 = .ok (.istore_n 1, 1) := by decide +kernel
theorem dX2_haulDown_2 : decode cX2_haulDown 2 = .ok (.iload_n 1, 1) := by decide +kernel
theorem dX2_haulDown_3 : decode cX2_haulDown 3 = .ok (.aload_n 0, 1) := by decide +kernel
theorem dX2_haulDown_4 : decode cX2_haulDown 4 = .ok (.getfield 30, 3) := by decide +kernel
theorem dX2_haulDown_7 : decode cX2_haulDown 7 = .ok (.getfield 59, 3) := by decide +kernel
theorem dX2_haulDown_10 : decode cX2_haulDown 10 = .ok (.if_icmp .ge 57, 3) := by decide +kernel
theorem dX2_haulDown_13 : decode cX2_haulDown 13 = .ok (.aload_n 0, 1) := by decide +kernel
theorem dX2_haulDown_14 : decode cX2_haulDown 14 = .ok (.iload_n 1, 1) := by decide +kernel
theorem dX2_haulDown_15 : decode cX2_haulDown 15 = .ok (.invokevirtual 62, 3) := by decide +kernel
theorem dX2_haulDown_18 : decode cX2_haulDown 18 = .ok (.ifCond .ne 43, 3) := by decide +kernel
theorem dX2_haulDown_21 : decode cX2_haulDown 21 = .ok (.aload_n 0, 1) := by decide +kernel
theorem dX2_haulDown_22 : decode cX2_haulDown 22 = .ok (.iload_n 1, 1) := by decide +kernel
theorem dX2_haulDown_23 : decode cX2_haulDown 23 = .ok (.aload_n 0, 1) := by decide +kernel
theorem dX2_haulDown_24 : decode cX2_haulDown 24 = .ok (.iload_n 1, 1) := by decide +kernel
theorem dX2_haulDown_25 : decode cX2_haulDown 25 = .ok (.invokevirtual 66, 3) := by decide +kernel
theorem dX2_haulDown_28 : decode cX2_haulDown 28 = .ok (.ifCond .eq 12, 3) := by decide +kernel
theorem dX2_haulDown_31 : decode cX2_haulDown 31 = .ok (.aload_n 0, 1) := by decide +kernel
theorem dX2_haulDown_32 : decode cX2_haulDown 32 = .ok (.getfield 9, 3) := by decide +kernel
theorem dX2_haulDown_35 : decode cX2_haulDown 35 = .ok (.iload_n 1, 1) := by decide +kernel
theorem dX2_haulDown_36 : decode cX2_haulDown 36 = .ok (.iaload, 1) := by decide +kernel
theorem dX2_haulDown_37 : decode cX2_haulDown 37 = .ok (.goto 21, 3) := by decide +kernel
theorem dX2_haulDown_40 : decode cX2_haulDown 40 = .ok (.iconst 0, 1) := by decide +kernel
theorem dX2_haulDown_41 : decode cX2_haulDown 41 = .ok (.aload_n 0, 1) := by decide +kernel
theorem dX2_haulDown_42 : decode cX2_haulDown 42 = .ok (.getfield 9, 3) := by decide +kernel
theorem dX2_haulDown_45 : decode cX2_haulDown 45 = .ok (.iload_n 1, 1) := by decide +kernel
theorem dX2_haulDown_46 : decode cX2_haulDown 46 = .ok (.iaload, 1) := by decide +kernel
theorem dX2_haulDown_47 : decode cX2_haulDown 47 = .ok (.aload_n 0, 1) := by decide +kernel
theorem dX2_haulDown_48 : decode cX2_haulDown 48 = .ok (.getfield 30, 3) := by decide +kernel
theorem dX2_haulDown_51 : decode cX2_haulDown 51 = .ok (.getfield 77, 3) := by decide +kernel
theorem dX2_haulDown_54 : decode cX2_haulDown 54 = .ok (.isub, 1) := by decide +kernel
theorem dX2_haulDown_55 : decode cX2_haulDown 55 = .ok (.invokestatic 80, 3) := by decide +kernel
theorem dX2_haulDown_58 : decode cX2_haulDown 58 = .ok (.invokevirtual 73, 3) := by decide +kernel
theorem dX2_haulDown_61 : decode cX2_haulDown 61 = .ok (.iinc 1 1, 3) := by decide +kernel
theorem dX2_haulDown_64 : decode cX2_haulDown 64 = .ok (.goto (-62), 3) := by decide +kernel
theorem dX2_haulDown_67 : decode cX2_haulDown 67 = .ok (.aload_n 0, 1) := by decide +kernel
theorem dX2_haulDown_68 : decode cX2_haulDown 68 = .ok (.dup, 1) := by decide +kernel
theorem dX2_haulDown_69 : decode cX2_haulDown 69 = .ok (.getfield 34, 3) := by decide +kernel
theorem dX2_haulDown_72 : decode cX2_haulDown 72 = .ok (.iconst 1, 1) := by decide +kernel
theorem dX2_haulDown_73 : decode cX2_haulDown 73 = .ok (.iadd, 1) := by decide +kernel
theorem dX2_haulDown_74 : decode cX2_haulDown 74 = .ok (.putfield 34, 3) := by decide +kernel
theorem dX2_haulDown_77 : decode cX2_haulDown 77 = .ok (.return_, 1) := by decide +kernel
theorem dX2_isAllDown_0 : decode cX2_isAllDown 0 = .ok (.iconst 0, 1) := by decide +kernel
theorem dX2_isAllDown_1 : decode cX2_isAllDown 1 = .ok (.istore_n 1, 1) := by decide +kernel
theorem dX2_isAllDown_2 : decode cX2_isAllDown 2 = .ok (.iload_n 1, 1) := by decide +kernel
theorem dX2_isAllDown_3 : decode cX2_isAllDown 3 = .ok (.aload_n 0, 1) := by decide +kernel
theorem dX2_isAllDown_4 : decode cX2_isAllDown 4 = .ok (.getfield 30, 3) := by decide +kernel
theorem dX2_isAllDown_7 : decode cX2_isAllDown 7 = .ok (.getfield 59, 3) := by decide +kernel
theorem dX2_isAllDown_10 : decode cX2_isAllDown 10 = .ok (.if_icmp .ge 28, 3) := by decide +kernel
theorem dX2_isAllDown_13 : decode cX2_isAllDown 13 = .ok (.aload_n 0, 1) := by decide +kernel
theorem dX2_isAllDown_14 : decode cX2_isAllDown 14 = .ok (.iload_n 1, 1) := by decide +kernel
theorem dX2_isAllDown_15 : decode cX2_isAllDown 15 = .ok (.invokevirtual 62, 3) := by decide +kernel
theorem dX2_isAllDown_18 : decode cX2_isAllDown 18 = .ok (.ifCond .ne 14, 3) := by decide +kernel
theorem dX2_isAllDown_21 : decode cX2_isAllDown 21 = .ok (.aload_n 0, 1) := by decide +kernel
theorem dX2_isAllDown_22 : decode cX2_isAllDown 22 = .ok (.getfield 9, 3) := by decide +kernel
theorem dX2_isAllDown_25 : decode cX2_isAllDown 25 = .ok (.iload_n 1, 1) := by decide +kernel
theorem dX2_isAllDown_26 : decode cX2_isAllDown 26 = .ok (.iaload, 1) := by decide +kernel
theorem dX2_isAllDown_27 : decode cX2_isAllDown 27 = .ok (.ifCond .le 5, 3) := by decide +kernel
theorem dX2_isAllDown_30 : decode cX2_isAllDown 30 = .ok (.iconst 0, 1) := by decide +kernel
theorem dX2_isAllDown_31 : decode cX2_isAllDown 31 = .ok (.ireturn, 1) := by decide +kernel
theorem dX2_isAllDown_32 : decode cX2_isAllDown 32 = .ok (.iinc 1 1, 3) := by decide +kernel
theorem dX2_isAllDown_35 : decode cX2_isAllDown 35 = .ok (.goto (-33), 3) := by decide +kernel
theorem dX2_isAllDown_38 : decode cX2_isAllDown 38 = .ok (.iconst 1, 1) := by decide +kernel
theorem dX2_isAllDown_39 : decode cX2_isAllDown 39 = .ok (.ireturn, 1) := by decide +kernel
theorem dX2_rests_0 : decode cX2_rests 0 = .ok (.aload_n 0, 1) := by decide +kernel
theorem dX2_rests_1 : decode cX2_rests 1 = .ok (.getfield 18, 3) := by decide +kernel
theorem dX2_rests_4 : decode cX2_rests 4 = .ok (.iload_n 1, 1) := by decide +kernel
theorem dX2_rests_5 : decode cX2_rests 5 = .ok (.iaload, 1) := by decide +kernel
theorem dX2_rests_6 : decode cX2_rests 6 = .ok (.aload_n 0, 1) := by decide +kernel
theorem dX2_rests_7 : decode cX2_rests 7 = .ok (.getfield 30, 3) := by decide +kernel
theorem dX2_rests_10 : decode cX2_rests 10 = .ok (.getfield 86, 3) := by decide +kernel
theorem dX2_rests_13 : decode cX2_rests 13 = .ok (.if_icmp .ge 26, 3) := by decide +kernel
theorem dX2_rests_16 : decode cX2_rests 16 = .ok (.aload_n 0, 1) := by decide +kernel
theorem dX2_rests_17 : decode cX2_rests 17 = .ok (.getfield 30, 3) := by decide +kernel
theorem dX2_rests_20 : decode cX2_rests 20 = .ok (.getfield 89, 3) := by decide +kernel
theorem dX2_rests_23 : decode cX2_rests 23 = .ok (.iload_n 1, 1) := by decide +kernel
theorem dX2_rests_24 : decode cX2_rests 24 = .ok (.iaload, 1) := by decide +kernel
theorem dX2_rests_25 : decode cX2_rests 25 = .ok (.iconst 5, 1) := by decide +kernel
theorem dX2_rests_26 : decode cX2_rests 26 = .ok (.if_icmp .ne 17, 3) := by decide +kernel
theorem dX2_rests_29 : decode cX2_rests 29 = .ok (.aload_n 0, 1) := by decide +kernel
theorem dX2_rests_30 : decode cX2_rests 30 = .ok (.getfield 34, 3) := by decide +kernel
theorem dX2_rests_33 : decode cX2_rests 33 = .ok (.iconst 1, 1) := by decide +kernel
theorem dX2_rests_34 : decode cX2_rests 34 = .ok (.iand, 1) := by decide +kernel
theorem dX2_rests_35 : decode cX2_rests 35 = .ok (.iconst 1, 1) := by decide +kernel
theorem dX2_rests_36 : decode cX2_rests 36 = .ok (.if_icmp .ne 7, 3) := by decide +kernel
theorem dX2_rests_39 : decode cX2_rests 39 = .ok (.iconst 1, 1) := by decide +kernel
theorem dX2_rests_40 : decode cX2_rests 40 = .ok (.goto 4, 3) := by decide +kernel
theorem dX2_rests_43 : decode cX2_rests 43 = .ok (.iconst 0, 1) := by decide +kernel
theorem dX2_rests_44 : decode cX2_rests 44 = .ok (.ireturn, 1) := by decide +kernel
theorem dX2_aim_0 : decode cX2_aim 0 = .ok (.iconst 0, 1) := by decide +kernel
theorem dX2_aim_1 : decode cX2_aim 1 = .ok (.istore_n 3, 1) := by decide +kernel
theorem dX2_aim_2 : decode cX2_aim 2 = .ok (.aload_n 0, 1) := by decide +kernel
theorem dX2_aim_3 : decode cX2_aim 3 = .ok (.getfield 15, 3) := by decide +kernel
theorem dX2_aim_6 : decode cX2_aim 6 = .ok (.iload_n 1, 1) := by decide +kernel
theorem dX2_aim_7 : decode cX2_aim 7 = .ok (.iaload, 1) := by decide +kernel
theorem dX2_aim_8 : decode cX2_aim 8 = .ok (.iconst (-1), 1) := by decide +kernel
theorem dX2_aim_9 : decode cX2_aim 9 = .ok (.if_icmp .eq 20, 3) := by decide +kernel
theorem dX2_aim_12 : decode cX2_aim 12 = .ok (.aload_n 0, 1) := by decide +kernel
theorem dX2_aim_13 : decode cX2_aim 13 = .ok (.getfield 15, 3) := by decide +kernel
theorem dX2_aim_16 : decode cX2_aim 16 = .ok (.iload_n 1, 1) := by decide +kernel
theorem dX2_aim_17 : decode cX2_aim 17 = .ok (.iaload, 1) := by decide +kernel
theorem dX2_aim_18 : decode cX2_aim 18 = .ok (.aload_n 0, 1) := by decide +kernel
theorem dX2_aim_19 : decode cX2_aim 19 = .ok (.getfield 9, 3) := by decide +kernel
theorem dX2_aim_22 : decode cX2_aim 22 = .ok (.iload_n 1, 1) := by decide +kernel
theorem dX2_aim_23 : decode cX2_aim 23 = .ok (.iaload, 1) := by decide +kernel
theorem dX2_aim_24 : decode cX2_aim 24 = .ok (.isub, 1) := by decide +kernel
theorem dX2_aim_25 : decode cX2_aim 25 = .ok (.istore_n 3, 1) := by decide +kernel
theorem dX2_aim_26 : decode cX2_aim 26 = .ok (.goto 20, 3) := by decide +kernel
theorem dX2_aim_29 : decode cX2_aim 29 = .ok (.aload_n 0, 1) := by decide +kernel
theorem dX2_aim_30 : decode cX2_aim 30 = .ok (.getfield 30, 3) := by decide +kernel
theorem dX2_aim_33 : decode cX2_aim 33 = .ok (.invokevirtual 92, 3) := by decide +kernel
theorem dX2_aim_36 : decode cX2_aim 36 = .ok (.ifCond .eq 10, 3) := by decide +kernel
theorem dX2_aim_39 : decode cX2_aim 39 = .ok (.aload_n 2, 1) := by decide +kernel
theorem dX2_aim_40 : decode cX2_aim 40 = .ok (.aload_n 0, 1) := by decide +kernel
theorem dX2_aim_41 : decode cX2_aim 41 = .ok (.iload_n 1, 1) := by decide +kernel
theorem dX2_aim_42 : decode cX2_aim 42 = .ok (.invokevirtual 96, 3) := by decide +kernel
theorem dX2_aim_45 : decode cX2_aim 45 = .ok (.istore_n 3, 1) := by decide +kernel
theorem dX2_aim_46 : decode cX2_aim 46 = .ok (.aload_n 0, 1) := by decide +kernel
theorem dX2_aim_47 : decode cX2_aim 47 = .ok (.getfield 9, 3) := by decide +kernel
theorem dX2_aim_50 : decode cX2_aim 50 = .ok (.iload_n 1, 1) := by decide +kernel
theorem dX2_aim_51 : decode cX2_aim 51 = .ok (.iaload, 1) := by decide +kernel
theorem dX2_aim_52 : decode cX2_aim 52 = .ok (.iload_n 3, 1) := by decide +kernel
theorem dX2_aim_53 : decode cX2_aim 53 = .ok (.aload_n 0, 1) := by decide +kernel
theorem dX2_aim_54 : decode cX2_aim 54 = .ok (.getfield 30, 3) := by decide +kernel
theorem dX2_aim_57 : decode cX2_aim 57 = .ok (.getfield 77, 3) := by decide +kernel
theorem dX2_aim_60 : decode cX2_aim 60 = .ok (.ineg, 1) := by decide +kernel
theorem dX2_aim_61 : decode cX2_aim 61 = .ok (.aload_n 0, 1) := by decide +kernel
theorem dX2_aim_62 : decode cX2_aim 62 = .ok (.getfield 30, 3) := by decide +kernel
theorem dX2_aim_65 : decode cX2_aim 65 = .ok (.getfield 77, 3) := by decide +kernel
theorem dX2_aim_68 : decode cX2_aim 68 = .ok (.invokestatic 102, 3) := by decide +kernel
theorem dX2_aim_71 : decode cX2_aim 71 = .ok (.iadd, 1) := by decide +kernel
theorem dX2_aim_72 : decode cX2_aim 72 = .ok (.iconst 0, 1) := by decide +kernel
theorem dX2_aim_73 : decode cX2_aim 73 = .ok (.bipush 40, 2) := by decide +kernel
theorem dX2_aim_75 : decode cX2_aim 75 = .ok (.invokestatic 102, 3) := by decide +kernel
theorem dX2_aim_78 : decode cX2_aim 78 = .ok (.ireturn, 1) := by decide +kernel
theorem dX2_haulTo_0 : decode cX2_haulTo 0 = .ok (.aload_n 0, 1) := by decide +kernel
theorem dX2_haulTo_1 : decode cX2_haulTo 1 = .ok (.getfield 18, 3) := by decide +kernel
theorem dX2_haulTo_4 : decode cX2_haulTo 4 = .ok (.iload_n 1, 1) := by decide +kernel
theorem dX2_haulTo_5 : decode cX2_haulTo 5 = .ok (.iload_n 2, 1) := by decide +kernel
theorem dX2_haulTo_6 : decode cX2_haulTo 6 = .ok (.aload_n 0, 1) := by decide +kernel
theorem dX2_haulTo_7 : decode cX2_haulTo 7 = .ok (.getfield 9, 3) := by decide +kernel
theorem dX2_haulTo_10 : decode cX2_haulTo 10 = .ok (.iload_n 1, 1) := by decide +kernel
theorem dX2_haulTo_11 : decode cX2_haulTo 11 = .ok (.iaload, 1) := by decide +kernel
theorem dX2_haulTo_12 : decode cX2_haulTo 12 = .ok (.if_icmp .ne 7, 3) := by decide +kernel
theorem dX2_haulTo_15 : decode cX2_haulTo 15 = .ok (.iconst 0, 1) := by decide +kernel
theorem dX2_haulTo_16 : decode cX2_haulTo 16 = .ok (.goto 11, 3) := by decide +kernel
theorem dX2_haulTo_19 : decode cX2_haulTo 19 = .ok (.aload_n 0, 1) := by decide +kernel
theorem dX2_haulTo_20 : decode cX2_haulTo 20 = .ok (.getfield 18, 3) := by decide +kernel
theorem dX2_haulTo_23 : decode cX2_haulTo 23 = .ok (.iload_n 1, 1) := by decide +kernel
theorem dX2_haulTo_24 : decode cX2_haulTo 24 = .ok (.iaload, 1) := by decide +kernel
theorem dX2_haulTo_25 : decode cX2_haulTo 25 = .ok (.iconst 1, 1) := by decide +kernel
theorem dX2_haulTo_26 : decode cX2_haulTo 26 = .ok (.iadd, 1) := by decide +kernel
theorem dX2_haulTo_27 : decode cX2_haulTo 27 = .ok (.iastore, 1) := by decide +kernel
theorem dX2_haulTo_28 : decode cX2_haulTo 28 = .ok (.aload_n 0, 1) := by decide +kernel
theorem dX2_haulTo_29 : decode cX2_haulTo 29 = .ok (.getfield 9, 3) := by decide +kernel
theorem dX2_haulTo_32 : decode cX2_haulTo 32 = .ok (.iload_n 1, 1) := by decide +kernel
theorem dX2_haulTo_33 : decode cX2_haulTo 33 = .ok (.iload_n 2, 1) := by decide +kernel
theorem dX2_haulTo_34 : decode cX2_haulTo 34 = .ok (.iastore, 1) := by decide +kernel
theorem dX2_haulTo_35 : decode cX2_haulTo 35 = .ok (.aload_n 0, 1) := by decide +kernel
theorem dX2_haulTo_36 : decode cX2_haulTo 36 = .ok (.getfield 15, 3) := by decide +kernel
theorem dX2_haulTo_39 : decode cX2_haulTo 39 = .ok (.iload_n 1, 1) := by decide +kernel
theorem dX2_haulTo_40 : decode cX2_haulTo 40 = .ok (.iaload, 1) := by decide +kernel
theorem dX2_haulTo_41 : decode cX2_haulTo 41 = .ok (.iload_n 2, 1) := by decide +kernel
theorem dX2_haulTo_42 : decode cX2_haulTo 42 = .ok (.if_icmp .ne 10, 3) := by decide +kernel
theorem dX2_haulTo_45 : decode cX2_haulTo 45 = .ok (.aload_n 0, 1) := by decide +kernel
theorem dX2_haulTo_46 : decode cX2_haulTo 46 = .ok (.getfield 15, 3) := by decide +kernel
theorem dX2_haulTo_49 : decode cX2_haulTo 49 = .ok (.iload_n 1, 1) := by decide +kernel
theorem dX2_haulTo_50 : decode cX2_haulTo 50 = .ok (.iconst (-1), 1) := by decide +kernel
theorem dX2_haulTo_51 : decode cX2_haulTo 51 = .ok (.iastore, 1) := by decide +kernel
theorem dX2_haulTo_52 : decode cX2_haulTo 52 = .ok (.return_, 1) := by decide +kernel
theorem dX3_init_0 : decode cX3_init 0 = .ok (.aload_n 0, 1) := by decide +kernel
theorem dX3_init_1 : decode cX3_init 1 = .ok (.invokespecial 1, 3) := by decide +kernel
theorem dX3_init_4 : decode cX3_init 4 = .ok (.aload_n 0, 1) := by decide +kernel
theorem dX3_init_5 : decode cX3_init 5 = .ok (.bipush 25, 2) := by decide +kernel
theorem dX3_init_7 : decode cX3_init 7 = .ok (.newarray .int, 2) := by decide +kernel
theorem dX3_init_9 : decode cX3_init 9 = .ok (.putfield 9, 3) := by decide +kernel
theorem dX3_init_12 : decode cX3_init 12 = .ok (.aload_n 0, 1) := by decide +kernel
theorem dX3_init_13 : decode cX3_init 13 = .ok (.bipush 32, 2) := by decide +kernel
theorem dX3_init_15 : decode cX3_init 15 = .ok (.newarray .int, 2) := by decide +kernel
theorem dX3_init_17 : decode cX3_init 17 = .ok (.putfield 15, 3) := by decide +kernel
theorem dX3_init_20 : decode cX3_init 20 = .ok (.return_, 1) := by decide +kernel
theorem dX3_factCode_0 : decode cX3_factCode 0 = .ok (.iconst (-1), 1) := by decide +kernel
theorem dX3_factCode_1 : decode cX3_factCode 1 = .ok (.iload_n 0, 1) := by decide +kernel
theorem dX3_factCode_2 : decode cX3_factCode 2 = .ok (.isub, 1) := by decide +kernel
theorem dX3_factCode_3 : decode cX3_factCode 3 = .ok (.ireturn, 1) := by decide +kernel
theorem dX3_reckon_0 : decode cX3_reckon 0 = .ok (.iconst 0, 1) := by decide +kernel
theorem dX3_reckon_1 : decode cX3_reckon 1 = .ok (.istore_n 2, 1) := by decide +kernel
theorem dX3_reckon_2 : decode cX3_reckon 2 = .ok (.iconst 0, 1) := by decide +kernel
theorem dX3_reckon_3 : decode cX3_reckon 3 = .ok (.istore_n 3, 1) := by decide +kernel
theorem dX3_reckon_4 : decode cX3_reckon 4 = .ok (.iload_n 3, 1) := by decide +kernel
theorem dX3_reckon_5 : decode cX3_reckon 5 = .ok (.aload_n 1, 1) := by decide +kernel
theorem dX3_reckon_6 : decode cX3_reckon 6 = .ok (.arraylength, 1) := by decide +kernel
theorem dX3_reckon_7 : decode cX3_reckon 7 = .ok (.if_icmp .ge 137, 3) := by decide +kernel
theorem dX3_reckon_10 : decode cX3_reckon 10 = .ok (.aload_n 1, 1) := by decide +kernel
theorem dX3_reckon_11 : decode cX3_reckon 11 = .ok (.iload_n 3, 1) := by decide +kernel
theorem dX3_reckon_12 : decode cX3_reckon 12 = .ok (.iaload, 1) := by decide +kernel
theorem dX3_reckon_13 : decode cX3_reckon 13 = .ok (.istore 4, 2) := by decide +kernel
theorem dX3_reckon_15 : decode cX3_reckon 15 = .ok (.iload 4, 2) := by decide +kernel
theorem dX3_reckon_17 : decode cX3_reckon 17 = .ok (.sipush 10017, 3) := by decide +kernel
theorem dX3_reckon_20 : decode cX3_reckon 20 = .ok (.if_icmp .ne 35, 3) := by decide +kernel
theorem dX3_reckon_23 : decode cX3_reckon 23 = .ok (.iload_n 2, 1) := by decide +kernel
theorem dX3_reckon_24 : decode cX3_reckon 24 = .ok (.iconst 1, 1) := by decide +kernel
theorem dX3_reckon_25 : decode cX3_reckon 25 = .ok (.if_icmp .lt 113, 3) := by decide +kernel
theorem dX3_reckon_28 : decode cX3_reckon 28 = .ok (.aload_n 0, 1) := by decide +kernel
theorem dX3_reckon_29 : decode cX3_reckon 29 = .ok (.getfield 15, 3) := by decide +kernel
theorem dX3_reckon_32 : decode cX3_reckon 32 = .ok (.iload_n 2, 1) := by decide +kernel
theorem dX3_reckon_33 : decode cX3_reckon 33 = .ok (.iconst 1, 1) := by decide +kernel
theorem dX3_reckon_34 : decode cX3_reckon 34 = .ok (.isub, 1) := by decide +kernel
theorem dX3_reckon_35 : decode cX3_reckon 35 = .ok (.aload_n 0, 1) := by decide +kernel
theorem dX3_reckon_36 : decode cX3_reckon 36 = .ok (.getfield 15, 3) := by decide +kernel
theorem dX3_reckon_39 : decode cX3_reckon 39 = .ok (.iload_n 2, 1) := by decide +kernel
theorem dX3_reckon_40 : decode cX3_reckon 40 = .ok (.iconst 1, 1) := by decide +kernel
theorem dX3_reckon_41 : decode cX3_reckon 41 = .ok (.isub, 1) := by decide +kernel
theorem dX3_reckon_42 : decode cX3_reckon 42 = .ok (.iaload, 1) := by decide +kernel
theorem dX3_reckon_43 : decode cX3_reckon 43 = .ok (.ifCond .ne 7, 3) := by decide +kernel
theorem dX3_reckon_46 : decode cX3_reckon 46 = .ok (.iconst 1, 1) := by decide +kernel
theorem dX3_reckon_47 : decode cX3_reckon 47 = .ok (.goto 4, 3) := by decide +kernel
theorem dX3_reckon_50 : decode cX3_reckon 50 = .ok (.iconst 0, 1) := by decide +kernel
theorem dX3_reckon_51 : decode cX3_reckon 51 = .ok (.iastore, 1) := by decide +kernel
theorem dX3_reckon_52 : decode cX3_reckon 52 = .ok (.goto 86, 3) := by decide +kernel
theorem dX3_reckon_55 : decode cX3_reckon 55 = .ok (.iload 4, 2) := by decide +kernel
theorem dX3_reckon_57 : decode cX3_reckon 57 = .ok (.sipush 10000, 3) := by decide +kernel
theorem dX3_reckon_60 : decode cX3_reckon 60 = .ok (.if_icmp .lt 45, 3) := by decide +kernel
theorem dX3_reckon_63 : decode cX3_reckon 63 = .ok (.iload_n 2, 1) := by decide +kernel
theorem dX3_reckon_64 : decode cX3_reckon 64 = .ok (.iconst 2, 1) := by decide +kernel
theorem dX3_reckon_65 : decode cX3_reckon 65 = .ok (.if_icmp .lt 73, 3) := by decide +kernel
theorem dX3_reckon_68 : decode cX3_reckon 68 = .ok (.iinc 2 (-1), 3) := by decide +kernel
theorem dX3_reckon_71 : decode cX3_reckon 71 = .ok (.aload_n 0, 1) := by decide +kernel
theorem dX3_reckon_72 : decode cX3_reckon 72 = .ok (.getfield 15, 3) := by decide +kernel
theorem dX3_reckon_75 : decode cX3_reckon 75 = .ok (.iload_n 2, 1) := by decide +kernel
theorem dX3_reckon_76 : decode cX3_reckon 76 = .ok (.iconst 1, 1) := by decide +kernel
theorem dX3_reckon_77 : decode cX3_reckon 77 = .ok (.isub, 1) := by decide +kernel
theorem dX3_reckon_78 : decode cX3_reckon 78 = .ok (.iload 4, 2) := by decide +kernel
theorem dX3_reckon_80 : decode cX3_reckon 80 = .ok (.sipush 10000, 3) := by decide +kernel
theorem dX3_reckon_83 : decode cX3_reckon 83 = .ok (.isub, 1) := by decide +kernel
theorem dX3_reckon_84 : decode cX3_reckon 84 = .ok (.aload_n 0, 1) := by decide +kernel
theorem dX3_reckon_85 : decode cX3_reckon 85 = .ok (.getfield 15, 3) := by decide +kernel
theorem dX3_reckon_88 : decode cX3_reckon 88 = .ok (.iload_n 2, 1) := by decide +kernel
theorem dX3_reckon_89 : decode cX3_reckon 89 = .ok (.iconst 1, 1) := by decide +kernel
theorem dX3_reckon_90 : decode cX3_reckon 90 = .ok (.isub, 1) := by decide +kernel
theorem dX3_reckon_91 : decode cX3_reckon 91 = .ok (.iaload, 1) := by decide +kernel
theorem dX3_reckon_92 : decode cX3_reckon 92 = .ok (.aload_n 0, 1) := by decide +kernel
theorem dX3_reckon_93 : decode cX3_reckon 93 = .ok (.getfield 15, 3) := by decide +kernel
theorem dX3_reckon_96 : decode cX3_reckon 96 = .ok (.iload_n 2, 1) := by decide +kernel
theorem dX3_reckon_97 : decode cX3_reckon 97 = .ok (.iaload, 1) := by decide +kernel
theorem dX3_reckon_98 : decode cX3_reckon 98 = .ok (.invokestatic 18, 3) := by decide +kernel
theorem dX3_reckon_101 : decode cX3_reckon 101 = .ok (.iastore, 1) := by decide +kernel
theorem dX3_reckon_102 : decode cX3_reckon 102 = .ok (.goto 36, 3) := by decide +kernel
theorem dX3_reckon_105 : decode cX3_reckon 105 = .ok (.iload_n 2, 1) := by decide +kernel
theorem dX3_reckon_106 : decode cX3_reckon 106 = .ok (.bipush 32, 2) := by decide +kernel
theorem dX3_reckon_108 : decode cX3_reckon 108 = .ok (.if_icmp .ge 30, 3) := by decide +kernel
theorem dX3_reckon_111 : decode cX3_reckon 111 = .ok (.aload_n 0, 1) := by decide +kernel
theorem dX3_reckon_112 : decode cX3_reckon 112 = .ok (.getfield 15, 3) := by decide +kernel
theorem dX3_reckon_115 : decode cX3_reckon 115 = .ok (.iload_n 2, 1) := by decide +kernel
theorem dX3_reckon_116 : decode cX3_reckon 116 = .ok (.iload 4, 2) := by decide +kernel
theorem dX3_reckon_118 : decode cX3_reckon 118 = .ok (.ifCond .lt 8, 3) := by decide +kernel
theorem dX3_reckon_121 : decode cX3_reckon 121 = .ok (.iload 4, 2) := by decide +kernel
theorem dX3_reckon_123 : decode cX3_reckon 123 = .ok (.goto 11, 3) := by decide +kernel
theorem dX3_reckon_126 : decode cX3_reckon 126 = .ok (.aload_n 0, 1) := by decide +kernel
theorem dX3_reckon_127 : decode cX3_reckon 127 = .ok (.iconst (-1), 1) := by decide +kernel
theorem dX3_reckon_128 : decode cX3_reckon 128 = .ok (.iload 4, 2) := by decide +kernel
theorem dX3_reckon_130 : decode cX3_reckon 130 = .ok (.isub, 1) := by decide +kernel
theorem dX3_reckon_131 : decode cX3_reckon 131 = .ok (.invokevirtual 22, 3) := by decide +kernel
theorem dX3_reckon_134 : decode cX3_reckon 134 = .ok (.iastore, 1) := by decide +kernel
theorem dX3_reckon_135 : decode cX3_reckon 135 = .ok (.iinc 2 1, 3) := by decide +kernel
theorem dX3_reckon_138 : decode cX3_reckon 138 = .ok (.iinc 3 1, 3) := by decide +kernel
theorem dX3_reckon_141 : decode cX3_reckon 141 = .ok (.goto (-137), 3) := by decide +kernel
theorem dX3_reckon_144 : decode cX3_reckon 144 = .ok (.iload_n 2, 1) := by decide +kernel
theorem dX3_reckon_145 : decode cX3_reckon 145 = .ok (.iconst 1, 1) := by decide +kernel
theorem dX3_reckon_146 : decode cX3_reckon 146 = .ok (.if_icmp .lt 14, 3) := by decide +kernel
theorem dX3_reckon_149 : decode cX3_reckon 149 = .ok (.aload_n 0, 1) := by decide +kernel
theorem dX3_reckon_150 : decode cX3_reckon 150 = .ok (.getfield 15, 3) := by decide +kernel
theorem dX3_reckon_153 : decode cX3_reckon 153 = .ok (.iload_n 2, 1) := by decide +kernel
theorem dX3_reckon_154 : decode cX3_reckon 154 = .ok (.iconst 1, 1) := by decide +kernel
theorem dX3_reckon_155 : decode cX3_reckon 155 = .ok (.isub, 1) := by decide +kernel
theorem dX3_reckon_156 : decode cX3_reckon 156 = .ok (.iaload, 1) := by decide +kernel
theorem dX3_reckon_157 : decode cX3_reckon 157 = .ok (.goto 4, 3) := by decide +kernel
theorem dX3_reckon_160 : decode cX3_reckon 160 = .ok (.iconst 0, 1) := by decide +kernel
theorem dX3_reckon_161 : decode cX3_reckon 161 = .ok (.ireturn, 1) := by decide +kernel
theorem dX3_fact_0 : decode cX3_fact 0 = .ok (.iload_n 1, 1) := by decide +kernel
theorem dX3_fact_1 : decode cX3_fact 1 = .ok (.aload_n 0, 1) := by decide +kernel
theorem dX3_fact_2 : decode cX3_fact 2 = .ok (.getfield 9, 3) := by decide +kernel
theorem dX3_fact_5 : decode cX3_fact 5 = .ok (.arraylength, 1) := by decide +kernel
theorem dX3_fact_6 : decode cX3_fact 6 = .ok (.if_icmp .ge 12, 3) := by decide +kernel
theorem dX3_fact_9 : decode cX3_fact 9 = .ok (.aload_n 0, 1) := by decide +kernel
theorem dX3_fact_10 : decode cX3_fact 10 = .ok (.getfield 9, 3) := by decide +kernel
theorem dX3_fact_13 : decode cX3_fact 13 = .ok (.iload_n 1, 1) := by decide +kernel
theorem dX3_fact_14 : decode cX3_fact 14 = .ok (.iaload, 1) := by decide +kernel
theorem dX3_fact_15 : decode cX3_fact 15 = .ok (.goto 4, 3) := by decide +kernel
theorem dX3_fact_18 : decode cX3_fact 18 = .ok (.iconst 0, 1) := by decide +kernel
theorem dX3_fact_19 : decode cX3_fact 19 = .ok (.ireturn, 1) := by decide +kernel
theorem dX3_joined_0 : decode cX3_joined 0 = .ok (.iload_n 0, 1) := by decide +kernel
theorem dX3_joined_1 : decode cX3_joined 1 = .ok (.tableswitch 133 18 32 #[75, 89, 133, 133, 133, 133, 133, 133, 133, 133, 133, 103, 114, 125, 129], 75) := by decide +kernel
theorem dX3_joined_76 : decode cX3_joined 76 = .ok (.iload_n 1, 1) := by decide +kernel
theorem dX3_joined_77 : decode cX3_joined 77 = .ok (.ifCond .eq 11, 3) := by decide +kernel
theorem dX3_joined_80 : decode cX3_joined 80 = .ok (.iload_n 2, 1) := by decide +kernel
theorem dX3_joined_81 : decode cX3_joined 81 = .ok (.ifCond .eq 7, 3) := by decide +kernel
theorem dX3_joined_84 : decode cX3_joined 84 = .ok (.iconst 1, 1) := by decide +kernel
theorem dX3_joined_85 : decode cX3_joined 85 = .ok (.goto 4, 3) := by decide +kernel
theorem dX3_joined_88 : decode cX3_joined 88 = .ok (.iconst 0, 1) := by decide +kernel
theorem dX3_joined_89 : decode cX3_joined 89 = .ok (.ireturn, 1) := by decide +kernel
theorem dX3_joined_90 : decode cX3_joined 90 = .ok (.iload_n 1, 1) := by decide +kernel
theorem dX3_joined_91 : decode cX3_joined 91 = .ok (.ifCond .ne 7, 3) := by decide +kernel
theorem dX3_joined_94 : decode cX3_joined 94 = .ok (.iload_n 2, 1) := by decide +kernel
theorem dX3_joined_95 : decode cX3_joined 95 = .ok (.ifCond .eq 7, 3) := by decide +kernel
theorem dX3_joined_98 : decode cX3_joined 98 = .ok (.iconst 1, 1) := by decide +kernel
theorem dX3_joined_99 : decode cX3_joined 99 = .ok (.goto 4, 3) := by decide +kernel
theorem dX3_joined_102 : decode cX3_joined 102 = .ok (.iconst 0, 1) := by decide +kernel
theorem dX3_joined_103 : decode cX3_joined 103 = .ok (.ireturn, 1) := by decide +kernel
theorem dX3_joined_104 : decode cX3_joined 104 = .ok (.iload_n 1, 1) := by decide +kernel
theorem dX3_joined_105 : decode cX3_joined 105 = .ok (.iload_n 2, 1) := by decide +kernel
theorem dX3_joined_106 : decode cX3_joined 106 = .ok (.if_icmp .ge 7, 3) := by decide +kernel
theorem dX3_joined_109 : decode cX3_joined 109 = .ok (.iconst 1, 1) := by decide +kernel
theorem dX3_joined_110 : decode cX3_joined 110 = .ok (.goto 4, 3) := by decide +kernel
theorem dX3_joined_113 : decode cX3_joined 113 = .ok (.iconst 0, 1) := by decide +kernel
theorem dX3_joined_114 : decode cX3_joined 114 = .ok (.ireturn, 1) := by decide +kernel
theorem dX3_joined_115 : decode cX3_joined 115 = .ok (.iload_n 1, 1) := by decide +kernel
theorem dX3_joined_116 : decode cX3_joined 116 = .ok (.iload_n 2, 1) := by decide +kernel
theorem dX3_joined_117 : decode cX3_joined 117 = .ok (.if_icmp .ne 7, 3) := by decide +kernel
theorem dX3_joined_120 : decode cX3_joined 120 = .ok (.iconst 1, 1) := by decide +kernel
theorem dX3_joined_121 : decode cX3_joined 121 = .ok (.goto 4, 3) := by decide +kernel
theorem dX3_joined_124 : decode cX3_joined 124 = .ok (.iconst 0, 1) := by decide +kernel
theorem dX3_joined_125 : decode cX3_joined 125 = .ok (.ireturn, 1) := by decide +kernel
theorem dX3_joined_126 : decode cX3_joined 126 = .ok (.iload_n 1, 1) := by decide +kernel
theorem dX3_joined_127 : decode cX3_joined 127 = .ok (.iload_n 2, 1) := by decide +kernel
theorem dX3_joined_128 : decode cX3_joined 128 = .ok (.iadd, 1) := by decide +kernel
theorem dX3_joined_129 : decode cX3_joined 129 = .ok (.ireturn, 1) := by decide +kernel
theorem dX3_joined_130 : decode cX3_joined 130 = .ok (.iload_n 1, 1) := by decide +kernel
theorem dX3_joined_131 : decode cX3_joined 131 = .ok (.iload_n 2, 1) := by decide +kernel
theorem dX3_joined_132 : decode cX3_joined 132 = .ok (.isub, 1) := by decide +kernel
theorem dX3_joined_133 : decode cX3_joined 133 = .ok (.ireturn, 1) := by decide +kernel
theorem dX3_joined_134 : decode cX3_joined 134 = .ok (.iload_n 1, 1) := by decide +kernel
theorem dX3_joined_135 : decode cX3_joined 135 = .ok (.iload_n 2, 1) := by decide +kernel
theorem dX3_joined_136 : decode cX3_joined 136 = .ok (.imul, 1) := by decide +kernel
theorem dX3_joined_137 : decode cX3_joined 137 = .ok (.ireturn, 1) := by decide +kernel
theorem dX4_init_0 : decode cX4_init 0 = .ok (.aload_n 0, 1) := by decide +kernel
theorem dX4_init_1 : decode cX4_init 1 = .ok (.invokespecial 5, 3) := by decide +kernel
theorem dX4_init_4 : decode cX4_init 4 = .ok (.aload_n 0, 1) := by decide +kernel
theorem dX4_init_5 : decode cX4_init 5 = .ok (.bipush 41, 2) := by decide +kernel
theorem dX4_init_7 : decode cX4_init 7 = .ok (.newarray .int, 2) := by decide +kernel
theorem dX4_init_9 : decode cX4_init 9 = .ok (.putfield 11, 3) := by decide +kernel
theorem dX4_init_12 : decode cX4_init 12 = .ok (.aload_n 0, 1) := by decide +kernel
theorem dX4_init_13 : decode cX4_init 13 = .ok (.sipush 246, 3) := by decide +kernel
theorem dX4_init_16 : decode cX4_init 16 = .ok (.newarray .int, 2) := by decide +kernel
theorem dX4_init_18 : decode cX4_init 18 = .ok (.putfield 15, 3) := by decide +kernel
theorem dX4_init_21 : decode cX4_init 21 = .ok (.aload_n 0, 1) := by decide +kernel
theorem dX4_init_22 : decode cX4_init 22 = .ok (.bipush 6, 2) := by decide +kernel
theorem dX4_init_24 : decode cX4_init 24 = .ok (.newarray .int, 2) := by decide +kernel
theorem dX4_init_26 : decode cX4_init 26 = .ok (.putfield 18, 3) := by decide +kernel
theorem dX4_init_29 : decode cX4_init 29 = .ok (.aload_n 0, 1) := by decide +kernel
theorem dX4_init_30 : decode cX4_init 30 = .ok (.bipush 6, 2) := by decide +kernel
theorem dX4_init_32 : decode cX4_init 32 = .ok (.newarray .int, 2) := by decide +kernel
theorem dX4_init_34 : decode cX4_init 34 = .ok (.putfield 21, 3) := by decide +kernel
theorem dX4_init_37 : decode cX4_init 37 = .ok (.aload_n 0, 1) := by decide +kernel
theorem dX4_init_38 : decode cX4_init 38 = .ok (.bipush 7, 2) := by decide +kernel
theorem dX4_init_40 : decode cX4_init 40 = .ok (.newarray .int, 2) := by decide +kernel
theorem dX4_init_42 : decode cX4_init 42 = .ok (.putfield 24, 3) := by decide +kernel
theorem dX4_init_45 : decode cX4_init 45 = .ok (.aload_n 0, 1) := by decide +kernel
theorem dX4_init_46 : decode cX4_init 46 = .ok (.iconst 0, 1) := by decide +kernel
theorem dX4_init_47 : decode cX4_init 47 = .ok (.newarray .int, 2) := by decide +kernel
theorem dX4_init_49 : decode cX4_init 49 = .ok (.putfield 27, 3) := by decide +kernel
theorem dX4_init_52 : decode cX4_init 52 = .ok (.aload_n 0, 1) := by decide +kernel
theorem dX4_init_53 : decode cX4_init 53 = .ok (.iconst 0, 1) := by decide +kernel
theorem dX4_init_54 : decode cX4_init 54 = .ok (.newarray .int, 2) := by decide +kernel
theorem dX4_init_56 : decode cX4_init 56 = .ok (.putfield 30, 3) := by decide +kernel
theorem dX4_init_59 : decode cX4_init 59 = .ok (.return_, 1) := by decide +kernel
theorem dX4_seekNearest_0 : decode cX4_seekNearest 0 = .ok (.aload_n 0, 1) := by decide +kernel
theorem dX4_seekNearest_1 : decode cX4_seekNearest 1 = .ok (.iconst 1, 1) := by decide +kernel
theorem dX4_seekNearest_2 : decode cX4_seekNearest 2 = .ok (.putfield 33, 3) := by decide +kernel
theorem dX4_seekNearest_5 : decode cX4_seekNearest 5 = .ok (.aload_n 0, 1) := by decide +kernel
theorem dX4_seekNearest_6 : decode cX4_seekNearest 6 = .ok (.ldc 39, 2) := by decide +kernel
theorem dX4_seekNearest_8 : decode cX4_seekNearest 8 = .ok (.putfield 40, 3) := by decide +kernel
theorem dX4_seekNearest_11 : decode cX4_seekNearest 11 = .ok (.aload_n 0, 1) := by decide +kernel
theorem dX4_seekNearest_12 : decode cX4_seekNearest 12 = .ok (.aload_n 1, 1) := by decide +kernel
theorem dX4_seekNearest_13 : decode cX4_seekNearest 13 = .ok (.aload_n 2, 1) := by decide +kernel
theorem dX4_seekNearest_14 : decode cX4_seekNearest 14 = .ok (.iload_n 3, 1) := by decide +kernel
theorem dX4_seekNearest_15 : decode cX4_seekNearest 15 = .ok (.iload 4, 2) := by decide +kernel
theorem dX4_seekNearest_17 : decode cX4_seekNearest 17 = .ok (.iconst 2, 1) := by decide +kernel
theorem dX4_seekNearest_18 : decode cX4_seekNearest 18 = .ok (.invokevirtual 44, 3) := by decide +kernel
theorem dX4_seekNearest_21 : decode cX4_seekNearest 21 = .ok (.return_, 1) := by decide +kernel
theorem dX4_seekFewest_0 : decode cX4_seekFewest 0 = .ok (.aload_n 0, 1) := by decide +kernel
theorem dX4_seekFewest_1 : decode cX4_seekFewest 1 = .ok (.iconst 0, 1) := by decide +kernel
theorem dX4_seekFewest_2 : decode cX4_seekFewest 2 = .ok (.putfield 33, 3) := by decide +kernel
theorem dX4_seekFewest_5 : decode cX4_seekFewest 5 = .ok (.aload_n 0, 1) := by decide +kernel
theorem dX4_seekFewest_6 : decode cX4_seekFewest 6 = .ok (.iload 5, 2) := by decide +kernel
theorem dX4_seekFewest_8 : decode cX4_seekFewest 8 = .ok (.putfield 40, 3) := by decide +kernel
theorem dX4_seekFewest_11 : decode cX4_seekFewest 11 = .ok (.aload_n 0, 1) := by decide +kernel
theorem dX4_seekFewest_12 : decode cX4_seekFewest 12 = .ok (.aload_n 1, 1) := by decide +kernel
theorem dX4_seekFewest_13 : decode cX4_seekFewest 13 = .ok (.aload_n 2, 1) := by decide +kernel
theorem dX4_seekFewest_14 : decode cX4_seekFewest 14 = .ok (.iload_n 3, 1) := by decide +kernel
theorem dX4_seekFewest_15 : decode cX4_seekFewest 15 = .ok (.iload 4, 2) := by decide +kernel
theorem dX4_seekFewest_17 : decode cX4_seekFewest 17 = .ok (.iload 6, 2) := by decide +kernel
theorem dX4_seekFewest_19 : decode cX4_seekFewest 19 = .ok (.invokevirtual 44, 3) := by decide +kernel
theorem dX4_seekFewest_22 : decode cX4_seekFewest 22 = .ok (.aload_n 0, 1) := by decide +kernel
theorem dX4_seekFewest_23 : decode cX4_seekFewest 23 = .ok (.getfield 48, 3) := by decide +kernel
theorem dX4_seekFewest_26 : decode cX4_seekFewest 26 = .ok (.ldc2_w 54, 3) := by decide +kernel
theorem dX4_seekFewest_29 : decode cX4_seekFewest 29 = .ok (.lcmp, 1) := by decide +kernel
theorem dX4_seekFewest_30 : decode cX4_seekFewest 30 = .ok (.ifCond .eq 7, 3) := by decide +kernel
theorem dX4_seekFewest_33 : decode cX4_seekFewest 33 = .ok (.iconst 1, 1) := by decide +kernel
theorem dX4_seekFewest_34 : decode cX4_seekFewest 34 = .ok (.goto 4, 3) := by decide +kernel
theorem dX4_seekFewest_37 : decode cX4_seekFewest 37 = .ok (.iconst 0, 1) := by decide +kernel
theorem dX4_seekFewest_38 : decode cX4_seekFewest 38 = .ok (.ireturn, 1) := by decide +kernel
theorem dX4_bestAway_0 : decode cX4_bestAway 0 = .ok (.aload_n 0, 1) := by decide +kernel
theorem dX4_bestAway_1 : decode cX4_bestAway 1 = .ok (.getfield 48, 3) := by decide +kernel
theorem dX4_bestAway_4 : decode cX4_bestAway 4 = .ok (.bipush 39, 2) := by decide +kernel
theorem dX4_bestAway_6 : decode cX4_bestAway 6 = .ok (.lshr, 1) := by decide +kernel
theorem dX4_bestAway_7 : decode cX4_bestAway 7 = .ok (.l2i, 1) := by decide +kernel
theorem dX4_bestAway_8 : decode cX4_bestAway 8 = .ok (.ireturn, 1) := by decide +kernel
theorem dX4_bestChanged_0 : decode cX4_bestChanged 0 = .ok (.aload_n 0, 1) := by decide +kernel
theorem dX4_bestChanged_1 : decode cX4_bestChanged 1 = .ok (.getfield 48, 3) := by decide +kernel
theorem dX4_bestChanged_4 : decode cX4_bestChanged 4 = .ok (.bipush 36, 2) := by decide +kernel
theorem dX4_bestChanged_6 : decode cX4_bestChanged 6 = .ok (.lshr, 1) := by decide +kernel
theorem dX4_bestChanged_7 : decode cX4_bestChanged 7 = .ok (.ldc2_w 56, 3) := by decide +kernel
theorem dX4_bestChanged_10 : decode cX4_bestChanged 10 = .ok (.land, 1) := by decide +kernel
theorem dX4_bestChanged_11 : decode cX4_bestChanged 11 = .ok (.l2i, 1) := by decide +kernel
theorem dX4_bestChanged_12 : decode cX4_bestChanged 12 = .ok (.ireturn, 1) := by decide +kernel
theorem dX4_bestLength_0 : decode cX4_bestLength 0 = .ok (.aload_n 0, 1) := by decide +kernel
theorem dX4_bestLength_1 : decode cX4_bestLength 1 = .ok (.getfield 48, 3) := by decide +kernel
theorem dX4_bestLength_4 : decode cX4_bestLength 4 = .ok (.bipush 6, 2) := by decide +kernel
theorem dX4_bestLength_6 : decode cX4_bestLength 6 = .ok (.aload_n 0, 1) := by decide +kernel
theorem dX4_bestLength_7 : decode cX4_bestLength 7 = .ok (.getfield 58, 3) := by decide +kernel
theorem dX4_bestLength_10 : decode cX4_bestLength 10 = .ok (.iconst 1, 1) := by decide +kernel
theorem dX4_bestLength_11 : decode cX4_bestLength 11 = .ok (.isub, 1) := by decide +kernel
theorem dX4_bestLength_12 : decode cX4_bestLength 12 = .ok (.iload_n 1, 1) := by decide +kernel
theorem dX4_bestLength_13 : decode cX4_bestLength 13 = .ok (.isub, 1) := by decide +kernel
theorem dX4_bestLength_14 : decode cX4_bestLength 14 = .ok (.imul, 1) := by decide +kernel
theorem dX4_bestLength_15 : decode cX4_bestLength 15 = .ok (.lshr, 1) := by decide +kernel
theorem dX4_bestLength_16 : decode cX4_bestLength 16 = .ok (.ldc2_w 61, 3) := by decide +kernel
theorem dX4_bestLength_19 : decode cX4_bestLength 19 = .ok (.land, 1) := by decide +kernel
theorem dX4_bestLength_20 : decode cX4_bestLength 20 = .ok (.l2i, 1) := by decide +kernel
theorem dX4_bestLength_21 : decode cX4_bestLength 21 = .ok (.ireturn, 1) := by decide +kernel
theorem dX4_seek_0 : decode cX4_seek 0 = .ok (.aload_n 0, 1) := by decide +kernel
theorem dX4_seek_1 : decode cX4_seek 1 = .ok (.aload_n 1, 1) := by decide +kernel
theorem dX4_seek_2 : decode cX4_seek 2 = .ok (.getfield 63, 3) := by decide +kernel
theorem dX4_seek_5 : decode cX4_seek 5 = .ok (.getfield 69, 3) := by decide +kernel
theorem dX4_seek_8 : decode cX4_seek 8 = .ok (.bipush 6, 2) := by decide +kernel
theorem dX4_seek_10 : decode cX4_seek 10 = .ok (.invokestatic 72, 3) := by decide +kernel
theorem dX4_seek_13 : decode cX4_seek 13 = .ok (.putfield 58, 3) := by decide +kernel
theorem dX4_seek_16 : decode cX4_seek 16 = .ok (.aload_n 0, 1) := by decide +kernel
theorem dX4_seek_17 : decode cX4_seek 17 = .ok (.aload_n 1, 1) := by decide +kernel
theorem dX4_seek_18 : decode cX4_seek 18 = .ok (.getfield 63, 3) := by decide +kernel
theorem dX4_seek_21 : decode cX4_seek 21 = .ok (.getfield 78, 3) := by decide +kernel
theorem dX4_seek_24 : decode cX4_seek 24 = .ok (.putfield 81, 3) := by decide +kernel
theorem dX4_seek_27 : decode cX4_seek 27 = .ok (.aload_n 0, 1) := by decide +kernel
theorem dX4_seek_28 : decode cX4_seek 28 = .ok (.aload_n 1, 1) := by decide +kernel
theorem dX4_seek_29 : decode cX4_seek 29 = .ok (.getfield 82, 3) := by decide +kernel
theorem dX4_seek_32 : decode cX4_seek 32 = .ok (.putfield 27, 3) := by decide +kernel
theorem dX4_seek_35 : decode cX4_seek 35 = .ok (.aload_n 0, 1) := by decide +kernel
theorem dX4_seek_36 : decode cX4_seek 36 = .ok (.aload_n 1, 1) := by decide +kernel
theorem dX4_seek_37 : decode cX4_seek 37 = .ok (.getfield 63, 3) := by decide +kernel
theorem dX4_seek_40 : decode cX4_seek 40 = .ok (.getfield 83, 3) := by decide +kernel
theorem dX4_seek_43 : decode cX4_seek 43 = .ok (.putfield 30, 3) := by decide +kernel
theorem dX4_seek_46 : decode cX4_seek 46 = .ok (.aload_n 0, 1) := by decide +kernel
theorem dX4_seek_47 : decode cX4_seek 47 = .ok (.iload_n 3, 1) := by decide +kernel
theorem dX4_seek_48 : decode cX4_seek 48 = .ok (.putfield 84, 3) := by decide +kernel
theorem dX4_seek_51 : decode cX4_seek 51 = .ok (.aload_n 0, 1) := by decide +kernel
theorem dX4_seek_52 : decode cX4_seek 52 = .ok (.iload 4, 2) := by decide +kernel
theorem dX4_seek_54 : decode cX4_seek 54 = .ok (.putfield 87, 3) := by decide +kernel
theorem dX4_seek_57 : decode cX4_seek 57 = .ok (.aload_n 0, 1) := by decide +kernel
theorem dX4_seek_58 : decode cX4_seek 58 = .ok (.ldc2_w 54, 3) := by decide +kernel
theorem dX4_seek_61 : decode cX4_seek 61 = .ok (.putfield 48, 3) := by decide +kernel
theorem dX4_seek_64 : decode cX4_seek 64 = .ok (.iconst 0, 1) := by decide +kernel
theorem dX4_seek_65 : decode cX4_seek 65 = .ok (.istore 6, 2) := by decide +kernel
theorem dX4_seek_67 : decode cX4_seek 67 = .ok (.iload 6, 2) := by decide +kernel
theorem dX4_seek_69 : decode cX4_seek 69 = .ok (.bipush 40, 2) := by decide +kernel
theorem dX4_seek_71 : decode cX4_seek 71 = .ok (.if_icmp .gt 31, 3) := by decide +kernel
theorem dX4_seek_74 : decode cX4_seek 74 = .ok (.aload_n 0, 1) := by decide +kernel
theorem dX4_seek_75 : decode cX4_seek 75 = .ok (.getfield 11, 3) := by decide +kernel
theorem dX4_seek_78 : decode cX4_seek 78 = .ok (.iload 6, 2) := by decide +kernel
theorem dX4_seek_80 : decode cX4_seek 80 = .ok (.aload_n 2, 1) := by decide +kernel
theorem dX4_seek_81 : decode cX4_seek 81 = .ok (.aload_n 1, 1) := by decide +kernel
theorem dX4_seek_82 : decode cX4_seek 82 = .ok (.getfield 63, 3) := by decide +kernel
theorem dX4_seek_85 : decode cX4_seek 85 = .ok (.iload 6, 2) := by decide +kernel
theorem dX4_seek_87 : decode cX4_seek 87 = .ok (.aload_n 1, 1) := by decide +kernel
theorem dX4_seek_88 : decode cX4_seek 88 = .ok (.getfield 90, 3) := by decide +kernel
theorem dX4_seek_91 : decode cX4_seek 91 = .ok (.iconst 0, 1) := by decide +kernel
theorem dX4_seek_92 : decode cX4_seek 92 = .ok (.invokevirtual 93, 3) := by decide +kernel
theorem dX4_seek_95 : decode cX4_seek 95 = .ok (.iastore, 1) := by decide +kernel
theorem dX4_seek_96 : decode cX4_seek 96 = .ok (.iinc 6 1, 3) := by decide +kernel
theorem dX4_seek_99 : decode cX4_seek 99 = .ok (.goto (-32), 3) := by decide +kernel
theorem dX4_seek_102 : decode cX4_seek 102 = .ok (.iconst 0, 1) := by decide +kernel
theorem dX4_seek_103 : decode cX4_seek 103 = .ok (.istore 6, 2) := by decide +kernel
theorem dX4_seek_105 : decode cX4_seek 105 = .ok (.iload 6, 2) := by decide +kernel
theorem dX4_seek_107 : decode cX4_seek 107 = .ok (.aload_n 0, 1) := by decide +kernel
theorem dX4_seek_108 : decode cX4_seek 108 = .ok (.getfield 58, 3) := by decide +kernel
theorem dX4_seek_111 : decode cX4_seek 111 = .ok (.if_icmp .ge 18, 3) := by decide +kernel
theorem dX4_seek_114 : decode cX4_seek 114 = .ok (.aload_n 0, 1) := by decide +kernel
theorem dX4_seek_115 : decode cX4_seek 115 = .ok (.aload_n 1, 1) := by decide +kernel
theorem dX4_seek_116 : decode cX4_seek 116 = .ok (.iload 6, 2) := by decide +kernel
theorem dX4_seek_118 : decode cX4_seek 118 = .ok (.iload 5, 2) := by decide +kernel
theorem dX4_seek_120 : decode cX4_seek 120 = .ok (.invokevirtual 99, 3) := by decide +kernel
theorem dX4_seek_123 : decode cX4_seek 123 = .ok (.iinc 6 1, 3) := by decide +kernel
theorem dX4_seek_126 : decode cX4_seek 126 = .ok (.goto (-21), 3) := by decide +kernel
theorem dX4_seek_129 : decode cX4_seek 129 = .ok (.aload_n 0, 1) := by decide +kernel
theorem dX4_seek_130 : decode cX4_seek 130 = .ok (.invokevirtual 103, 3) := by decide +kernel
theorem dX4_seek_133 : decode cX4_seek 133 = .ok (.bipush 40, 2) := by decide +kernel
theorem dX4_seek_135 : decode cX4_seek 135 = .ok (.istore 6, 2) := by decide +kernel
theorem dX4_seek_137 : decode cX4_seek 137 = .ok (.iload 6, 2) := by decide +kernel
theorem dX4_seek_139 : decode cX4_seek 139 = .ok (.ifCond .lt 30, 3) := by decide +kernel
theorem dX4_seek_142 : decode cX4_seek 142 = .ok (.aload_n 0, 1) := by decide +kernel
theorem dX4_seek_143 : decode cX4_seek 143 = .ok (.iload 6, 2) := by decide +kernel
theorem dX4_seek_145 : decode cX4_seek 145 = .ok (.putfield 106, 3) := by decide +kernel
theorem dX4_seek_148 : decode cX4_seek 148 = .ok (.aload_n 0, 1) := by decide +kernel
theorem dX4_seek_149 : decode cX4_seek 149 = .ok (.invokevirtual 109, 3) := by decide +kernel
theorem dX4_seek_152 : decode cX4_seek 152 = .ok (.aload_n 0, 1) := by decide +kernel
theorem dX4_seek_153 : decode cX4_seek 153 = .ok (.iconst 0, 1) := by decide +kernel
theorem dX4_seek_154 : decode cX4_seek 154 = .ok (.iconst 0, 1) := by decide +kernel
theorem dX4_seek_155 : decode cX4_seek 155 = .ok (.iconst 0, 1) := by decide +kernel
theorem dX4_seek_156 : decode cX4_seek 156 = .ok (.iconst 0, 1) := by decide +kernel
theorem dX4_seek_157 : decode cX4_seek 157 = .ok (.iconst 0, 1) := by decide +kernel
theorem dX4_seek_158 : decode cX4_seek 158 = .ok (.iconst 0, 1) := by decide +kernel
theorem dX4_seek_159 : decode cX4_seek 159 = .ok (.lconst 0, 1) := by decide +kernel
theorem dX4_seek_160 : decode cX4_seek 160 = .ok (.invokevirtual 112, 3) := by decide +kernel
theorem dX4_seek_163 : decode cX4_seek 163 = .ok (.iinc 6 (-1), 3) := by decide +kernel
theorem dX4_seek_166 : decode cX4_seek 166 = .ok (.goto (-29), 3) := by decide +kernel
theorem dX4_seek_169 : decode cX4_seek 169 = .ok (.return_, 1) := by decide +kernel
theorem dX4_spread_0 : decode cX4_spread 0 = .ok (.aload_n 1, 1) := by decide +kernel
theorem dX4_spread_1 : decode cX4_spread 1 = .ok (.iload_n 2, 1) := by decide +kernel
theorem dX4_spread_2 : decode cX4_spread 2 = .ok (.invokevirtual 116, 3) := by decide +kernel
theorem dX4_spread_5 : decode cX4_spread 5 = .ok (.istore 4, 2) := by decide +kernel
theorem dX4_spread_7 : decode cX4_spread 7 = .ok (.aload_n 1, 1) := by decide +kernel
theorem dX4_spread_8 : decode cX4_spread 8 = .ok (.getfield 82, 3) := by decide +kernel
theorem dX4_spread_11 : decode cX4_spread 11 = .ok (.iload_n 2, 1) := by decide +kernel
theorem dX4_spread_12 : decode cX4_spread 12 = .ok (.iaload, 1) := by decide +kernel
theorem dX4_spread_13 : decode cX4_spread 13 = .ok (.iconst 0, 1) := by decide +kernel
theorem dX4_spread_14 : decode cX4_spread 14 = .ok (.bipush 40, 2) := by decide +kernel
theorem dX4_spread_16 : decode cX4_spread 16 = .ok (.invokestatic 120, 3) := by decide +kernel
theorem dX4_spread_19 : decode cX4_spread 19 = .ok (.istore 5, 2) := by decide +kernel
theorem dX4_spread_21 : decode cX4_spread 21 = .ok (.aload_n 0, 1) := by decide +kernel
theorem dX4_spread_22 : decode cX4_spread 22 = .ok (.getfield 18, 3) := by decide +kernel
theorem dX4_spread_25 : decode cX4_spread 25 = .ok (.iload_n 2, 1) := by decide +kernel
theorem dX4_spread_26 : decode cX4_spread 26 = .ok (.iload 4, 2) := by decide +kernel
theorem dX4_spread_28 : decode cX4_spread 28 = .ok (.ifCond .eq 8, 3) := by decide +kernel
theorem dX4_spread_31 : decode cX4_spread 31 = .ok (.iload 5, 2) := by decide +kernel
theorem dX4_spread_33 : decode cX4_spread 33 = .ok (.goto 11, 3) := by decide +kernel
theorem dX4_spread_36 : decode cX4_spread 36 = .ok (.iconst 0, 1) := by decide +kernel
theorem dX4_spread_37 : decode cX4_spread 37 = .ok (.iload 5, 2) := by decide +kernel
theorem dX4_spread_39 : decode cX4_spread 39 = .ok (.iload_n 3, 1) := by decide +kernel
theorem dX4_spread_40 : decode cX4_spread 40 = .ok (.isub, 1) := by decide +kernel
theorem dX4_spread_41 : decode cX4_spread 41 = .ok (.invokestatic 124, 3) := by decide +kernel
theorem dX4_spread_44 : decode cX4_spread 44 = .ok (.iastore, 1) := by decide +kernel
theorem dX4_spread_45 : decode cX4_spread 45 = .ok (.aload_n 0, 1) := by decide +kernel
theorem dX4_spread_46 : decode cX4_spread 46 = .ok (.getfield 21, 3) := by decide +kernel
theorem dX4_spread_49 : decode cX4_spread 49 = .ok (.iload_n 2, 1) := by decide +kernel
theorem dX4_spread_50 : decode cX4_spread 50 = .ok (.iload 4, 2) := by decide +kernel
theorem dX4_spread_52 : decode cX4_spread 52 = .ok (.ifCond .eq 8, 3) := by decide +kernel
theorem dX4_spread_55 : decode cX4_spread 55 = .ok (.iload 5, 2) := by decide +kernel
theorem dX4_spread_57 : decode cX4_spread 57 = .ok (.goto 12, 3) := by decide +kernel
theorem dX4_spread_60 : decode cX4_spread 60 = .ok (.bipush 40, 2) := by decide +kernel
theorem dX4_spread_62 : decode cX4_spread 62 = .ok (.iload 5, 2) := by decide +kernel
theorem dX4_spread_64 : decode cX4_spread 64 = .ok (.iload_n 3, 1) := by decide +kernel
theorem dX4_spread_65 : decode cX4_spread 65 = .ok (.iadd, 1) := by decide +kernel
theorem dX4_spread_66 : decode cX4_spread 66 = .ok (.invokestatic 72, 3) := by decide +kernel
theorem dX4_spread_69 : decode cX4_spread 69 = .ok (.iastore, 1) := by decide +kernel
theorem dX4_spread_70 : decode cX4_spread 70 = .ok (.aload_n 0, 1) := by decide +kernel
theorem dX4_spread_71 : decode cX4_spread 71 = .ok (.getfield 18, 3) := by decide +kernel
theorem dX4_spread_74 : decode cX4_spread 74 = .ok (.iload_n 2, 1) := by decide +kernel
theorem dX4_spread_75 : decode cX4_spread 75 = .ok (.iaload, 1) := by decide +kernel
theorem dX4_spread_76 : decode cX4_spread 76 = .ok (.istore 6, 2) := by decide +kernel
theorem dX4_spread_78 : decode cX4_spread 78 = .ok (.iload 6, 2) := by decide +kernel
theorem dX4_spread_80 : decode cX4_spread 80 = .ok (.aload_n 0, 1) := by decide +kernel
theorem dX4_spread_81 : decode cX4_spread 81 = .ok (.getfield 21, 3) := by decide +kernel
theorem dX4_spread_84 : decode cX4_spread 84 = .ok (.iload_n 2, 1) := by decide +kernel
theorem dX4_spread_85 : decode cX4_spread 85 = .ok (.iaload, 1) := by decide +kernel
theorem dX4_spread_86 : decode cX4_spread 86 = .ok (.if_icmp .gt 47, 3) := by decide +kernel
theorem dX4_spread_89 : decode cX4_spread 89 = .ok (.aload_n 0, 1) := by decide +kernel
theorem dX4_spread_90 : decode cX4_spread 90 = .ok (.getfield 15, 3) := by decide +kernel
theorem dX4_spread_93 : decode cX4_spread 93 = .ok (.iload_n 2, 1) := by decide +kernel
theorem dX4_spread_94 : decode cX4_spread 94 = .ok (.bipush 41, 2) := by decide +kernel
theorem dX4_spread_96 : decode cX4_spread 96 = .ok (.imul, 1) := by decide +kernel
theorem dX4_spread_97 : decode cX4_spread 97 = .ok (.iload 6, 2) := by decide +kernel
theorem dX4_spread_99 : decode cX4_spread 99 = .ok (.iadd, 1) := by decide +kernel
theorem dX4_spread_100 : decode cX4_spread 100 = .ok (.iload 4, 2) := by decide +kernel
