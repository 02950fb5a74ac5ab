theorem dX8_lose_30 : decode cX8_lose 30 = .ok (.iconst 1, 1) := by decide +kernel
theorem dX8_lose_31 : decode cX8_lose 31 = .ok (.iload_n 1, 1) := by decide +kernel
theorem dX8_lose_32 : decode cX8_lose 32 = .ok (.ishl, 1) := by decide +kernel
theorem dX8_lose_33 : decode cX8_lose 33 = .ok (.ixor, 1) := by decide +kernel
theorem dX8_lose_34 : decode cX8_lose 34 = .ok (.putfield 135, 3) := by decide +kernel
theorem dX8_lose_37 : decode cX8_lose 37 = .ok (.aload_n 0, 1) := by decide +kernel
theorem dX8_lose_38 : decode cX8_lose 38 = .ok (.getfield 42, 3) := by decide +kernel
theorem dX8_lose_41 : decode cX8_lose 41 = .ok (.getfield 99, 3) := by decide +kernel
theorem dX8_lose_44 : decode cX8_lose 44 = .ok (.iload_n 1, 1) := by decide +kernel
theorem dX8_lose_45 : decode cX8_lose 45 = .ok (.iconst (-1), 1) := by decide +kernel
theorem dX8_lose_46 : decode cX8_lose 46 = .ok (.iastore, 1) := by decide +kernel
theorem dX8_lose_47 : decode cX8_lose 47 = .ok (.aload_n 0, 1) := by decide +kernel
theorem dX8_lose_48 : decode cX8_lose 48 = .ok (.getfield 42, 3) := by decide +kernel
theorem dX8_lose_51 : decode cX8_lose 51 = .ok (.getfield 102, 3) := by decide +kernel
theorem dX8_lose_54 : decode cX8_lose 54 = .ok (.iload_n 1, 1) := by decide +kernel
theorem dX8_lose_55 : decode cX8_lose 55 = .ok (.iconst 0, 1) := by decide +kernel
theorem dX8_lose_56 : decode cX8_lose 56 = .ok (.iastore, 1) := by decide +kernel
theorem dX8_lose_57 : decode cX8_lose 57 = .ok (.iload_n 2, 1) := by decide +kernel
theorem dX8_lose_58 : decode cX8_lose 58 = .ok (.ifCond .eq 13, 3) := by decide +kernel
theorem dX8_lose_61 : decode cX8_lose 61 = .ok (.aload_n 0, 1) := by decide +kernel
theorem dX8_lose_62 : decode cX8_lose 62 = .ok (.getfield 42, 3) := by decide +kernel
theorem dX8_lose_65 : decode cX8_lose 65 = .ok (.getfield 80, 3) := by decide +kernel
theorem dX8_lose_68 : decode cX8_lose 68 = .ok (.iload_n 1, 1) := by decide +kernel
theorem dX8_lose_69 : decode cX8_lose 69 = .ok (.iconst 0, 1) := by decide +kernel
theorem dX8_lose_70 : decode cX8_lose 70 = .ok (.iastore, 1) := by decide +kernel
theorem dX8_lose_71 : decode cX8_lose 71 = .ok (.iconst 1, 1) := by decide +kernel
theorem dX8_lose_72 : decode cX8_lose 72 = .ok (.ireturn, 1) := by decide +kernel
theorem dX8_run_0 : decode cX8_run 0 = .ok (.iload_n 1, 1) := by decide +kernel
theorem dX8_run_1 : decode cX8_run 1 = .ok (.iconst 1, 1) := by decide +kernel
theorem dX8_run_2 : decode cX8_run 2 = .ok (.sipush 1000, 3) := by decide +kernel
theorem dX8_run_5 : decode cX8_run 5 = .ok (.invokestatic 112, 3) := by decide +kernel
theorem dX8_run_8 : decode cX8_run 8 = .ok (.ifCond .ne 5, 3) := by decide +kernel
theorem dX8_run_11 : decode cX8_run 11 = .ok (.iconst (-1), 1) := by decide +kernel
theorem dX8_run_12 : decode cX8_run 12 = .ok (.ireturn, 1) := by decide +kernel
theorem dX8_run_13 : decode cX8_run 13 = .ok (.iconst 0, 1) := by decide +kernel
theorem dX8_run_14 : decode cX8_run 14 = .ok (.istore_n 2, 1) := by decide +kernel
theorem dX8_run_15 : decode cX8_run 15 = .ok (.iload_n 2, 1) := by decide +kernel
theorem dX8_run_16 : decode cX8_run 16 = .ok (.iload_n 1, 1) := by decide +kernel
theorem dX8_run_17 : decode cX8_run 17 = .ok (.if_icmp .ge 52, 3) := by decide +kernel
theorem dX8_run_20 : decode cX8_run 20 = .ok (.aload_n 0, 1) := by decide +kernel
theorem dX8_run_21 : decode cX8_run 21 = .ok (.getfield 42, 3) := by decide +kernel
theorem dX8_run_24 : decode cX8_run 24 = .ok (.getfield 72, 3) := by decide +kernel
theorem dX8_run_27 : decode cX8_run 27 = .ok (.invokevirtual 138, 3) := by decide +kernel
theorem dX8_run_30 : decode cX8_run 30 = .ok (.ifCond .eq 22, 3) := by decide +kernel
theorem dX8_run_33 : decode cX8_run 33 = .ok (.aload_n 0, 1) := by decide +kernel
theorem dX8_run_34 : decode cX8_run 34 = .ok (.getfield 28, 3) := by decide +kernel
theorem dX8_run_37 : decode cX8_run 37 = .ok (.aload_n 0, 1) := by decide +kernel
theorem dX8_run_38 : decode cX8_run 38 = .ok (.getfield 42, 3) := by decide +kernel
theorem dX8_run_41 : decode cX8_run 41 = .ok (.aload_n 0, 1) := by decide +kernel
theorem dX8_run_42 : decode cX8_run 42 = .ok (.getfield 42, 3) := by decide +kernel
theorem dX8_run_45 : decode cX8_run 45 = .ok (.getfield 83, 3) := by decide +kernel
theorem dX8_run_48 : decode cX8_run 48 = .ok (.iconst 0, 1) := by decide +kernel
theorem dX8_run_49 : decode cX8_run 49 = .ok (.invokevirtual 123, 3) := by decide +kernel
theorem dX8_run_52 : decode cX8_run 52 = .ok (.aload_n 0, 1) := by decide +kernel
theorem dX8_run_53 : decode cX8_run 53 = .ok (.getfield 42, 3) := by decide +kernel
theorem dX8_run_56 : decode cX8_run 56 = .ok (.aload_n 0, 1) := by decide +kernel
theorem dX8_run_57 : decode cX8_run 57 = .ok (.getfield 28, 3) := by decide +kernel
theorem dX8_run_60 : decode cX8_run 60 = .ok (.invokevirtual 142, 3) := by decide +kernel
theorem dX8_run_63 : decode cX8_run 63 = .ok (.iinc 2 1, 3) := by decide +kernel
theorem dX8_run_66 : decode cX8_run 66 = .ok (.goto (-51), 3) := by decide +kernel
theorem dX8_run_69 : decode cX8_run 69 = .ok (.aload_n 0, 1) := by decide +kernel
theorem dX8_run_70 : decode cX8_run 70 = .ok (.getfield 42, 3) := by decide +kernel
theorem dX8_run_73 : decode cX8_run 73 = .ok (.getfield 83, 3) := by decide +kernel
theorem dX8_run_76 : decode cX8_run 76 = .ok (.ireturn, 1) := by decide +kernel
theorem dX8_nearest_0 : decode cX8_nearest 0 = .ok (.iload_n 1, 1) := by decide +kernel
theorem dX8_nearest_1 : decode cX8_nearest 1 = .ok (.iload_n 2, 1) := by decide +kernel
theorem dX8_nearest_2 : decode cX8_nearest 2 = .ok (.invokestatic 146, 3) := by decide +kernel
theorem dX8_nearest_5 : decode cX8_nearest 5 = .ok (.ifCond .eq 23, 3) := by decide +kernel
theorem dX8_nearest_8 : decode cX8_nearest 8 = .ok (.iload_n 3, 1) := by decide +kernel
theorem dX8_nearest_9 : decode cX8_nearest 9 = .ok (.iconst 0, 1) := by decide +kernel
theorem dX8_nearest_10 : decode cX8_nearest 10 = .ok (.aload_n 0, 1) := by decide +kernel
theorem dX8_nearest_11 : decode cX8_nearest 11 = .ok (.getfield 42, 3) := by decide +kernel
theorem dX8_nearest_14 : decode cX8_nearest 14 = .ok (.getfield 72, 3) := by decide +kernel
theorem dX8_nearest_17 : decode cX8_nearest 17 = .ok (.getfield 150, 3) := by decide +kernel
theorem dX8_nearest_20 : decode cX8_nearest 20 = .ok (.iconst 1, 1) := by decide +kernel
theorem dX8_nearest_21 : decode cX8_nearest 21 = .ok (.iadd, 1) := by decide +kernel
theorem dX8_nearest_22 : decode cX8_nearest 22 = .ok (.invokestatic 112, 3) := by decide +kernel
theorem dX8_nearest_25 : decode cX8_nearest 25 = .ok (.ifCond .ne 5, 3) := by decide +kernel
theorem dX8_nearest_28 : decode cX8_nearest 28 = .ok (.iconst (-1), 1) := by decide +kernel
theorem dX8_nearest_29 : decode cX8_nearest 29 = .ok (.ireturn, 1) := by decide +kernel
theorem dX8_nearest_30 : decode cX8_nearest 30 = .ok (.aload_n 0, 1) := by decide +kernel
theorem dX8_nearest_31 : decode cX8_nearest 31 = .ok (.getfield 35, 3) := by decide +kernel
theorem dX8_nearest_34 : decode cX8_nearest 34 = .ok (.aload_n 0, 1) := by decide +kernel
theorem dX8_nearest_35 : decode cX8_nearest 35 = .ok (.getfield 42, 3) := by decide +kernel
theorem dX8_nearest_38 : decode cX8_nearest 38 = .ok (.aload_n 0, 1) := by decide +kernel
theorem dX8_nearest_39 : decode cX8_nearest 39 = .ok (.getfield 28, 3) := by decide +kernel
theorem dX8_nearest_42 : decode cX8_nearest 42 = .ok (.iload_n 1, 1) := by decide +kernel
theorem dX8_nearest_43 : decode cX8_nearest 43 = .ok (.iload_n 2, 1) := by decide +kernel
theorem dX8_nearest_44 : decode cX8_nearest 44 = .ok (.invokevirtual 153, 3) := by decide +kernel
theorem dX8_nearest_47 : decode cX8_nearest 47 = .ok (.iload_n 3, 1) := by decide +kernel
theorem dX8_nearest_48 : decode cX8_nearest 48 = .ok (.ifCond .ne 13, 3) := by decide +kernel
theorem dX8_nearest_51 : decode cX8_nearest 51 = .ok (.aload_n 0, 1) := by decide +kernel
theorem dX8_nearest_52 : decode cX8_nearest 52 = .ok (.getfield 35, 3) := by decide +kernel
theorem dX8_nearest_55 : decode cX8_nearest 55 = .ok (.invokevirtual 157, 3) := by decide +kernel
theorem dX8_nearest_58 : decode cX8_nearest 58 = .ok (.goto 28, 3) := by decide +kernel
theorem dX8_nearest_61 : decode cX8_nearest 61 = .ok (.iload_n 3, 1) := by decide +kernel
theorem dX8_nearest_62 : decode cX8_nearest 62 = .ok (.iconst 1, 1) := by decide +kernel
theorem dX8_nearest_63 : decode cX8_nearest 63 = .ok (.if_icmp .ne 13, 3) := by decide +kernel
theorem dX8_nearest_66 : decode cX8_nearest 66 = .ok (.aload_n 0, 1) := by decide +kernel
theorem dX8_nearest_67 : decode cX8_nearest 67 = .ok (.getfield 35, 3) := by decide +kernel
theorem dX8_nearest_70 : decode cX8_nearest 70 = .ok (.invokevirtual 161, 3) := by decide +kernel
theorem dX8_nearest_73 : decode cX8_nearest 73 = .ok (.goto 13, 3) := by decide +kernel
theorem dX8_nearest_76 : decode cX8_nearest 76 = .ok (.aload_n 0, 1) := by decide +kernel
theorem dX8_nearest_77 : decode cX8_nearest 77 = .ok (.getfield 35, 3) := by decide +kernel
theorem dX8_nearest_80 : decode cX8_nearest 80 = .ok (.iload_n 3, 1) := by decide +kernel
theorem dX8_nearest_81 : decode cX8_nearest 81 = .ok (.iconst 2, 1) := by decide +kernel
theorem dX8_nearest_82 : decode cX8_nearest 82 = .ok (.isub, 1) := by decide +kernel
theorem dX8_nearest_83 : decode cX8_nearest 83 = .ok (.invokevirtual 164, 3) := by decide +kernel
theorem dX8_nearest_86 : decode cX8_nearest 86 = .ok (.ireturn, 1) := by decide +kernel
theorem dX8_fewest_0 : decode cX8_fewest 0 = .ok (.iload_n 1, 1) := by decide +kernel
theorem dX8_fewest_1 : decode cX8_fewest 1 = .ok (.iload_n 2, 1) := by decide +kernel
theorem dX8_fewest_2 : decode cX8_fewest 2 = .ok (.invokestatic 146, 3) := by decide +kernel
theorem dX8_fewest_5 : decode cX8_fewest 5 = .ok (.ifCond .eq 24, 3) := by decide +kernel
theorem dX8_fewest_8 : decode cX8_fewest 8 = .ok (.iload_n 3, 1) := by decide +kernel
theorem dX8_fewest_9 : decode cX8_fewest 9 = .ok (.iconst 0, 1) := by decide +kernel
theorem dX8_fewest_10 : decode cX8_fewest 10 = .ok (.sipush 999, 3) := by decide +kernel
theorem dX8_fewest_13 : decode cX8_fewest 13 = .ok (.invokestatic 112, 3) := by decide +kernel
theorem dX8_fewest_16 : decode cX8_fewest 16 = .ok (.ifCond .eq 13, 3) := by decide +kernel
theorem dX8_fewest_19 : decode cX8_fewest 19 = .ok (.iload 4, 2) := by decide +kernel
theorem dX8_fewest_21 : decode cX8_fewest 21 = .ok (.iconst 1, 1) := by decide +kernel
theorem dX8_fewest_22 : decode cX8_fewest 22 = .ok (.iconst 3, 1) := by decide +kernel
theorem dX8_fewest_23 : decode cX8_fewest 23 = .ok (.invokestatic 112, 3) := by decide +kernel
theorem dX8_fewest_26 : decode cX8_fewest 26 = .ok (.ifCond .ne 5, 3) := by decide +kernel
theorem dX8_fewest_29 : decode cX8_fewest 29 = .ok (.iconst (-1), 1) := by decide +kernel
theorem dX8_fewest_30 : decode cX8_fewest 30 = .ok (.ireturn, 1) := by decide +kernel
theorem dX8_fewest_31 : decode cX8_fewest 31 = .ok (.aload_n 0, 1) := by decide +kernel
theorem dX8_fewest_32 : decode cX8_fewest 32 = .ok (.getfield 35, 3) := by decide +kernel
theorem dX8_fewest_35 : decode cX8_fewest 35 = .ok (.aload_n 0, 1) := by decide +kernel
theorem dX8_fewest_36 : decode cX8_fewest 36 = .ok (.getfield 42, 3) := by decide +kernel
theorem dX8_fewest_39 : decode cX8_fewest 39 = .ok (.aload_n 0, 1) := by decide +kernel
theorem dX8_fewest_40 : decode cX8_fewest 40 = .ok (.getfield 28, 3) := by decide +kernel
theorem dX8_fewest_43 : decode cX8_fewest 43 = .ok (.iload_n 1, 1) := by decide +kernel
theorem dX8_fewest_44 : decode cX8_fewest 44 = .ok (.iload_n 2, 1) := by decide +kernel
theorem dX8_fewest_45 : decode cX8_fewest 45 = .ok (.iload_n 3, 1) := by decide +kernel
theorem dX8_fewest_46 : decode cX8_fewest 46 = .ok (.iload 4, 2) := by decide +kernel
theorem dX8_fewest_48 : decode cX8_fewest 48 = .ok (.invokevirtual 168, 3) := by decide +kernel
theorem dX8_fewest_51 : decode cX8_fewest 51 = .ok (.ifCond .eq 13, 3) := by decide +kernel
theorem dX8_fewest_54 : decode cX8_fewest 54 = .ok (.aload_n 0, 1) := by decide +kernel
theorem dX8_fewest_55 : decode cX8_fewest 55 = .ok (.getfield 35, 3) := by decide +kernel
theorem dX8_fewest_58 : decode cX8_fewest 58 = .ok (.invokevirtual 161, 3) := by decide +kernel
theorem dX8_fewest_61 : decode cX8_fewest 61 = .ok (.goto 4, 3) := by decide +kernel
theorem dX8_fewest_64 : decode cX8_fewest 64 = .ok (.iconst (-1), 1) := by decide +kernel
theorem dX8_fewest_65 : decode cX8_fewest 65 = .ok (.ireturn, 1) := by decide +kernel
theorem dX8_holds_0 : decode cX8_holds 0 = .ok (.iload_n 1, 1) := by decide +kernel
theorem dX8_holds_1 : decode cX8_holds 1 = .ok (.iload_n 2, 1) := by decide +kernel
theorem dX8_holds_2 : decode cX8_holds 2 = .ok (.invokestatic 146, 3) := by decide +kernel
theorem dX8_holds_5 : decode cX8_holds 5 = .ok (.ifCond .eq 26, 3) := by decide +kernel
theorem dX8_holds_8 : decode cX8_holds 8 = .ok (.iload_n 3, 1) := by decide +kernel
theorem dX8_holds_9 : decode cX8_holds 9 = .ok (.iconst 0, 1) := by decide +kernel
theorem dX8_holds_10 : decode cX8_holds 10 = .ok (.sipush 999, 3) := by decide +kernel
theorem dX8_holds_13 : decode cX8_holds 13 = .ok (.invokestatic 112, 3) := by decide +kernel
theorem dX8_holds_16 : decode cX8_holds 16 = .ok (.ifCond .eq 15, 3) := by decide +kernel
theorem dX8_holds_19 : decode cX8_holds 19 = .ok (.iload 4, 2) := by decide +kernel
theorem dX8_holds_21 : decode cX8_holds 21 = .ok (.iconst 1, 1) := by decide +kernel
theorem dX8_holds_22 : decode cX8_holds 22 = .ok (.sipush 240, 3) := by decide +kernel
theorem dX8_holds_25 : decode cX8_holds 25 = .ok (.invokestatic 112, 3) := by decide +kernel
theorem dX8_holds_28 : decode cX8_holds 28 = .ok (.ifCond .ne 6, 3) := by decide +kernel
theorem dX8_holds_31 : decode cX8_holds 31 = .ok (.bipush (-2), 2) := by decide +kernel
theorem dX8_holds_33 : decode cX8_holds 33 = .ok (.ireturn, 1) := by decide +kernel
theorem dX8_holds_34 : decode cX8_holds 34 = .ok (.aload_n 0, 1) := by decide +kernel
theorem dX8_holds_35 : decode cX8_holds 35 = .ok (.getfield 46, 3) := by decide +kernel
theorem dX8_holds_38 : decode cX8_holds 38 = .ok (.aload_n 0, 1) := by decide +kernel
theorem dX8_holds_39 : decode cX8_holds 39 = .ok (.getfield 42, 3) := by decide +kernel
theorem dX8_holds_42 : decode cX8_holds 42 = .ok (.invokevirtual 172, 3) := by decide +kernel
theorem dX8_holds_45 : decode cX8_holds 45 = .ok (.iconst 0, 1) := by decide +kernel
theorem dX8_holds_46 : decode cX8_holds 46 = .ok (.istore 5, 2) := by decide +kernel
theorem dX8_holds_48 : decode cX8_holds 48 = .ok (.iload 5, 2) := by decide +kernel
theorem dX8_holds_50 : decode cX8_holds 50 = .ok (.iload 4, 2) := by decide +kernel
theorem dX8_holds_52 : decode cX8_holds 52 = .ok (.if_icmp .ge 65, 3) := by decide +kernel
theorem dX8_holds_55 : decode cX8_holds 55 = .ok (.aload_n 0, 1) := by decide +kernel
theorem dX8_holds_56 : decode cX8_holds 56 = .ok (.getfield 28, 3) := by decide +kernel
theorem dX8_holds_59 : decode cX8_holds 59 = .ok (.aload_n 0, 1) := by decide +kernel
theorem dX8_holds_60 : decode cX8_holds 60 = .ok (.getfield 46, 3) := by decide +kernel
theorem dX8_holds_63 : decode cX8_holds 63 = .ok (.aload_n 0, 1) := by decide +kernel
theorem dX8_holds_64 : decode cX8_holds 64 = .ok (.getfield 46, 3) := by decide +kernel
theorem dX8_holds_67 : decode cX8_holds 67 = .ok (.getfield 83, 3) := by decide +kernel
theorem dX8_holds_70 : decode cX8_holds 70 = .ok (.iconst 0, 1) := by decide +kernel
theorem dX8_holds_71 : decode cX8_holds 71 = .ok (.invokevirtual 123, 3) := by decide +kernel
theorem dX8_holds_74 : decode cX8_holds 74 = .ok (.aload_n 0, 1) := by decide +kernel
theorem dX8_holds_75 : decode cX8_holds 75 = .ok (.getfield 28, 3) := by decide +kernel
theorem dX8_holds_78 : decode cX8_holds 78 = .ok (.getfield 126, 3) := by decide +kernel
theorem dX8_holds_81 : decode cX8_holds 81 = .ok (.aload_n 0, 1) := by decide +kernel
theorem dX8_holds_82 : decode cX8_holds 82 = .ok (.getfield 28, 3) := by decide +kernel
theorem dX8_holds_85 : decode cX8_holds 85 = .ok (.getfield 129, 3) := by decide +kernel
theorem dX8_holds_88 : decode cX8_holds 88 = .ok (.iload_n 1, 1) := by decide +kernel
theorem dX8_holds_89 : decode cX8_holds 89 = .ok (.iload_n 2, 1) := by decide +kernel
theorem dX8_holds_90 : decode cX8_holds 90 = .ok (.invokestatic 176, 3) := by decide +kernel
theorem dX8_holds_93 : decode cX8_holds 93 = .ok (.iload_n 3, 1) := by decide +kernel
theorem dX8_holds_94 : decode cX8_holds 94 = .ok (.if_icmp .le 6, 3) := by decide +kernel
theorem dX8_holds_97 : decode cX8_holds 97 = .ok (.iload 5, 2) := by decide +kernel
theorem dX8_holds_99 : decode cX8_holds 99 = .ok (.ireturn, 1) := by decide +kernel
theorem dX8_holds_100 : decode cX8_holds 100 = .ok (.aload_n 0, 1) := by decide +kernel
theorem dX8_holds_101 : decode cX8_holds 101 = .ok (.getfield 46, 3) := by decide +kernel
theorem dX8_holds_104 : decode cX8_holds 104 = .ok (.aload_n 0, 1) := by decide +kernel
theorem dX8_holds_105 : decode cX8_holds 105 = .ok (.getfield 28, 3) := by decide +kernel
theorem dX8_holds_108 : decode cX8_holds 108 = .ok (.invokevirtual 142, 3) := by decide +kernel
theorem dX8_holds_111 : decode cX8_holds 111 = .ok (.iinc 5 1, 3) := by decide +kernel
theorem dX8_holds_114 : decode cX8_holds 114 = .ok (.goto (-66), 3) := by decide +kernel
theorem dX8_holds_117 : decode cX8_holds 117 = .ok (.iconst (-1), 1) := by decide +kernel
theorem dX8_holds_118 : decode cX8_holds 118 = .ok (.ireturn, 1) := by decide +kernel
theorem dX8_mayGo_0 : decode cX8_mayGo 0 = .ok (.iload_n 1, 1) := by decide +kernel
theorem dX8_mayGo_1 : decode cX8_mayGo 1 = .ok (.invokestatic 105, 3) := by decide +kernel
theorem dX8_mayGo_4 : decode cX8_mayGo 4 = .ok (.ifCond .ne 5, 3) := by decide +kernel
theorem dX8_mayGo_7 : decode cX8_mayGo 7 = .ok (.iconst (-1), 1) := by decide +kernel
theorem dX8_mayGo_8 : decode cX8_mayGo 8 = .ok (.ireturn, 1) := by decide +kernel
theorem dX8_mayGo_9 : decode cX8_mayGo 9 = .ok (.aload_n 0, 1) := by decide +kernel
theorem dX8_mayGo_10 : decode cX8_mayGo 10 = .ok (.getfield 28, 3) := by decide +kernel
theorem dX8_mayGo_13 : decode cX8_mayGo 13 = .ok (.aload_n 0, 1) := by decide +kernel
theorem dX8_mayGo_14 : decode cX8_mayGo 14 = .ok (.getfield 42, 3) := by decide +kernel
theorem dX8_mayGo_17 : decode cX8_mayGo 17 = .ok (.aload_n 0, 1) := by decide +kernel
theorem dX8_mayGo_18 : decode cX8_mayGo 18 = .ok (.getfield 42, 3) := by decide +kernel
theorem dX8_mayGo_21 : decode cX8_mayGo 21 = .ok (.getfield 83, 3) := by decide +kernel
theorem dX8_mayGo_24 : decode cX8_mayGo 24 = .ok (.iconst 0, 1) := by decide +kernel
theorem dX8_mayGo_25 : decode cX8_mayGo 25 = .ok (.invokevirtual 86, 3) := by decide +kernel
theorem dX8_mayGo_28 : decode cX8_mayGo 28 = .ok (.iconst 0, 1) := by decide +kernel
theorem dX8_mayGo_29 : decode cX8_mayGo 29 = .ok (.istore_n 2, 1) := by decide +kernel
theorem dX8_mayGo_30 : decode cX8_mayGo 30 = .ok (.iconst 0, 1) := by decide +kernel
theorem dX8_mayGo_31 : decode cX8_mayGo 31 = .ok (.istore_n 3, 1) := by decide +kernel
theorem dX8_mayGo_32 : decode cX8_mayGo 32 = .ok (.iload_n 3, 1) := by decide +kernel
theorem dX8_mayGo_33 : decode cX8_mayGo 33 = .ok (.aload_n 0, 1) := by decide +kernel
theorem dX8_mayGo_34 : decode cX8_mayGo 34 = .ok (.getfield 42, 3) := by decide +kernel
theorem dX8_mayGo_37 : decode cX8_mayGo 37 = .ok (.getfield 72, 3) := by decide +kernel
theorem dX8_mayGo_40 : decode cX8_mayGo 40 = .ok (.getfield 150, 3) := by decide +kernel
theorem dX8_mayGo_43 : decode cX8_mayGo 43 = .ok (.if_icmp .ge 63, 3) := by decide +kernel
theorem dX8_mayGo_46 : decode cX8_mayGo 46 = .ok (.aload_n 0, 1) := by decide +kernel
theorem dX8_mayGo_47 : decode cX8_mayGo 47 = .ok (.getfield 42, 3) := by decide +kernel
theorem dX8_mayGo_50 : decode cX8_mayGo 50 = .ok (.iload_n 3, 1) := by decide +kernel
theorem dX8_mayGo_51 : decode cX8_mayGo 51 = .ok (.invokevirtual 90, 3) := by decide +kernel
theorem dX8_mayGo_54 : decode cX8_mayGo 54 = .ok (.ifCond .ne 46, 3) := by decide +kernel
theorem dX8_mayGo_57 : decode cX8_mayGo 57 = .ok (.aload_n 0, 1) := by decide +kernel
theorem dX8_mayGo_58 : decode cX8_mayGo 58 = .ok (.getfield 28, 3) := by decide +kernel
theorem dX8_mayGo_61 : decode cX8_mayGo 61 = .ok (.aload_n 0, 1) := by decide +kernel
theorem dX8_mayGo_62 : decode cX8_mayGo 62 = .ok (.getfield 42, 3) := by decide +kernel
theorem dX8_mayGo_65 : decode cX8_mayGo 65 = .ok (.aload_n 0, 1) := by decide +kernel
theorem dX8_mayGo_66 : decode cX8_mayGo 66 = .ok (.getfield 42, 3) := by decide +kernel
theorem dX8_mayGo_69 : decode cX8_mayGo 69 = .ok (.getfield 135, 3) := by decide +kernel
theorem dX8_mayGo_72 : decode cX8_mayGo 72 = .ok (.iconst 1, 1) := by decide +kernel
theorem dX8_mayGo_73 : decode cX8_mayGo 73 = .ok (.iload_n 3, 1) := by decide +kernel
theorem dX8_mayGo_74 : decode cX8_mayGo 74 = .ok (.ishl, 1) := by decide +kernel
theorem dX8_mayGo_75 : decode cX8_mayGo 75 = .ok (.ior, 1) := by decide +kernel
theorem dX8_mayGo_76 : decode cX8_mayGo 76 = .ok (.invokevirtual 180, 3) := by decide +kernel
theorem dX8_mayGo_79 : decode cX8_mayGo 79 = .ok (.iload_n 2, 1) := by decide +kernel
theorem dX8_mayGo_80 : decode cX8_mayGo 80 = .ok (.aload_n 0, 1) := by decide +kernel
theorem dX8_mayGo_81 : decode cX8_mayGo 81 = .ok (.getfield 28, 3) := by decide +kernel
theorem dX8_mayGo_84 : decode cX8_mayGo 84 = .ok (.getfield 129, 3) := by decide +kernel
theorem dX8_mayGo_87 : decode cX8_mayGo 87 = .ok (.iload_n 1, 1) := by decide +kernel
theorem dX8_mayGo_88 : decode cX8_mayGo 88 = .ok (.if_icmp .lt 9, 3) := by decide +kernel
theorem dX8_mayGo_91 : decode cX8_mayGo 91 = .ok (.iconst 1, 1) := by decide +kernel
theorem dX8_mayGo_92 : decode cX8_mayGo 92 = .ok (.iload_n 3, 1) := by decide +kernel
theorem dX8_mayGo_93 : decode cX8_mayGo 93 = .ok (.ishl, 1) := by decide +kernel
theorem dX8_mayGo_94 : decode cX8_mayGo 94 = .ok (.goto 4, 3) := by decide +kernel
theorem dX8_mayGo_97 : decode cX8_mayGo 97 = .ok (.iconst 0, 1) := by decide +kernel
theorem dX8_mayGo_98 : decode cX8_mayGo 98 = .ok (.ior, 1) := by decide +kernel
theorem dX8_mayGo_99 : decode cX8_mayGo 99 = .ok (.istore_n 2, 1) := by decide +kernel
theorem dX8_mayGo_100 : decode cX8_mayGo 100 = .ok (.iinc 3 1, 3) := by decide +kernel
theorem dX8_mayGo_103 : decode cX8_mayGo 103 = .ok (.goto (-71), 3) := by decide +kernel
theorem dX8_mayGo_106 : decode cX8_mayGo 106 = .ok (.iload_n 2, 1) := by decide +kernel
theorem dX8_mayGo_107 : decode cX8_mayGo 107 = .ok (.ireturn, 1) := by decide +kernel
theorem dX8_needed_0 : decode cX8_needed 0 = .ok (.iload_n 1, 1) := by decide +kernel
theorem dX8_needed_1 : decode cX8_needed 1 = .ok (.invokestatic 105, 3) := by decide +kernel
theorem dX8_needed_4 : decode cX8_needed 4 = .ok (.ifCond .eq 12, 3) := by decide +kernel
theorem dX8_needed_7 : decode cX8_needed 7 = .ok (.iload_n 2, 1) := by decide +kernel
theorem dX8_needed_8 : decode cX8_needed 8 = .ok (.iconst 0, 1) := by decide +kernel
theorem dX8_needed_9 : decode cX8_needed 9 = .ok (.iconst 1, 1) := by decide +kernel
theorem dX8_needed_10 : decode cX8_needed 10 = .ok (.invokestatic 112, 3) := by decide +kernel
theorem dX8_needed_13 : decode cX8_needed 13 = .ok (.ifCond .ne 5, 3) := by decide +kernel
theorem dX8_needed_16 : decode cX8_needed 16 = .ok (.iconst (-1), 1) := by decide +kernel
theorem dX8_needed_17 : decode cX8_needed 17 = .ok (.ireturn, 1) := by decide +kernel
theorem dX8_needed_18 : decode cX8_needed 18 = .ok (.aload_n 0, 1) := by decide +kernel
theorem dX8_needed_19 : decode cX8_needed 19 = .ok (.iload_n 1, 1) := by decide +kernel
theorem dX8_needed_20 : decode cX8_needed 20 = .ok (.invokevirtual 184, 3) := by decide +kernel
theorem dX8_needed_23 : decode cX8_needed 23 = .ok (.istore_n 3, 1) := by decide +kernel
theorem dX8_needed_24 : decode cX8_needed 24 = .ok (.iload_n 3, 1) := by decide +kernel
theorem dX8_needed_25 : decode cX8_needed 25 = .ok (.iconst (-1), 1) := by decide +kernel
theorem dX8_needed_26 : decode cX8_needed 26 = .ok (.if_icmp .eq 8, 3) := by decide +kernel
theorem dX8_needed_29 : decode cX8_needed 29 = .ok (.iload_n 2, 1) := by decide +kernel
theorem dX8_needed_30 : decode cX8_needed 30 = .ok (.iconst 1, 1) := by decide +kernel
theorem dX8_needed_31 : decode cX8_needed 31 = .ok (.if_icmp .ne 7, 3) := by decide +kernel
theorem dX8_needed_34 : decode cX8_needed 34 = .ok (.iload_n 3, 1) := by decide +kernel
theorem dX8_needed_35 : decode cX8_needed 35 = .ok (.goto 7, 3) := by decide +kernel
theorem dX8_needed_38 : decode cX8_needed 38 = .ok (.iload_n 3, 1) := by decide +kernel
theorem dX8_needed_39 : decode cX8_needed 39 = .ok (.invokestatic 187, 3) := by decide +kernel
theorem dX8_needed_42 : decode cX8_needed 42 = .ok (.ireturn, 1) := by decide +kernel
theorem dX8_mean_0 : decode cX8_mean 0 = .ok (.iload_n 1, 1) := by decide +kernel
theorem dX8_mean_1 : decode cX8_mean 1 = .ok (.iconst 1, 1) := by decide +kernel
theorem dX8_mean_2 : decode cX8_mean 2 = .ok (.sipush 240, 3) := by decide +kernel
theorem dX8_mean_5 : decode cX8_mean 5 = .ok (.invokestatic 112, 3) := by decide +kernel
theorem dX8_mean_8 : decode cX8_mean 8 = .ok (.ifCond .eq 12, 3) := by decide +kernel
theorem dX8_mean_11 : decode cX8_mean 11 = .ok (.iload_n 2, 1) := by decide +kernel
theorem dX8_mean_12 : decode cX8_mean 12 = .ok (.iconst 0, 1) := by decide +kernel
theorem dX8_mean_13 : decode cX8_mean 13 = .ok (.iconst 3, 1) := by decide +kernel
theorem dX8_mean_14 : decode cX8_mean 14 = .ok (.invokestatic 112, 3) := by decide +kernel
theorem dX8_mean_17 : decode cX8_mean 17 = .ok (.ifCond .ne 7, 3) := by decide +kernel
theorem dX8_mean_20 : decode cX8_mean 20 = .ok (.ldc2_w 192, 3) := by decide +kernel
theorem dX8_mean_23 : decode cX8_mean 23 = .ok (.lreturn, 1) := by decide +kernel
theorem dX8_mean_24 : decode cX8_mean 24 = .ok (.lconst 0, 1) := by decide +kernel
theorem dX8_mean_25 : decode cX8_mean 25 = .ok (.lstore_n 3, 1) := by decide +kernel
theorem dX8_mean_26 : decode cX8_mean 26 = .ok (.ldc 194, 2) := by decide +kernel
theorem dX8_mean_28 : decode cX8_mean 28 = .ok (.istore 5, 2) := by decide +kernel
theorem dX8_mean_30 : decode cX8_mean 30 = .ok (.iconst 0, 1) := by decide +kernel
theorem dX8_mean_31 : decode cX8_mean 31 = .ok (.istore 6, 2) := by decide +kernel
theorem dX8_mean_33 : decode cX8_mean 33 = .ok (.aload_n 0, 1) := by decide +kernel
theorem dX8_mean_34 : decode cX8_mean 34 = .ok (.getfield 46, 3) := by decide +kernel
theorem dX8_mean_37 : decode cX8_mean 37 = .ok (.aload_n 0, 1) := by decide +kernel
theorem dX8_mean_38 : decode cX8_mean 38 = .ok (.getfield 42, 3) := by decide +kernel
theorem dX8_mean_41 : decode cX8_mean 41 = .ok (.invokevirtual 172, 3) := by decide +kernel
theorem dX8_mean_44 : decode cX8_mean 44 = .ok (.iconst 0, 1) := by decide +kernel
theorem dX8_mean_45 : decode cX8_mean 45 = .ok (.istore 7, 2) := by decide +kernel
theorem dX8_mean_47 : decode cX8_mean 47 = .ok (.iload 7, 2) := by decide +kernel
theorem dX8_mean_49 : decode cX8_mean 49 = .ok (.iload_n 1, 1) := by decide +kernel
theorem dX8_mean_50 : decode cX8_mean 50 = .ok (.if_icmp .ge 78, 3) := by decide +kernel
theorem dX8_mean_53 : decode cX8_mean 53 = .ok (.aload_n 0, 1) := by decide +kernel
theorem dX8_mean_54 : decode cX8_mean 54 = .ok (.getfield 28, 3) := by decide +kernel
theorem dX8_mean_57 : decode cX8_mean 57 = .ok (.aload_n 0, 1) := by decide +kernel
theorem dX8_mean_58 : decode cX8_mean 58 = .ok (.getfield 46, 3) := by decide +kernel
theorem dX8_mean_61 : decode cX8_mean 61 = .ok (.aload_n 0, 1) := by decide +kernel
theorem dX8_mean_62 : decode cX8_mean 62 = .ok (.getfield 46, 3) := by decide +kernel
theorem dX8_mean_65 : decode cX8_mean 65 = .ok (.getfield 83, 3) := by decide +kernel
theorem dX8_mean_68 : decode cX8_mean 68 = .ok (.iconst 0, 1) := by decide +kernel
theorem dX8_mean_69 : decode cX8_mean 69 = .ok (.invokevirtual 123, 3) := by decide +kernel
theorem dX8_mean_72 : decode cX8_mean 72 = .ok (.lload_n 3, 1) := by decide +kernel
theorem dX8_mean_73 : decode cX8_mean 73 = .ok (.aload_n 0, 1) := by decide +kernel
theorem dX8_mean_74 : decode cX8_mean 74 = .ok (.getfield 28, 3) := by decide +kernel
theorem dX8_mean_77 : decode cX8_mean 77 = .ok (.getfield 126, 3) := by decide +kernel
theorem dX8_mean_80 : decode cX8_mean 80 = .ok (.i2l, 1) := by decide +kernel
theorem dX8_mean_81 : decode cX8_mean 81 = .ok (.ladd, 1) := by decide +kernel
theorem dX8_mean_82 : decode cX8_mean 82 = .ok (.lstore_n 3, 1) := by decide +kernel
theorem dX8_mean_83 : decode cX8_mean 83 = .ok (.iload 5, 2) := by decide +kernel
theorem dX8_mean_85 : decode cX8_mean 85 = .ok (.aload_n 0, 1) := by decide +kernel
theorem dX8_mean_86 : decode cX8_mean 86 = .ok (.getfield 28, 3) := by decide +kernel
theorem dX8_mean_89 : decode cX8_mean 89 = .ok (.getfield 126, 3) := by decide +kernel
theorem dX8_mean_92 : decode cX8_mean 92 = .ok (.invokestatic 195, 3) := by decide +kernel
theorem dX8_mean_95 : decode cX8_mean 95 = .ok (.istore 5, 2) := by decide +kernel
theorem dX8_mean_97 : decode cX8_mean 97 = .ok (.iload 6, 2) := by decide +kernel
theorem dX8_mean_99 : decode cX8_mean 99 = .ok (.aload_n 0, 1) := by decide +kernel
theorem dX8_mean_100 : decode cX8_mean 100 = .ok (.getfield 28, 3) := by decide +kernel
theorem dX8_mean_103 : decode cX8_mean 103 = .ok (.getfield 126, 3) := by decide +kernel
theorem dX8_mean_106 : decode cX8_mean 106 = .ok (.invokestatic 201, 3) := by decide +kernel
theorem dX8_mean_109 : decode cX8_mean 109 = .ok (.istore 6, 2) := by decide +kernel
theorem dX8_mean_111 : decode cX8_mean 111 = .ok (.aload_n 0, 1) := by decide +kernel
theorem dX8_mean_112 : decode cX8_mean 112 = .ok (.getfield 46, 3) := by decide +kernel
theorem dX8_mean_115 : decode cX8_mean 115 = .ok (.aload_n 0, 1) := by decide +kernel
theorem dX8_mean_116 : decode cX8_mean 116 = .ok (.getfield 28, 3) := by decide +kernel
theorem dX8_mean_119 : decode cX8_mean 119 = .ok (.invokevirtual 142, 3) := by decide +kernel
theorem dX8_mean_122 : decode cX8_mean 122 = .ok (.iinc 7 1, 3) := by decide +kernel
theorem dX8_mean_125 : decode cX8_mean 125 = .ok (.goto (-78), 3) := by decide +kernel
theorem dX8_mean_128 : decode cX8_mean 128 = .ok (.iload_n 2, 1) := by decide +kernel
theorem dX8_mean_129 : decode cX8_mean 129 = .ok (.iconst 2, 1) := by decide +kernel
theorem dX8_mean_130 : decode cX8_mean 130 = .ok (.if_icmp .lt 18, 3) := by decide +kernel
theorem dX8_mean_133 : decode cX8_mean 133 = .ok (.iload_n 2, 1) := by decide +kernel
theorem dX8_mean_134 : decode cX8_mean 134 = .ok (.iconst 2, 1) := by decide +kernel
theorem dX8_mean_135 : decode cX8_mean 135 = .ok (.if_icmp .ne 9, 3) := by decide +kernel
theorem dX8_mean_138 : decode cX8_mean 138 = .ok (.iload 5, 2) := by decide +kernel
theorem dX8_mean_140 : decode cX8_mean 140 = .ok (.i2l, 1) := by decide +kernel
theorem dX8_mean_141 : decode cX8_mean 141 = .ok (.goto 6, 3) := by decide +kernel
theorem dX8_mean_144 : decode cX8_mean 144 = .ok (.iload 6, 2) := by decide +kernel
theorem dX8_mean_146 : decode cX8_mean 146 = .ok (.i2l, 1) := by decide +kernel
theorem dX8_mean_147 : decode cX8_mean 147 = .ok (.lreturn, 1) := by decide +kernel
theorem dX8_mean_148 : decode cX8_mean 148 = .ok (.lload_n 3, 1) := by decide +kernel
theorem dX8_mean_149 : decode cX8_mean 149 = .ok (.iload_n 1, 1) := by decide +kernel
theorem dX8_mean_150 : decode cX8_mean 150 = .ok (.i2l, 1) := by decide +kernel
theorem dX8_mean_151 : decode cX8_mean 151 = .ok (.invokestatic 204, 3) := by decide +kernel
theorem dX8_mean_154 : decode cX8_mean 154 = .ok (.lstore 7, 2) := by decide +kernel
theorem dX8_mean_156 : decode cX8_mean 156 = .ok (.iload_n 2, 1) := by decide +kernel
theorem dX8_mean_157 : decode cX8_mean 157 = .ok (.ifCond .ne 7, 3) := by decide +kernel
theorem dX8_mean_160 : decode cX8_mean 160 = .ok (.lload_n 3, 1) := by decide +kernel
theorem dX8_mean_161 : decode cX8_mean 161 = .ok (.goto 5, 3) := by decide +kernel
theorem dX8_mean_164 : decode cX8_mean 164 = .ok (.iload_n 1, 1) := by decide +kernel
theorem dX8_mean_165 : decode cX8_mean 165 = .ok (.i2l, 1) := by decide +kernel
theorem dX8_mean_166 : decode cX8_mean 166 = .ok (.lload 7, 2) := by decide +kernel
theorem dX8_mean_168 : decode cX8_mean 168 = .ok (.lconst 0, 1) := by decide +kernel
theorem dX8_mean_169 : decode cX8_mean 169 = .ok (.lcmp, 1) := by decide +kernel
theorem dX8_mean_170 : decode cX8_mean 170 = .ok (.ifCond .le 8, 3) := by decide +kernel
theorem dX8_mean_173 : decode cX8_mean 173 = .ok (.lload 7, 2) := by decide +kernel
theorem dX8_mean_175 : decode cX8_mean 175 = .ok (.goto 4, 3) := by decide +kernel
theorem dX8_mean_178 : decode cX8_mean 178 = .ok (.lconst 1, 1) := by decide +kernel
theorem dX8_mean_179 : decode cX8_mean 179 = .ok (.ldiv, 1) := by decide +kernel
theorem dX8_mean_180 : decode cX8_mean 180 = .ok (.lreturn, 1) := by decide +kernel
theorem dX8_down_0 : decode cX8_down 0 = .ok (.aload_n 0, 1) := by decide +kernel
theorem dX8_down_1 : decode cX8_down 1 = .ok (.getfield 46, 3) := by decide +kernel
theorem dX8_down_4 : decode cX8_down 4 = .ok (.aload_n 0, 1) := by decide +kernel
theorem dX8_down_5 : decode cX8_down 5 = .ok (.getfield 42, 3) := by decide +kernel
theorem dX8_down_8 : decode cX8_down 8 = .ok (.invokevirtual 172, 3) := by decide +kernel
theorem dX8_down_11 : decode cX8_down 11 = .ok (.iconst 0, 1) := by decide +kernel
theorem dX8_down_12 : decode cX8_down 12 = .ok (.istore_n 1, 1) := by decide +kernel
theorem dX8_down_13 : decode cX8_down 13 = .ok (.iload_n 1, 1) := by decide +kernel
theorem dX8_down_14 : decode cX8_down 14 = .ok (.sipush 200, 3) := by decide +kernel
theorem dX8_down_17 : decode cX8_down 17 = .ok (.if_icmp .ge 26, 3) := by decide +kernel
theorem dX8_down_20 : decode cX8_down 20 = .ok (.aload_n 0, 1) := by decide +kernel
theorem dX8_down_21 : decode cX8_down 21 = .ok (.getfield 46, 3) := by decide +kernel
theorem dX8_down_24 : decode cX8_down 24 = .ok (.invokevirtual 208, 3) := by decide +kernel
theorem dX8_down_27 : decode cX8_down 27 = .ok (.ifCond .ne 16, 3) := by decide +kernel
theorem dX8_down_30 : decode cX8_down 30 = .ok (.aload_n 0, 1) := by decide +kernel
theorem dX8_down_31 : decode cX8_down 31 = .ok (.getfield 46, 3) := by decide +kernel
theorem dX8_down_34 : decode cX8_down 34 = .ok (.invokevirtual 211, 3) := by decide +kernel
theorem dX8_down_37 : decode cX8_down 37 = .ok (.iinc 1 1, 3) := by decide +kernel
theorem dX8_down_40 : decode cX8_down 40 = .ok (.goto (-27), 3) := by decide +kernel
theorem dX8_down_43 : decode cX8_down 43 = .ok (.iload_n 1, 1) := by decide +kernel
theorem dX8_down_44 : decode cX8_down 44 = .ok (.ireturn, 1) := by decide +kernel
theorem dX8_note_0 : decode cX8_note 0 = .ok (.iload_n 1, 1) := by decide +kernel
theorem dX8_note_1 : decode cX8_note 1 = .ok (.iconst 0, 1) := by decide +kernel
theorem dX8_note_2 : decode cX8_note 2 = .ok (.sipush 9999, 3) := by decide +kernel
theorem dX8_note_5 : decode cX8_note 5 = .ok (.invokestatic 112, 3) := by decide +kernel
theorem dX8_note_8 : decode cX8_note 8 = .ok (.ifCond .eq 23, 3) := by decide +kernel
theorem dX8_note_11 : decode cX8_note 11 = .ok (.iload_n 2, 1) := by decide +kernel
theorem dX8_note_12 : decode cX8_note 12 = .ok (.iload_n 3, 1) := by decide +kernel
theorem dX8_note_13 : decode cX8_note 13 = .ok (.invokestatic 146, 3) := by decide +kernel
theorem dX8_note_16 : decode cX8_note 16 = .ok (.ifCond .eq 15, 3) := by decide +kernel
theorem dX8_note_19 : decode cX8_note 19 = .ok (.aload_n 0, 1) := by decide +kernel
theorem dX8_note_20 : decode cX8_note 20 = .ok (.getfield 42, 3) := by decide +kernel
theorem dX8_note_23 : decode cX8_note 23 = .ok (.getfield 214, 3) := by decide +kernel
theorem dX8_note_26 : decode cX8_note 26 = .ok (.bipush 10, 2) := by decide +kernel
theorem dX8_note_28 : decode cX8_note 28 = .ok (.if_icmp .lt 5, 3) := by decide +kernel
theorem dX8_note_31 : decode cX8_note 31 = .ok (.iconst (-1), 1) := by decide +kernel
theorem dX8_note_32 : decode cX8_note 32 = .ok (.ireturn, 1) := by decide +kernel
theorem dX8_note_33 : decode cX8_note 33 = .ok (.aload_n 0, 1) := by decide +kernel
theorem dX8_note_34 : decode cX8_note 34 = .ok (.getfield 42, 3) := by decide +kernel
theorem dX8_note_37 : decode cX8_note 37 = .ok (.getfield 217, 3) := by decide +kernel
theorem dX8_note_40 : decode cX8_note 40 = .ok (.aload_n 0, 1) := by decide +kernel
theorem dX8_note_41 : decode cX8_note 41 = .ok (.getfield 42, 3) := by decide +kernel
theorem dX8_note_44 : decode cX8_note 44 = .ok (.getfield 214, 3) := by decide +kernel
theorem dX8_note_47 : decode cX8_note 47 = .ok (.iload_n 1, 1) := by decide +kernel
theorem dX8_note_48 : decode cX8_note 48 = .ok (.iastore, 1) := by decide +kernel
theorem dX8_note_49 : decode cX8_note 49 = .ok (.aload_n 0, 1) := by decide +kernel
theorem dX8_note_50 : decode cX8_note 50 = .ok (.getfield 42, 3) := by decide +kernel
theorem dX8_note_53 : decode cX8_note 53 = .ok (.getfield 220, 3) := by decide +kernel
theorem dX8_note_56 : decode cX8_note 56 = .ok (.aload_n 0, 1) := by decide +kernel
theorem dX8_note_57 : decode cX8_note 57 = .ok (.getfield 42, 3) := by decide +kernel
theorem dX8_note_60 : decode cX8_note 60 = .ok (.getfield 214, 3) := by decide +kernel
theorem dX8_note_63 : decode cX8_note 63 = .ok (.iload_n 2, 1) := by decide +kernel
theorem dX8_note_64 : decode cX8_note 64 = .ok (.iastore, 1) := by decide +kernel
theorem dX8_note_65 : decode cX8_note 65 = .ok (.aload_n 0, 1) := by decide +kernel
theorem dX8_note_66 : decode cX8_note 66 = .ok (.getfield 42, 3) := by decide +kernel
theorem dX8_note_69 : decode cX8_note 69 = .ok (.getfield 223, 3) := by decide +kernel
theorem dX8_note_72 : decode cX8_note 72 = .ok (.aload_n 0, 1) := by decide +kernel
theorem dX8_note_73 : decode cX8_note 73 = .ok (.getfield 42, 3) := by decide +kernel
theorem dX8_note_76 : decode cX8_note 76 = .ok (.getfield 214, 3) := by decide +kernel
theorem dX8_note_79 : decode cX8_note 79 = .ok (.iload_n 3, 1) := by decide +kernel
theorem dX8_note_80 : decode cX8_note 80 = .ok (.iastore, 1) := by decide +kernel
theorem dX8_note_81 : decode cX8_note 81 = .ok (.aload_n 0, 1) := by decide +kernel
theorem dX8_note_82 : decode cX8_note 82 = .ok (.getfield 42, 3) := by decide +kernel
theorem dX8_note_85 : decode cX8_note 85 = .ok (.dup, 1) := by decide +kernel
theorem dX8_note_86 : decode cX8_note 86 = .ok (.getfield 214, 3) := by decide +kernel
theorem dX8_note_89 : decode cX8_note 89 = .ok (.iconst 1, 1) := by decide +kernel
theorem dX8_note_90 : decode cX8_note 90 = .ok (.iadd, 1) := by decide +kernel
theorem dX8_note_91 : decode cX8_note 91 = .ok (.putfield 214, 3) := by decide +kernel
theorem dX8_note_94 : decode cX8_note 94 = .ok (.aload_n 0, 1) := by decide +kernel
theorem dX8_note_95 : decode cX8_note 95 = .ok (.getfield 42, 3) := by decide +kernel
theorem dX8_note_98 : decode cX8_note 98 = .ok (.getfield 214, 3) := by decide +kernel
theorem dX8_note_101 : decode cX8_note 101 = .ok (.ireturn, 1) := by decide +kernel
theorem dX8_clear_0 : decode cX8_clear 0 = .ok (.aload_n 0, 1) := by decide +kernel
theorem dX8_clear_1 : decode cX8_clear 1 = .ok (.getfield 42, 3) := by decide +kernel
theorem dX8_clear_4 : decode cX8_clear 4 = .ok (.iconst 0, 1) := by decide +kernel
theorem dX8_clear_5 : decode cX8_clear 5 = .ok (.putfield 214, 3) := by decide +kernel
theorem dX8_clear_8 : decode cX8_clear 8 = .ok (.iconst 1, 1) := by decide +kernel
theorem dX8_clear_9 : decode cX8_clear 9 = .ok (.ireturn, 1) := by decide +kernel
theorem dX8_fits_0 : decode cX8_fits 0 = .ok (.aload_n 0, 1) := by decide +kernel
theorem dX8_fits_1 : decode cX8_fits 1 = .ok (.invokevirtual 226, 3) := by decide +kernel
theorem dX8_fits_4 : decode cX8_fits 4 = .ok (.invokestatic 230, 3) := by decide +kernel
theorem dX8_fits_7 : decode cX8_fits 7 = .ok (.ireturn, 1) := by decide +kernel
theorem dX8_fit_0 : decode cX8_fit 0 = .ok (.aload_n 0, 1) := by decide +kernel
theorem dX8_fit_1 : decode cX8_fit 1 = .ok (.invokevirtual 226, 3) := by decide +kernel
theorem dX8_fit_4 : decode cX8_fit 4 = .ok (.lstore_n 2, 1) := by decide +kernel
theorem dX8_fit_5 : decode cX8_fit 5 = .ok (.iconst 0, 1) := by decide +kernel
theorem dX8_fit_6 : decode cX8_fit 6 = .ok (.istore 4, 2) := by decide +kernel
theorem dX8_fit_8 : decode cX8_fit 8 = .ok (.iconst 0, 1) := by decide +kernel
theorem dX8_fit_9 : decode cX8_fit 9 = .ok (.istore 5, 2) := by decide +kernel
theorem dX8_fit_11 : decode cX8_fit 11 = .ok (.iload 5, 2) := by decide +kernel
theorem dX8_fit_13 : decode cX8_fit 13 = .ok (.bipush 64, 2) := by decide +kernel
theorem dX8_fit_15 : decode cX8_fit 15 = .ok (.if_icmp .ge 32, 3) := by decide +kernel
theorem dX8_fit_18 : decode cX8_fit 18 = .ok (.lload_n 2, 1) := by decide +kernel
theorem dX8_fit_19 : decode cX8_fit 19 = .ok (.iload 5, 2) := by decide +kernel
theorem dX8_fit_21 : decode cX8_fit 21 = .ok (.lshr, 1) := by decide +kernel
theorem dX8_fit_22 : decode cX8_fit 22 = .ok (.lconst 1, 1) := by decide +kernel
theorem dX8_fit_23 : decode cX8_fit 23 = .ok (.land, 1) := by decide +kernel
theorem dX8_fit_24 : decode cX8_fit 24 = .ok (.lconst 0, 1) := by decide +kernel
theorem dX8_fit_25 : decode cX8_fit 25 = .ok (.lcmp, 1) := by decide +kernel
theorem dX8_fit_26 : decode cX8_fit 26 = .ok (.ifCond .eq 15, 3) := by decide +kernel
theorem dX8_fit_29 : decode cX8_fit 29 = .ok (.iload 4, 2) := by decide +kernel
theorem dX8_fit_31 : decode cX8_fit 31 = .ok (.iload_n 1, 1) := by decide +kernel
theorem dX8_fit_32 : decode cX8_fit 32 = .ok (.if_icmp .ne 6, 3) := by decide +kernel
theorem dX8_fit_35 : decode cX8_fit 35 = .ok (.iload 5, 2) := by decide +kernel
theorem dX8_fit_37 : decode cX8_fit 37 = .ok (.ireturn, 1) := by decide +kernel
theorem dX8_fit_38 : decode cX8_fit 38 = .ok (.iinc 4 1, 3) := by decide +kernel
theorem dX8_fit_41 : decode cX8_fit 41 = .ok (.iinc 5 1, 3) := by decide +kernel
theorem dX8_fit_44 : decode cX8_fit 44 = .ok (.goto (-33), 3) := by decide +kernel
theorem dX8_fit_47 : decode cX8_fit 47 = .ok (.iconst (-1), 1) := by decide +kernel
theorem dX8_fit_48 : decode cX8_fit 48 = .ok (.ireturn, 1) := by decide +kernel
theorem dX8_lots_0 : decode cX8_lots 0 = .ok (.iload_n 1, 1) := by decide +kernel
theorem dX8_lots_1 : decode cX8_lots 1 = .ok (.iconst 0, 1) := by decide +kernel
theorem dX8_lots_2 : decode cX8_lots 2 = .ok (.sipush 9999, 3) := by decide +kernel
theorem dX8_lots_5 : decode cX8_lots 5 = .ok (.invokestatic 112, 3) := by decide +kernel
theorem dX8_lots_8 : decode cX8_lots 8 = .ok (.ifCond .eq 45, 3) := by decide +kernel
theorem dX8_lots_11 : decode cX8_lots 11 = .ok (.iload_n 2, 1) := by decide +kernel
theorem dX8_lots_12 : decode cX8_lots 12 = .ok (.iconst 1, 1) := by decide +kernel
theorem dX8_lots_13 : decode cX8_lots 13 = .ok (.bipush 20, 2) := by decide +kernel
theorem dX8_lots_15 : decode cX8_lots 15 = .ok (.invokestatic 112, 3) := by decide +kernel
theorem dX8_lots_18 : decode cX8_lots 18 = .ok (.ifCond .eq 35, 3) := by decide +kernel
theorem dX8_lots_21 : decode cX8_lots 21 = .ok (.iload_n 3, 1) := by decide +kernel
theorem dX8_lots_22 : decode cX8_lots 22 = .ok (.iconst 1, 1) := by decide +kernel
theorem dX8_lots_23 : decode cX8_lots 23 = .ok (.bipush 60, 2) := by decide +kernel
theorem dX8_lots_25 : decode cX8_lots 25 = .ok (.invokestatic 112, 3) := by decide +kernel
theorem dX8_lots_28 : decode cX8_lots 28 = .ok (.ifCond .eq 25, 3) := by decide +kernel
theorem dX8_lots_31 : decode cX8_lots 31 = .ok (.iload 4, 2) := by decide +kernel
theorem dX8_lots_33 : decode cX8_lots 33 = .ok (.invokestatic 105, 3) := by decide +kernel
theorem dX8_lots_36 : decode cX8_lots 36 = .ok (.ifCond .eq 17, 3) := by decide +kernel
theorem dX8_lots_39 : decode cX8_lots 39 = .ok (.iload 5, 2) := by decide +kernel
theorem dX8_lots_41 : decode cX8_lots 41 = .ok (.iconst 0, 1) := by decide +kernel
theorem dX8_lots_42 : decode cX8_lots 42 = .ok (.iconst 1, 1) := by decide +kernel
theorem dX8_lots_43 : decode cX8_lots 43 = .ok (.invokestatic 112, 3) := by decide +kernel
theorem dX8_lots_46 : decode cX8_lots 46 = .ok (.ifCond .eq 7, 3) := by decide +kernel
theorem dX8_lots_49 : decode cX8_lots 49 = .ok (.iconst 1, 1) := by decide +kernel
theorem dX8_lots_50 : decode cX8_lots 50 = .ok (.goto 4, 3) := by decide +kernel
theorem dX8_lots_53 : decode cX8_lots 53 = .ok (.iconst 0, 1) := by decide +kernel
theorem dX8_lots_54 : decode cX8_lots 54 = .ok (.istore 6, 2) := by decide +kernel
theorem dX8_lots_56 : decode cX8_lots 56 = .ok (.iload 6, 2) := by decide +kernel
theorem dX8_lots_58 : decode cX8_lots 58 = .ok (.ifCond .ne 5, 3) := by decide +kernel
theorem dX8_lots_61 : decode cX8_lots 61 = .ok (.iconst (-1), 1) := by decide +kernel
theorem dX8_lots_62 : decode cX8_lots 62 = .ok (.ireturn, 1) := by decide +kernel
theorem dX8_lots_63 : decode cX8_lots 63 = .ok (.iload_n 1, 1) := by decide +kernel
theorem dX8_lots_64 : decode cX8_lots 64 = .ok (.i2l, 1) := by decide +kernel
theorem dX8_lots_65 : decode cX8_lots 65 = .ok (.lstore 7, 2) := by decide +kernel
theorem dX8_lots_67 : decode cX8_lots 67 = .ok (.iconst 0, 1) := by decide +kernel
theorem dX8_lots_68 : decode cX8_lots 68 = .ok (.istore 9, 2) := by decide +kernel
theorem dX8_lots_70 : decode cX8_lots 70 = .ok (.bipush 40, 2) := by decide +kernel
theorem dX8_lots_72 : decode cX8_lots 72 = .ok (.istore 10, 2) := by decide +kernel
theorem dX8_lots_74 : decode cX8_lots 74 = .ok (.iconst 0, 1) := by decide +kernel
theorem dX8_lots_75 : decode cX8_lots 75 = .ok (.istore 11, 2) := by decide +kernel
theorem dX8_lots_77 : decode cX8_lots 77 = .ok (.iload 11, 2) := by decide +kernel
theorem dX8_lots_79 : decode cX8_lots 79 = .ok (.iload_n 2, 1) := by decide +kernel
theorem dX8_lots_80 : decode cX8_lots 80 = .ok (.if_icmp .ge 122, 3) := by decide +kernel
theorem dX8_lots_83 : decode cX8_lots 83 = .ok (.aload_n 0, 1) := by decide +kernel
theorem dX8_lots_84 : decode cX8_lots 84 = .ok (.getfield 46, 3) := by decide +kernel
theorem dX8_lots_87 : decode cX8_lots 87 = .ok (.aload_n 0, 1) := by decide +kernel
theorem dX8_lots_88 : decode cX8_lots 88 = .ok (.getfield 42, 3) := by decide +kernel
theorem dX8_lots_91 : decode cX8_lots 91 = .ok (.invokevirtual 172, 3) := by decide +kernel
theorem dX8_lots_94 : decode cX8_lots 94 = .ok (.iconst 0, 1) := by decide +kernel
theorem dX8_lots_95 : decode cX8_lots 95 = .ok (.istore 12, 2) := by decide +kernel
theorem dX8_lots_97 : decode cX8_lots 97 = .ok (.iload 12, 2) := by decide +kernel
theorem dX8_lots_99 : decode cX8_lots 99 = .ok (.iload_n 3, 1) := by decide +kernel
theorem dX8_lots_100 : decode cX8_lots 100 = .ok (.if_icmp .ge 96, 3) := by decide +kernel
theorem dX8_lots_103 : decode cX8_lots 103 = .ok (.lload 7, 2) := by decide +kernel
theorem dX8_lots_105 : decode cX8_lots 105 = .ok (.ldc2_w 235, 3) := by decide +kernel
theorem dX8_lots_108 : decode cX8_lots 108 = .ok (.lmul, 1) := by decide +kernel
theorem dX8_lots_109 : decode cX8_lots 109 = .ok (.ldc2_w 237, 3) := by decide +kernel
theorem dX8_lots_112 : decode cX8_lots 112 = .ok (.ladd, 1) := by decide +kernel
theorem dX8_lots_113 : decode cX8_lots 113 = .ok (.ldc2_w 239, 3) := by decide +kernel
theorem dX8_lots_116 : decode cX8_lots 116 = .ok (.lrem, 1) := by decide +kernel
theorem dX8_lots_117 : decode cX8_lots 117 = .ok (.lstore 7, 2) := by decide +kernel
theorem dX8_lots_119 : decode cX8_lots 119 = .ok (.aload_n 0, 1) := by decide +kernel
theorem dX8_lots_120 : decode cX8_lots 120 = .ok (.getfield 28, 3) := by decide +kernel
theorem dX8_lots_123 : decode cX8_lots 123 = .ok (.aload_n 0, 1) := by decide +kernel
theorem dX8_lots_124 : decode cX8_lots 124 = .ok (.getfield 46, 3) := by decide +kernel
theorem dX8_lots_127 : decode cX8_lots 127 = .ok (.aload_n 0, 1) := by decide +kernel
theorem dX8_lots_128 : decode cX8_lots 128 = .ok (.getfield 46, 3) := by decide +kernel
theorem dX8_lots_131 : decode cX8_lots 131 = .ok (.getfield 83, 3) := by decide +kernel
theorem dX8_lots_134 : decode cX8_lots 134 = .ok (.aload_n 0, 1) := by decide +kernel
theorem dX8_lots_135 : decode cX8_lots 135 = .ok (.lload 7, 2) := by decide +kernel
theorem dX8_lots_137 : decode cX8_lots 137 = .ok (.invokevirtual 241, 3) := by decide +kernel
theorem dX8_lots_140 : decode cX8_lots 140 = .ok (.invokevirtual 123, 3) := by decide +kernel
theorem dX8_lots_143 : decode cX8_lots 143 = .ok (.iload 9, 2) := by decide +kernel
theorem dX8_lots_145 : decode cX8_lots 145 = .ok (.aload_n 0, 1) := by decide +kernel
theorem dX8_lots_146 : decode cX8_lots 146 = .ok (.getfield 28, 3) := by decide +kernel
theorem dX8_lots_149 : decode cX8_lots 149 = .ok (.getfield 129, 3) := by decide +kernel
theorem dX8_lots_152 : decode cX8_lots 152 = .ok (.iload 4, 2) := by decide +kernel
theorem dX8_lots_154 : decode cX8_lots 154 = .ok (.if_icmp .lt 7, 3) := by decide +kernel
theorem dX8_lots_157 : decode cX8_lots 157 = .ok (.iconst 1, 1) := by decide +kernel
theorem dX8_lots_158 : decode cX8_lots 158 = .ok (.goto 4, 3) := by decide +kernel
theorem dX8_lots_161 : decode cX8_lots 161 = .ok (.iconst 0, 1) := by decide +kernel
theorem dX8_lots_162 : decode cX8_lots 162 = .ok (.iadd, 1) := by decide +kernel
theorem dX8_lots_163 : decode cX8_lots 163 = .ok (.istore 9, 2) := by decide +kernel
theorem dX8_lots_165 : decode cX8_lots 165 = .ok (.iload 10, 2) := by decide +kernel
theorem dX8_lots_167 : decode cX8_lots 167 = .ok (.aload_n 0, 1) := by decide +kernel
theorem dX8_lots_168 : decode cX8_lots 168 = .ok (.getfield 28, 3) := by decide +kernel
theorem dX8_lots_171 : decode cX8_lots 171 = .ok (.getfield 129, 3) := by decide +kernel
theorem dX8_lots_174 : decode cX8_lots 174 = .ok (.invokestatic 195, 3) := by decide +kernel
theorem dX8_lots_177 : decode cX8_lots 177 = .ok (.istore 10, 2) := by decide +kernel
theorem dX8_lots_179 : decode cX8_lots 179 = .ok (.aload_n 0, 1) := by decide +kernel
theorem dX8_lots_180 : decode cX8_lots 180 = .ok (.getfield 46, 3) := by decide +kernel
theorem dX8_lots_183 : decode cX8_lots 183 = .ok (.aload_n 0, 1) := by decide +kernel
theorem dX8_lots_184 : decode cX8_lots 184 = .ok (.getfield 28, 3) := by decide +kernel
theorem dX8_lots_187 : decode cX8_lots 187 = .ok (.invokevirtual 142, 3) := by decide +kernel
theorem dX8_lots_190 : decode cX8_lots 190 = .ok (.iinc 12 1, 3) := by decide +kernel
theorem dX8_lots_193 : decode cX8_lots 193 = .ok (.goto (-96), 3) := by decide +kernel
theorem dX8_lots_196 : decode cX8_lots 196 = .ok (.iinc 11 1, 3) := by decide +kernel
theorem dX8_lots_199 : decode cX8_lots 199 = .ok (.goto (-122), 3) := by decide +kernel
theorem dX8_lots_202 : decode cX8_lots 202 = .ok (.iload 5, 2) := by decide +kernel
theorem dX8_lots_204 : decode cX8_lots 204 = .ok (.ifCond .ne 8, 3) := by decide +kernel
theorem dX8_lots_207 : decode cX8_lots 207 = .ok (.iload 9, 2) := by decide +kernel
theorem dX8_lots_209 : decode cX8_lots 209 = .ok (.goto 5, 3) := by decide +kernel
theorem dX8_lots_212 : decode cX8_lots 212 = .ok (.iload 10, 2) := by decide +kernel
theorem dX8_lots_214 : decode cX8_lots 214 = .ok (.ireturn, 1) := by decide +kernel
theorem dX8_mark_0 : decode cX8_mark 0 = .ok (.iload_n 1, 1) := by decide +kernel
theorem dX8_mark_1 : decode cX8_mark 1 = .ok (.iconst 0, 1) := by decide +kernel
theorem dX8_mark_2 : decode cX8_mark 2 = .ok (.iconst 3, 1) := by decide +kernel
theorem dX8_mark_3 : decode cX8_mark 3 = .ok (.invokestatic 112, 3) := by decide +kernel
theorem dX8_mark_6 : decode cX8_mark 6 = .ok (.ifCond .ne 5, 3) := by decide +kernel
theorem dX8_mark_9 : decode cX8_mark 9 = .ok (.iconst 0, 1) := by decide +kernel
theorem dX8_mark_10 : decode cX8_mark 10 = .ok (.ireturn, 1) := by decide +kernel
theorem dX8_mark_11 : decode cX8_mark 11 = .ok (.iload_n 2, 1) := by decide +kernel
theorem dX8_mark_12 : decode cX8_mark 12 = .ok (.ifCond .ne 30, 3) := by decide +kernel
theorem dX8_mark_15 : decode cX8_mark 15 = .ok (.aload_n 0, 1) := by decide +kernel
theorem dX8_mark_16 : decode cX8_mark 16 = .ok (.getfield 49, 3) := by decide +kernel
theorem dX8_mark_19 : decode cX8_mark 19 = .ok (.iload_n 1, 1) := by decide +kernel
theorem dX8_mark_20 : decode cX8_mark 20 = .ok (.aaload, 1) := by decide +kernel
theorem dX8_mark_21 : decode cX8_mark 21 = .ok (.aload_n 0, 1) := by decide +kernel
theorem dX8_mark_22 : decode cX8_mark 22 = .ok (.getfield 42, 3) := by decide +kernel
theorem dX8_mark_25 : decode cX8_mark 25 = .ok (.invokevirtual 172, 3) := by decide +kernel
theorem dX8_mark_28 : decode cX8_mark 28 = .ok (.aload_n 0, 1) := by decide +kernel
theorem dX8_mark_29 : decode cX8_mark 29 = .ok (.dup, 1) := by decide +kernel
theorem dX8_mark_30 : decode cX8_mark 30 = .ok (.getfield 244, 3) := by decide +kernel
theorem dX8_mark_33 : decode cX8_mark 33 = .ok (.iconst 1, 1) := by decide +kernel
theorem dX8_mark_34 : decode cX8_mark 34 = .ok (.iload_n 1, 1) := by decide +kernel
theorem dX8_mark_35 : decode cX8_mark 35 = .ok (.ishl, 1) := by decide +kernel
theorem dX8_mark_36 : decode cX8_mark 36 = .ok (.ior, 1) := by decide +kernel
theorem dX8_mark_37 : decode cX8_mark 37 = .ok (.putfield 244, 3) := by decide +kernel
theorem dX8_mark_40 : decode cX8_mark 40 = .ok (.iconst 1, 1) := by decide +kernel
theorem dX8_mark_41 : decode cX8_mark 41 = .ok (.ireturn, 1) := by decide +kernel
theorem dX8_mark_42 : decode cX8_mark 42 = .ok (.aload_n 0, 1) := by decide +kernel
theorem dX8_mark_43 : decode cX8_mark 43 = .ok (.getfield 244, 3) := by decide +kernel
theorem dX8_mark_46 : decode cX8_mark 46 = .ok (.iload_n 1, 1) := by decide +kernel
theorem dX8_mark_47 : decode cX8_mark 47 = .ok (.ishr, 1) := by decide +kernel
theorem dX8_mark_48 : decode cX8_mark 48 = .ok (.iconst 1, 1) := by decide +kernel
theorem dX8_mark_49 : decode cX8_mark 49 = .ok (.iand, 1) := by decide +kernel
theorem dX8_mark_50 : decode cX8_mark 50 = .ok (.ifCond .ne 5, 3) := by decide +kernel
theorem dX8_mark_53 : decode cX8_mark 53 = .ok (.iconst 0, 1) := by decide +kernel
theorem dX8_mark_54 : decode cX8_mark 54 = .ok (.ireturn, 1) := by decide +kernel
theorem dX8_mark_55 : decode cX8_mark 55 = .ok (.aload_n 0, 1) := by decide +kernel
theorem dX8_mark_56 : decode cX8_mark 56 = .ok (.getfield 42, 3) := by decide +kernel
theorem dX8_mark_59 : decode cX8_mark 59 = .ok (.aload_n 0, 1) := by decide +kernel
theorem dX8_mark_60 : decode cX8_mark 60 = .ok (.getfield 49, 3) := by decide +kernel
theorem dX8_mark_63 : decode cX8_mark 63 = .ok (.iload_n 1, 1) := by decide +kernel
theorem dX8_mark_64 : decode cX8_mark 64 = .ok (.aaload, 1) := by decide +kernel
theorem dX8_mark_65 : decode cX8_mark 65 = .ok (.invokevirtual 172, 3) := by decide +kernel
theorem dX8_mark_68 : decode cX8_mark 68 = .ok (.iconst 1, 1) := by decide +kernel
theorem dX8_mark_69 : decode cX8_mark 69 = .ok (.ireturn, 1) := by decide +kernel
theorem dX8_count_0 : decode cX8_count 0 = .ok (.iload_n 1, 1) := by decide +kernel
theorem dX8_count_1 : decode cX8_count 1 = .ok (.tableswitch 138 0 8 #[51, 62, 70, 81, 92, 103, 114, 125, 133], 51) := by decide +kernel
theorem dX8_count_52 : decode cX8_count 52 = .ok (.aload_n 0, 1) := by decide +kernel
theorem dX8_count_53 : decode cX8_count 53 = .ok (.getfield 42, 3) := by decide +kernel
theorem dX8_count_56 : decode cX8_count 56 = .ok (.getfield 72, 3) := by decide +kernel
theorem dX8_count_59 : decode cX8_count 59 = .ok (.getfield 150, 3) := by decide +kernel
theorem dX8_count_62 : decode cX8_count 62 = .ok (.ireturn, 1) := by decide +kernel
theorem dX8_count_63 : decode cX8_count 63 = .ok (.aload_n 0, 1) := by decide +kernel
theorem dX8_count_64 : decode cX8_count 64 = .ok (.getfield 42, 3) := by decide +kernel
theorem dX8_count_67 : decode cX8_count 67 = .ok (.getfield 83, 3) := by decide +kernel
theorem dX8_count_70 : decode cX8_count 70 = .ok (.ireturn, 1) := by decide +kernel
theorem dX8_count_71 : decode cX8_count 71 = .ok (.aload_n 0, 1) := by decide +kernel
theorem dX8_count_72 : decode cX8_count 72 = .ok (.getfield 42, 3) := by decide +kernel
theorem dX8_count_75 : decode cX8_count 75 = .ok (.getfield 72, 3) := by decide +kernel
theorem dX8_count_78 : decode cX8_count 78 = .ok (.getfield 247, 3) := by decide +kernel
theorem dX8_count_81 : decode cX8_count 81 = .ok (.ireturn, 1) := by decide +kernel
theorem dX8_count_82 : decode cX8_count 82 = .ok (.aload_n 0, 1) := by decide +kernel
theorem dX8_count_83 : decode cX8_count 83 = .ok (.getfield 42, 3) := by decide +kernel
theorem dX8_count_86 : decode cX8_count 86 = .ok (.getfield 72, 3) := by decide +kernel
theorem dX8_count_89 : decode cX8_count 89 = .ok (.getfield 250, 3) := by decide +kernel
theorem dX8_count_92 : decode cX8_count 92 = .ok (.ireturn, 1) := by decide +kernel
theorem dX8_count_93 : decode cX8_count 93 = .ok (.aload_n 0, 1) := by decide +kernel
theorem dX8_count_94 : decode cX8_count 94 = .ok (.getfield 42, 3) := by decide +kernel
theorem dX8_count_97 : decode cX8_count 97 = .ok (.getfield 72, 3) := by decide +kernel
theorem dX8_count_100 : decode cX8_count 100 = .ok (.getfield 253, 3) := by decide +kernel
theorem dX8_count_103 : decode cX8_count 103 = .ok (.ireturn, 1) := by decide +kernel
theorem dX8_count_104 : decode cX8_count 104 = .ok (.aload_n 0, 1) := by decide +kernel
theorem dX8_count_105 : decode cX8_count 105 = .ok (.getfield 42, 3) := by decide +kernel
theorem dX8_count_108 : decode cX8_count 108 = .ok (.getfield 72, 3) := by decide +kernel
theorem dX8_count_111 : decode cX8_count 111 = .ok (.getfield 256, 3) := by decide +kernel
theorem dX8_count_114 : decode cX8_count 114 = .ok (.ireturn, 1) := by decide +kernel
theorem dX8_count_115 : decode cX8_count 115 = .ok (.aload_n 0, 1) := by decide +kernel
theorem dX8_count_116 : decode cX8_count 116 = .ok (.getfield 42, 3) := by decide +kernel
theorem dX8_count_119 : decode cX8_count 119 = .ok (.getfield 135, 3) := by decide +kernel
theorem dX8_count_122 : decode cX8_count 122 = .ok (.invokestatic 187, 3) := by decide +kernel
theorem dX8_count_125 : decode cX8_count 125 = .ok (.ireturn, 1) := by decide +kernel
theorem dX8_count_126 : decode cX8_count 126 = .ok (.aload_n 0, 1) := by decide +kernel
theorem dX8_count_127 : decode cX8_count 127 = .ok (.getfield 42, 3) := by decide +kernel
theorem dX8_count_130 : decode cX8_count 130 = .ok (.getfield 214, 3) := by decide +kernel
theorem dX8_count_133 : decode cX8_count 133 = .ok (.ireturn, 1) := by decide +kernel
theorem dX8_count_134 : decode cX8_count 134 = .ok (.aload_n 0, 1) := by decide +kernel
theorem dX8_count_135 : decode cX8_count 135 = .ok (.getfield 57, 3) := by decide +kernel
theorem dX8_count_138 : decode cX8_count 138 = .ok (.ireturn, 1) := by decide +kernel
theorem dX8_count_139 : decode cX8_count 139 = .ok (.iconst (-1), 1) := by decide +kernel
theorem dX8_count_140 : decode cX8_count 140 = .ok (.ireturn, 1) := by decide +kernel
theorem dX8_feedEight_0 : decode cX8_feedEight 0 = .ok (.bipush 56, 2) := by decide +kernel
theorem dX8_feedEight_2 : decode cX8_feedEight 2 = .ok (.istore_n 3, 1) := by decide +kernel
theorem dX8_feedEight_3 : decode cX8_feedEight 3 = .ok (.iload_n 3, 1) := by decide +kernel
theorem dX8_feedEight_4 : decode cX8_feedEight 4 = .ok (.ifCond .lt 70, 3) := by decide +kernel
theorem dX8_feedEight_7 : decode cX8_feedEight 7 = .ok (.lload_n 1, 1) := by decide +kernel
theorem dX8_feedEight_8 : decode cX8_feedEight 8 = .ok (.iload_n 3, 1) := by decide +kernel
theorem dX8_feedEight_9 : decode cX8_feedEight 9 = .ok (.lshr, 1) := by decide +kernel
theorem dX8_feedEight_10 : decode cX8_feedEight 10 = .ok (.ldc2_w 259, 3) := by decide +kernel
theorem dX8_feedEight_13 : decode cX8_feedEight 13 = .ok (.land, 1) := by decide +kernel
theorem dX8_feedEight_14 : decode cX8_feedEight 14 = .ok (.l2i, 1) := by decide +kernel
theorem dX8_feedEight_15 : decode cX8_feedEight 15 = .ok (.istore 4, 2) := by decide +kernel
theorem dX8_feedEight_17 : decode cX8_feedEight 17 = .ok (.iload 4, 2) := by decide +kernel
theorem dX8_feedEight_19 : decode cX8_feedEight 19 = .ok (.bipush 10, 2) := by decide +kernel
theorem dX8_feedEight_21 : decode cX8_feedEight 21 = .ok (.if_icmp .eq 15, 3) := by decide +kernel
theorem dX8_feedEight_24 : decode cX8_feedEight 24 = .ok (.iload 4, 2) := by decide +kernel
theorem dX8_feedEight_26 : decode cX8_feedEight 26 = .ok (.bipush 32, 2) := by decide +kernel
theorem dX8_feedEight_28 : decode cX8_feedEight 28 = .ok (.bipush 126, 2) := by decide +kernel
theorem dX8_feedEight_30 : decode cX8_feedEight 30 = .ok (.invokestatic 112, 3) := by decide +kernel
theorem dX8_feedEight_33 : decode cX8_feedEight 33 = .ok (.ifCond .eq 35, 3) := by decide +kernel
