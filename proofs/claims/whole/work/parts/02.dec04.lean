theorem dX6_readName_13 : decode cX6_readName 13 = .ok (.aload_n 0, 1) := by decide +kernel
theorem dX6_readName_14 : decode cX6_readName 14 = .ok (.iconst 1, 1) := by decide +kernel
theorem dX6_readName_15 : decode cX6_readName 15 = .ok (.invokevirtual 53, 3) := by decide +kernel
theorem dX6_readName_18 : decode cX6_readName 18 = .ok (.aload_n 0, 1) := by decide +kernel
theorem dX6_readName_19 : decode cX6_readName 19 = .ok (.getfield 12, 3) := by decide +kernel
theorem dX6_readName_22 : decode cX6_readName 22 = .ok (.getfield 120, 3) := by decide +kernel
theorem dX6_readName_25 : decode cX6_readName 25 = .ok (.lstore_n 2, 1) := by decide +kernel
theorem dX6_readName_26 : decode cX6_readName 26 = .ok (.iconst 0, 1) := by decide +kernel
theorem dX6_readName_27 : decode cX6_readName 27 = .ok (.istore 4, 2) := by decide +kernel
theorem dX6_readName_29 : decode cX6_readName 29 = .ok (.iload 4, 2) := by decide +kernel
theorem dX6_readName_31 : decode cX6_readName 31 = .ok (.iload_n 1, 1) := by decide +kernel
theorem dX6_readName_32 : decode cX6_readName 32 = .ok (.if_icmp .ge 26, 3) := by decide +kernel
theorem dX6_readName_35 : decode cX6_readName 35 = .ok (.aload_n 0, 1) := by decide +kernel
theorem dX6_readName_36 : decode cX6_readName 36 = .ok (.getfield 18, 3) := by decide +kernel
theorem dX6_readName_39 : decode cX6_readName 39 = .ok (.iload 4, 2) := by decide +kernel
theorem dX6_readName_41 : decode cX6_readName 41 = .ok (.laload, 1) := by decide +kernel
theorem dX6_readName_42 : decode cX6_readName 42 = .ok (.lload_n 2, 1) := by decide +kernel
theorem dX6_readName_43 : decode cX6_readName 43 = .ok (.lcmp, 1) := by decide +kernel
theorem dX6_readName_44 : decode cX6_readName 44 = .ok (.ifCond .ne 8, 3) := by decide +kernel
theorem dX6_readName_47 : decode cX6_readName 47 = .ok (.aload_n 0, 1) := by decide +kernel
theorem dX6_readName_48 : decode cX6_readName 48 = .ok (.iconst 3, 1) := by decide +kernel
theorem dX6_readName_49 : decode cX6_readName 49 = .ok (.invokevirtual 53, 3) := by decide +kernel
theorem dX6_readName_52 : decode cX6_readName 52 = .ok (.iinc 4 1, 3) := by decide +kernel
theorem dX6_readName_55 : decode cX6_readName 55 = .ok (.goto (-26), 3) := by decide +kernel
theorem dX6_readName_58 : decode cX6_readName 58 = .ok (.aload_n 0, 1) := by decide +kernel
theorem dX6_readName_59 : decode cX6_readName 59 = .ok (.getfield 12, 3) := by decide +kernel
theorem dX6_readName_62 : decode cX6_readName 62 = .ok (.invokevirtual 59, 3) := by decide +kernel
theorem dX6_readName_65 : decode cX6_readName 65 = .ok (.lload_n 2, 1) := by decide +kernel
theorem dX6_readName_66 : decode cX6_readName 66 = .ok (.lreturn, 1) := by decide +kernel
theorem dX6_readKind_0 : decode cX6_readKind 0 = .ok (.aload_n 0, 1) := by decide +kernel
theorem dX6_readKind_1 : decode cX6_readKind 1 = .ok (.getfield 12, 3) := by decide +kernel
theorem dX6_readKind_4 : decode cX6_readKind 4 = .ok (.getfield 41, 3) := by decide +kernel
theorem dX6_readKind_7 : decode cX6_readKind 7 = .ok (.bipush 11, 2) := by decide +kernel
theorem dX6_readKind_9 : decode cX6_readKind 9 = .ok (.isub, 1) := by decide +kernel
theorem dX6_readKind_10 : decode cX6_readKind 10 = .ok (.istore_n 1, 1) := by decide +kernel
theorem dX6_readKind_11 : decode cX6_readKind 11 = .ok (.aload_n 0, 1) := by decide +kernel
theorem dX6_readKind_12 : decode cX6_readKind 12 = .ok (.getfield 12, 3) := by decide +kernel
theorem dX6_readKind_15 : decode cX6_readKind 15 = .ok (.getfield 41, 3) := by decide +kernel
theorem dX6_readKind_18 : decode cX6_readKind 18 = .ok (.bipush 11, 2) := by decide +kernel
theorem dX6_readKind_20 : decode cX6_readKind 20 = .ok (.bipush 16, 2) := by decide +kernel
theorem dX6_readKind_22 : decode cX6_readKind 22 = .ok (.invokestatic 124, 3) := by decide +kernel
theorem dX6_readKind_25 : decode cX6_readKind 25 = .ok (.ifCond .ne 8, 3) := by decide +kernel
theorem dX6_readKind_28 : decode cX6_readKind 28 = .ok (.aload_n 0, 1) := by decide +kernel
theorem dX6_readKind_29 : decode cX6_readKind 29 = .ok (.iconst 1, 1) := by decide +kernel
theorem dX6_readKind_30 : decode cX6_readKind 30 = .ok (.invokevirtual 53, 3) := by decide +kernel
theorem dX6_readKind_33 : decode cX6_readKind 33 = .ok (.aload_n 0, 1) := by decide +kernel
theorem dX6_readKind_34 : decode cX6_readKind 34 = .ok (.getfield 12, 3) := by decide +kernel
theorem dX6_readKind_37 : decode cX6_readKind 37 = .ok (.invokevirtual 59, 3) := by decide +kernel
theorem dX6_readKind_40 : decode cX6_readKind 40 = .ok (.iload_n 1, 1) := by decide +kernel
theorem dX6_readKind_41 : decode cX6_readKind 41 = .ok (.ireturn, 1) := by decide +kernel
theorem dX6_readNumber_0 : decode cX6_readNumber 0 = .ok (.aload_n 0, 1) := by decide +kernel
theorem dX6_readNumber_1 : decode cX6_readNumber 1 = .ok (.getfield 12, 3) := by decide +kernel
theorem dX6_readNumber_4 : decode cX6_readNumber 4 = .ok (.getfield 41, 3) := by decide +kernel
theorem dX6_readNumber_7 : decode cX6_readNumber 7 = .ok (.bipush 26, 2) := by decide +kernel
theorem dX6_readNumber_9 : decode cX6_readNumber 9 = .ok (.if_icmp .eq 11, 3) := by decide +kernel
theorem dX6_readNumber_12 : decode cX6_readNumber 12 = .ok (.aload_n 0, 1) := by decide +kernel
theorem dX6_readNumber_13 : decode cX6_readNumber 13 = .ok (.iconst 1, 1) := by decide +kernel
theorem dX6_readNumber_14 : decode cX6_readNumber 14 = .ok (.invokevirtual 53, 3) := by decide +kernel
theorem dX6_readNumber_17 : decode cX6_readNumber 17 = .ok (.goto 23, 3) := by decide +kernel
theorem dX6_readNumber_20 : decode cX6_readNumber 20 = .ok (.aload_n 0, 1) := by decide +kernel
theorem dX6_readNumber_21 : decode cX6_readNumber 21 = .ok (.getfield 12, 3) := by decide +kernel
theorem dX6_readNumber_24 : decode cX6_readNumber 24 = .ok (.getfield 128, 3) := by decide +kernel
theorem dX6_readNumber_27 : decode cX6_readNumber 27 = .ok (.iload_n 1, 1) := by decide +kernel
theorem dX6_readNumber_28 : decode cX6_readNumber 28 = .ok (.iload_n 2, 1) := by decide +kernel
theorem dX6_readNumber_29 : decode cX6_readNumber 29 = .ok (.invokestatic 124, 3) := by decide +kernel
theorem dX6_readNumber_32 : decode cX6_readNumber 32 = .ok (.ifCond .ne 8, 3) := by decide +kernel
theorem dX6_readNumber_35 : decode cX6_readNumber 35 = .ok (.aload_n 0, 1) := by decide +kernel
theorem dX6_readNumber_36 : decode cX6_readNumber 36 = .ok (.iconst 4, 1) := by decide +kernel
theorem dX6_readNumber_37 : decode cX6_readNumber 37 = .ok (.invokevirtual 53, 3) := by decide +kernel
theorem dX6_readNumber_40 : decode cX6_readNumber 40 = .ok (.aload_n 0, 1) := by decide +kernel
theorem dX6_readNumber_41 : decode cX6_readNumber 41 = .ok (.getfield 12, 3) := by decide +kernel
theorem dX6_readNumber_44 : decode cX6_readNumber 44 = .ok (.getfield 128, 3) := by decide +kernel
theorem dX6_readNumber_47 : decode cX6_readNumber 47 = .ok (.istore_n 3, 1) := by decide +kernel
theorem dX6_readNumber_48 : decode cX6_readNumber 48 = .ok (.aload_n 0, 1) := by decide +kernel
theorem dX6_readNumber_49 : decode cX6_readNumber 49 = .ok (.getfield 12, 3) := by decide +kernel
theorem dX6_readNumber_52 : decode cX6_readNumber 52 = .ok (.invokevirtual 59, 3) := by decide +kernel
theorem dX6_readNumber_55 : decode cX6_readNumber 55 = .ok (.iload_n 3, 1) := by decide +kernel
theorem dX6_readNumber_56 : decode cX6_readNumber 56 = .ok (.ireturn, 1) := by decide +kernel
theorem dX6_readLaw_0 : decode cX6_readLaw 0 = .ok (.aload_n 0, 1) := by decide +kernel
theorem dX6_readLaw_1 : decode cX6_readLaw 1 = .ok (.iload_n 1, 1) := by decide +kernel
theorem dX6_readLaw_2 : decode cX6_readLaw 2 = .ok (.putfield 131, 3) := by decide +kernel
theorem dX6_readLaw_5 : decode cX6_readLaw 5 = .ok (.aload_n 0, 1) := by decide +kernel
theorem dX6_readLaw_6 : decode cX6_readLaw 6 = .ok (.iconst 0, 1) := by decide +kernel
theorem dX6_readLaw_7 : decode cX6_readLaw 7 = .ok (.putfield 134, 3) := by decide +kernel
theorem dX6_readLaw_10 : decode cX6_readLaw 10 = .ok (.aload_n 0, 1) := by decide +kernel
theorem dX6_readLaw_11 : decode cX6_readLaw 11 = .ok (.iconst 0, 1) := by decide +kernel
theorem dX6_readLaw_12 : decode cX6_readLaw 12 = .ok (.invokevirtual 137, 3) := by decide +kernel
theorem dX6_readLaw_15 : decode cX6_readLaw 15 = .ok (.aload_n 0, 1) := by decide +kernel
theorem dX6_readLaw_16 : decode cX6_readLaw 16 = .ok (.getfield 22, 3) := by decide +kernel
theorem dX6_readLaw_19 : decode cX6_readLaw 19 = .ok (.aload_n 0, 1) := by decide +kernel
theorem dX6_readLaw_20 : decode cX6_readLaw 20 = .ok (.getfield 134, 3) := by decide +kernel
theorem dX6_readLaw_23 : decode cX6_readLaw 23 = .ok (.invokestatic 140, 3) := by decide +kernel
theorem dX6_readLaw_26 : decode cX6_readLaw 26 = .ok (.areturn, 1) := by decide +kernel
theorem dX6_readTests_0 : decode cX6_readTests 0 = .ok (.aload_n 0, 1) := by decide +kernel
theorem dX6_readTests_1 : decode cX6_readTests 1 = .ok (.iload_n 1, 1) := by decide +kernel
theorem dX6_readTests_2 : decode cX6_readTests 2 = .ok (.invokevirtual 146, 3) := by decide +kernel
theorem dX6_readTests_5 : decode cX6_readTests 5 = .ok (.iconst 0, 1) := by decide +kernel
theorem dX6_readTests_6 : decode cX6_readTests 6 = .ok (.istore_n 2, 1) := by decide +kernel
theorem dX6_readTests_7 : decode cX6_readTests 7 = .ok (.iload_n 2, 1) := by decide +kernel
theorem dX6_readTests_8 : decode cX6_readTests 8 = .ok (.sipush 1000, 3) := by decide +kernel
theorem dX6_readTests_11 : decode cX6_readTests 11 = .ok (.if_icmp .ge 62, 3) := by decide +kernel
theorem dX6_readTests_14 : decode cX6_readTests 14 = .ok (.aload_n 0, 1) := by decide +kernel
theorem dX6_readTests_15 : decode cX6_readTests 15 = .ok (.getfield 12, 3) := by decide +kernel
theorem dX6_readTests_18 : decode cX6_readTests 18 = .ok (.getfield 41, 3) := by decide +kernel
theorem dX6_readTests_21 : decode cX6_readTests 21 = .ok (.bipush 18, 2) := by decide +kernel
theorem dX6_readTests_23 : decode cX6_readTests 23 = .ok (.if_icmp .eq 15, 3) := by decide +kernel
theorem dX6_readTests_26 : decode cX6_readTests 26 = .ok (.aload_n 0, 1) := by decide +kernel
theorem dX6_readTests_27 : decode cX6_readTests 27 = .ok (.getfield 12, 3) := by decide +kernel
theorem dX6_readTests_30 : decode cX6_readTests 30 = .ok (.getfield 41, 3) := by decide +kernel
theorem dX6_readTests_33 : decode cX6_readTests 33 = .ok (.bipush 19, 2) := by decide +kernel
theorem dX6_readTests_35 : decode cX6_readTests 35 = .ok (.if_icmp .ne 38, 3) := by decide +kernel
theorem dX6_readTests_38 : decode cX6_readTests 38 = .ok (.aload_n 0, 1) := by decide +kernel
theorem dX6_readTests_39 : decode cX6_readTests 39 = .ok (.getfield 12, 3) := by decide +kernel
theorem dX6_readTests_42 : decode cX6_readTests 42 = .ok (.getfield 41, 3) := by decide +kernel
theorem dX6_readTests_45 : decode cX6_readTests 45 = .ok (.istore_n 3, 1) := by decide +kernel
theorem dX6_readTests_46 : decode cX6_readTests 46 = .ok (.aload_n 0, 1) := by decide +kernel
theorem dX6_readTests_47 : decode cX6_readTests 47 = .ok (.getfield 12, 3) := by decide +kernel
theorem dX6_readTests_50 : decode cX6_readTests 50 = .ok (.invokevirtual 59, 3) := by decide +kernel
theorem dX6_readTests_53 : decode cX6_readTests 53 = .ok (.aload_n 0, 1) := by decide +kernel
theorem dX6_readTests_54 : decode cX6_readTests 54 = .ok (.iload_n 1, 1) := by decide +kernel
theorem dX6_readTests_55 : decode cX6_readTests 55 = .ok (.invokevirtual 146, 3) := by decide +kernel
theorem dX6_readTests_58 : decode cX6_readTests 58 = .ok (.aload_n 0, 1) := by decide +kernel
theorem dX6_readTests_59 : decode cX6_readTests 59 = .ok (.sipush 10000, 3) := by decide +kernel
theorem dX6_readTests_62 : decode cX6_readTests 62 = .ok (.iload_n 3, 1) := by decide +kernel
theorem dX6_readTests_63 : decode cX6_readTests 63 = .ok (.iadd, 1) := by decide +kernel
theorem dX6_readTests_64 : decode cX6_readTests 64 = .ok (.invokevirtual 151, 3) := by decide +kernel
theorem dX6_readTests_67 : decode cX6_readTests 67 = .ok (.iinc 2 1, 3) := by decide +kernel
theorem dX6_readTests_70 : decode cX6_readTests 70 = .ok (.goto (-63), 3) := by decide +kernel
theorem dX6_readTests_73 : decode cX6_readTests 73 = .ok (.return_, 1) := by decide +kernel
theorem dX6_readTest_0 : decode cX6_readTest 0 = .ok (.aload_n 0, 1) := by decide +kernel
theorem dX6_readTest_1 : decode cX6_readTest 1 = .ok (.iload_n 1, 1) := by decide +kernel
theorem dX6_readTest_2 : decode cX6_readTest 2 = .ok (.invokevirtual 154, 3) := by decide +kernel
theorem dX6_readTest_5 : decode cX6_readTest 5 = .ok (.aload_n 0, 1) := by decide +kernel
theorem dX6_readTest_6 : decode cX6_readTest 6 = .ok (.getfield 12, 3) := by decide +kernel
theorem dX6_readTest_9 : decode cX6_readTest 9 = .ok (.getfield 41, 3) := by decide +kernel
theorem dX6_readTest_12 : decode cX6_readTest 12 = .ok (.bipush 29, 2) := by decide +kernel
theorem dX6_readTest_14 : decode cX6_readTest 14 = .ok (.if_icmp .eq 15, 3) := by decide +kernel
theorem dX6_readTest_17 : decode cX6_readTest 17 = .ok (.aload_n 0, 1) := by decide +kernel
theorem dX6_readTest_18 : decode cX6_readTest 18 = .ok (.getfield 12, 3) := by decide +kernel
theorem dX6_readTest_21 : decode cX6_readTest 21 = .ok (.getfield 41, 3) := by decide +kernel
theorem dX6_readTest_24 : decode cX6_readTest 24 = .ok (.bipush 30, 2) := by decide +kernel
theorem dX6_readTest_26 : decode cX6_readTest 26 = .ok (.if_icmp .ne 32, 3) := by decide +kernel
theorem dX6_readTest_29 : decode cX6_readTest 29 = .ok (.aload_n 0, 1) := by decide +kernel
theorem dX6_readTest_30 : decode cX6_readTest 30 = .ok (.getfield 12, 3) := by decide +kernel
theorem dX6_readTest_33 : decode cX6_readTest 33 = .ok (.getfield 41, 3) := by decide +kernel
theorem dX6_readTest_36 : decode cX6_readTest 36 = .ok (.istore_n 2, 1) := by decide +kernel
theorem dX6_readTest_37 : decode cX6_readTest 37 = .ok (.aload_n 0, 1) := by decide +kernel
theorem dX6_readTest_38 : decode cX6_readTest 38 = .ok (.getfield 12, 3) := by decide +kernel
theorem dX6_readTest_41 : decode cX6_readTest 41 = .ok (.invokevirtual 59, 3) := by decide +kernel
theorem dX6_readTest_44 : decode cX6_readTest 44 = .ok (.aload_n 0, 1) := by decide +kernel
theorem dX6_readTest_45 : decode cX6_readTest 45 = .ok (.iload_n 1, 1) := by decide +kernel
theorem dX6_readTest_46 : decode cX6_readTest 46 = .ok (.invokevirtual 154, 3) := by decide +kernel
theorem dX6_readTest_49 : decode cX6_readTest 49 = .ok (.aload_n 0, 1) := by decide +kernel
theorem dX6_readTest_50 : decode cX6_readTest 50 = .ok (.sipush 10000, 3) := by decide +kernel
theorem dX6_readTest_53 : decode cX6_readTest 53 = .ok (.iload_n 2, 1) := by decide +kernel
theorem dX6_readTest_54 : decode cX6_readTest 54 = .ok (.iadd, 1) := by decide +kernel
theorem dX6_readTest_55 : decode cX6_readTest 55 = .ok (.invokevirtual 151, 3) := by decide +kernel
theorem dX6_readTest_58 : decode cX6_readTest 58 = .ok (.return_, 1) := by decide +kernel
theorem dX6_readSum_0 : decode cX6_readSum 0 = .ok (.aload_n 0, 1) := by decide +kernel
theorem dX6_readSum_1 : decode cX6_readSum 1 = .ok (.iload_n 1, 1) := by decide +kernel
theorem dX6_readSum_2 : decode cX6_readSum 2 = .ok (.invokevirtual 157, 3) := by decide +kernel
theorem dX6_readSum_5 : decode cX6_readSum 5 = .ok (.iconst 0, 1) := by decide +kernel
theorem dX6_readSum_6 : decode cX6_readSum 6 = .ok (.istore_n 2, 1) := by decide +kernel
theorem dX6_readSum_7 : decode cX6_readSum 7 = .ok (.iload_n 2, 1) := by decide +kernel
theorem dX6_readSum_8 : decode cX6_readSum 8 = .ok (.sipush 1000, 3) := by decide +kernel
theorem dX6_readSum_11 : decode cX6_readSum 11 = .ok (.if_icmp .ge 62, 3) := by decide +kernel
theorem dX6_readSum_14 : decode cX6_readSum 14 = .ok (.aload_n 0, 1) := by decide +kernel
theorem dX6_readSum_15 : decode cX6_readSum 15 = .ok (.getfield 12, 3) := by decide +kernel
theorem dX6_readSum_18 : decode cX6_readSum 18 = .ok (.getfield 41, 3) := by decide +kernel
theorem dX6_readSum_21 : decode cX6_readSum 21 = .ok (.bipush 31, 2) := by decide +kernel
theorem dX6_readSum_23 : decode cX6_readSum 23 = .ok (.if_icmp .eq 15, 3) := by decide +kernel
theorem dX6_readSum_26 : decode cX6_readSum 26 = .ok (.aload_n 0, 1) := by decide +kernel
theorem dX6_readSum_27 : decode cX6_readSum 27 = .ok (.getfield 12, 3) := by decide +kernel
theorem dX6_readSum_30 : decode cX6_readSum 30 = .ok (.getfield 41, 3) := by decide +kernel
theorem dX6_readSum_33 : decode cX6_readSum 33 = .ok (.bipush 32, 2) := by decide +kernel
theorem dX6_readSum_35 : decode cX6_readSum 35 = .ok (.if_icmp .ne 38, 3) := by decide +kernel
theorem dX6_readSum_38 : decode cX6_readSum 38 = .ok (.aload_n 0, 1) := by decide +kernel
theorem dX6_readSum_39 : decode cX6_readSum 39 = .ok (.getfield 12, 3) := by decide +kernel
theorem dX6_readSum_42 : decode cX6_readSum 42 = .ok (.getfield 41, 3) := by decide +kernel
theorem dX6_readSum_45 : decode cX6_readSum 45 = .ok (.istore_n 3, 1) := by decide +kernel
theorem dX6_readSum_46 : decode cX6_readSum 46 = .ok (.aload_n 0, 1) := by decide +kernel
theorem dX6_readSum_47 : decode cX6_readSum 47 = .ok (.getfield 12, 3) := by decide +kernel
theorem dX6_readSum_50 : decode cX6_readSum 50 = .ok (.invokevirtual 59, 3) := by decide +kernel
theorem dX6_readSum_53 : decode cX6_readSum 53 = .ok (.aload_n 0, 1) := by decide +kernel
theorem dX6_readSum_54 : decode cX6_readSum 54 = .ok (.iload_n 1, 1) := by decide +kernel
theorem dX6_readSum_55 : decode cX6_readSum 55 = .ok (.invokevirtual 157, 3) := by decide +kernel
theorem dX6_readSum_58 : decode cX6_readSum 58 = .ok (.aload_n 0, 1) := by decide +kernel
theorem dX6_readSum_59 : decode cX6_readSum 59 = .ok (.sipush 10000, 3) := by decide +kernel
theorem dX6_readSum_62 : decode cX6_readSum 62 = .ok (.iload_n 3, 1) := by decide +kernel
theorem dX6_readSum_63 : decode cX6_readSum 63 = .ok (.iadd, 1) := by decide +kernel
theorem dX6_readSum_64 : decode cX6_readSum 64 = .ok (.invokevirtual 151, 3) := by decide +kernel
theorem dX6_readSum_67 : decode cX6_readSum 67 = .ok (.iinc 2 1, 3) := by decide +kernel
theorem dX6_readSum_70 : decode cX6_readSum 70 = .ok (.goto (-63), 3) := by decide +kernel
theorem dX6_readSum_73 : decode cX6_readSum 73 = .ok (.return_, 1) := by decide +kernel
theorem dX6_readProduct_0 : decode cX6_readProduct 0 = .ok (.aload_n 0, 1) := by decide +kernel
theorem dX6_readProduct_1 : decode cX6_readProduct 1 = .ok (.iload_n 1, 1) := by decide +kernel
theorem dX6_readProduct_2 : decode cX6_readProduct 2 = .ok (.invokevirtual 160, 3) := by decide +kernel
theorem dX6_readProduct_5 : decode cX6_readProduct 5 = .ok (.iconst 0, 1) := by decide +kernel
theorem dX6_readProduct_6 : decode cX6_readProduct 6 = .ok (.istore_n 2, 1) := by decide +kernel
theorem dX6_readProduct_7 : decode cX6_readProduct 7 = .ok (.iload_n 2, 1) := by decide +kernel
theorem dX6_readProduct_8 : decode cX6_readProduct 8 = .ok (.sipush 1000, 3) := by decide +kernel
theorem dX6_readProduct_11 : decode cX6_readProduct 11 = .ok (.if_icmp .ge 40, 3) := by decide +kernel
theorem dX6_readProduct_14 : decode cX6_readProduct 14 = .ok (.aload_n 0, 1) := by decide +kernel
theorem dX6_readProduct_15 : decode cX6_readProduct 15 = .ok (.getfield 12, 3) := by decide +kernel
theorem dX6_readProduct_18 : decode cX6_readProduct 18 = .ok (.getfield 41, 3) := by decide +kernel
theorem dX6_readProduct_21 : decode cX6_readProduct 21 = .ok (.bipush 33, 2) := by decide +kernel
theorem dX6_readProduct_23 : decode cX6_readProduct 23 = .ok (.if_icmp .ne 28, 3) := by decide +kernel
theorem dX6_readProduct_26 : decode cX6_readProduct 26 = .ok (.aload_n 0, 1) := by decide +kernel
theorem dX6_readProduct_27 : decode cX6_readProduct 27 = .ok (.getfield 12, 3) := by decide +kernel
theorem dX6_readProduct_30 : decode cX6_readProduct 30 = .ok (.invokevirtual 59, 3) := by decide +kernel
theorem dX6_readProduct_33 : decode cX6_readProduct 33 = .ok (.aload_n 0, 1) := by decide +kernel
theorem dX6_readProduct_34 : decode cX6_readProduct 34 = .ok (.iload_n 1, 1) := by decide +kernel
theorem dX6_readProduct_35 : decode cX6_readProduct 35 = .ok (.invokevirtual 160, 3) := by decide +kernel
theorem dX6_readProduct_38 : decode cX6_readProduct 38 = .ok (.aload_n 0, 1) := by decide +kernel
theorem dX6_readProduct_39 : decode cX6_readProduct 39 = .ok (.sipush 10033, 3) := by decide +kernel
theorem dX6_readProduct_42 : decode cX6_readProduct 42 = .ok (.invokevirtual 151, 3) := by decide +kernel
theorem dX6_readProduct_45 : decode cX6_readProduct 45 = .ok (.iinc 2 1, 3) := by decide +kernel
theorem dX6_readProduct_48 : decode cX6_readProduct 48 = .ok (.goto (-41), 3) := by decide +kernel
theorem dX6_readProduct_51 : decode cX6_readProduct 51 = .ok (.return_, 1) := by decide +kernel
theorem dX6_readPart_0 : decode cX6_readPart 0 = .ok (.aload_n 0, 1) := by decide +kernel
theorem dX6_readPart_1 : decode cX6_readPart 1 = .ok (.getfield 12, 3) := by decide +kernel
theorem dX6_readPart_4 : decode cX6_readPart 4 = .ok (.getfield 41, 3) := by decide +kernel
theorem dX6_readPart_7 : decode cX6_readPart 7 = .ok (.aload_n 0, 1) := by decide +kernel
theorem dX6_readPart_8 : decode cX6_readPart 8 = .ok (.getfield 131, 3) := by decide +kernel
theorem dX6_readPart_11 : decode cX6_readPart 11 = .ok (.invokestatic 163, 3) := by decide +kernel
theorem dX6_readPart_14 : decode cX6_readPart 14 = .ok (.istore_n 2, 1) := by decide +kernel
theorem dX6_readPart_15 : decode cX6_readPart 15 = .ok (.iload_n 2, 1) := by decide +kernel
theorem dX6_readPart_16 : decode cX6_readPart 16 = .ok (.ifCond .ne 47, 3) := by decide +kernel
theorem dX6_readPart_19 : decode cX6_readPart 19 = .ok (.aload_n 0, 1) := by decide +kernel
theorem dX6_readPart_20 : decode cX6_readPart 20 = .ok (.getfield 12, 3) := by decide +kernel
theorem dX6_readPart_23 : decode cX6_readPart 23 = .ok (.getfield 41, 3) := by decide +kernel
theorem dX6_readPart_26 : decode cX6_readPart 26 = .ok (.bipush 26, 2) := by decide +kernel
theorem dX6_readPart_28 : decode cX6_readPart 28 = .ok (.if_icmp .eq 35, 3) := by decide +kernel
theorem dX6_readPart_31 : decode cX6_readPart 31 = .ok (.aload_n 0, 1) := by decide +kernel
theorem dX6_readPart_32 : decode cX6_readPart 32 = .ok (.getfield 12, 3) := by decide +kernel
theorem dX6_readPart_35 : decode cX6_readPart 35 = .ok (.getfield 41, 3) := by decide +kernel
theorem dX6_readPart_38 : decode cX6_readPart 38 = .ok (.bipush 17, 2) := by decide +kernel
theorem dX6_readPart_40 : decode cX6_readPart 40 = .ok (.if_icmp .eq 23, 3) := by decide +kernel
theorem dX6_readPart_43 : decode cX6_readPart 43 = .ok (.aload_n 0, 1) := by decide +kernel
theorem dX6_readPart_44 : decode cX6_readPart 44 = .ok (.getfield 12, 3) := by decide +kernel
theorem dX6_readPart_47 : decode cX6_readPart 47 = .ok (.getfield 41, 3) := by decide +kernel
theorem dX6_readPart_50 : decode cX6_readPart 50 = .ok (.bipush 27, 2) := by decide +kernel
theorem dX6_readPart_52 : decode cX6_readPart 52 = .ok (.if_icmp .eq 11, 3) := by decide +kernel
theorem dX6_readPart_55 : decode cX6_readPart 55 = .ok (.aload_n 0, 1) := by decide +kernel
theorem dX6_readPart_56 : decode cX6_readPart 56 = .ok (.iconst 1, 1) := by decide +kernel
theorem dX6_readPart_57 : decode cX6_readPart 57 = .ok (.invokevirtual 53, 3) := by decide +kernel
theorem dX6_readPart_60 : decode cX6_readPart 60 = .ok (.goto 122, 3) := by decide +kernel
theorem dX6_readPart_63 : decode cX6_readPart 63 = .ok (.iload_n 1, 1) := by decide +kernel
theorem dX6_readPart_64 : decode cX6_readPart 64 = .ok (.iconst 5, 1) := by decide +kernel
theorem dX6_readPart_65 : decode cX6_readPart 65 = .ok (.if_icmp .lt 11, 3) := by decide +kernel
theorem dX6_readPart_68 : decode cX6_readPart 68 = .ok (.aload_n 0, 1) := by decide +kernel
theorem dX6_readPart_69 : decode cX6_readPart 69 = .ok (.iconst 5, 1) := by decide +kernel
theorem dX6_readPart_70 : decode cX6_readPart 70 = .ok (.invokevirtual 53, 3) := by decide +kernel
theorem dX6_readPart_73 : decode cX6_readPart 73 = .ok (.goto 109, 3) := by decide +kernel
theorem dX6_readPart_76 : decode cX6_readPart 76 = .ok (.aload_n 0, 1) := by decide +kernel
theorem dX6_readPart_77 : decode cX6_readPart 77 = .ok (.getfield 12, 3) := by decide +kernel
theorem dX6_readPart_80 : decode cX6_readPart 80 = .ok (.getfield 41, 3) := by decide +kernel
theorem dX6_readPart_83 : decode cX6_readPart 83 = .ok (.bipush 17, 2) := by decide +kernel
theorem dX6_readPart_85 : decode cX6_readPart 85 = .ok (.if_icmp .ne 27, 3) := by decide +kernel
theorem dX6_readPart_88 : decode cX6_readPart 88 = .ok (.aload_n 0, 1) := by decide +kernel
theorem dX6_readPart_89 : decode cX6_readPart 89 = .ok (.getfield 12, 3) := by decide +kernel
theorem dX6_readPart_92 : decode cX6_readPart 92 = .ok (.invokevirtual 59, 3) := by decide +kernel
theorem dX6_readPart_95 : decode cX6_readPart 95 = .ok (.aload_n 0, 1) := by decide +kernel
theorem dX6_readPart_96 : decode cX6_readPart 96 = .ok (.iload_n 1, 1) := by decide +kernel
theorem dX6_readPart_97 : decode cX6_readPart 97 = .ok (.iconst 1, 1) := by decide +kernel
theorem dX6_readPart_98 : decode cX6_readPart 98 = .ok (.iadd, 1) := by decide +kernel
theorem dX6_readPart_99 : decode cX6_readPart 99 = .ok (.invokevirtual 160, 3) := by decide +kernel
theorem dX6_readPart_102 : decode cX6_readPart 102 = .ok (.aload_n 0, 1) := by decide +kernel
theorem dX6_readPart_103 : decode cX6_readPart 103 = .ok (.sipush 10017, 3) := by decide +kernel
theorem dX6_readPart_106 : decode cX6_readPart 106 = .ok (.invokevirtual 151, 3) := by decide +kernel
theorem dX6_readPart_109 : decode cX6_readPart 109 = .ok (.goto 73, 3) := by decide +kernel
theorem dX6_readPart_112 : decode cX6_readPart 112 = .ok (.aload_n 0, 1) := by decide +kernel
theorem dX6_readPart_113 : decode cX6_readPart 113 = .ok (.getfield 12, 3) := by decide +kernel
theorem dX6_readPart_116 : decode cX6_readPart 116 = .ok (.getfield 41, 3) := by decide +kernel
theorem dX6_readPart_119 : decode cX6_readPart 119 = .ok (.bipush 27, 2) := by decide +kernel
theorem dX6_readPart_121 : decode cX6_readPart 121 = .ok (.if_icmp .ne 26, 3) := by decide +kernel
theorem dX6_readPart_124 : decode cX6_readPart 124 = .ok (.aload_n 0, 1) := by decide +kernel
theorem dX6_readPart_125 : decode cX6_readPart 125 = .ok (.getfield 12, 3) := by decide +kernel
theorem dX6_readPart_128 : decode cX6_readPart 128 = .ok (.invokevirtual 59, 3) := by decide +kernel
theorem dX6_readPart_131 : decode cX6_readPart 131 = .ok (.aload_n 0, 1) := by decide +kernel
theorem dX6_readPart_132 : decode cX6_readPart 132 = .ok (.iload_n 1, 1) := by decide +kernel
theorem dX6_readPart_133 : decode cX6_readPart 133 = .ok (.iconst 1, 1) := by decide +kernel
theorem dX6_readPart_134 : decode cX6_readPart 134 = .ok (.iadd, 1) := by decide +kernel
theorem dX6_readPart_135 : decode cX6_readPart 135 = .ok (.invokevirtual 137, 3) := by decide +kernel
theorem dX6_readPart_138 : decode cX6_readPart 138 = .ok (.aload_n 0, 1) := by decide +kernel
theorem dX6_readPart_139 : decode cX6_readPart 139 = .ok (.bipush 28, 2) := by decide +kernel
theorem dX6_readPart_141 : decode cX6_readPart 141 = .ok (.invokevirtual 56, 3) := by decide +kernel
theorem dX6_readPart_144 : decode cX6_readPart 144 = .ok (.goto 38, 3) := by decide +kernel
theorem dX6_readPart_147 : decode cX6_readPart 147 = .ok (.aload_n 0, 1) := by decide +kernel
theorem dX6_readPart_148 : decode cX6_readPart 148 = .ok (.iload_n 2, 1) := by decide +kernel
theorem dX6_readPart_149 : decode cX6_readPart 149 = .ok (.ifCond .eq 16, 3) := by decide +kernel
theorem dX6_readPart_152 : decode cX6_readPart 152 = .ok (.aload_n 0, 1) := by decide +kernel
theorem dX6_readPart_153 : decode cX6_readPart 153 = .ok (.getfield 12, 3) := by decide +kernel
theorem dX6_readPart_156 : decode cX6_readPart 156 = .ok (.getfield 41, 3) := by decide +kernel
theorem dX6_readPart_159 : decode cX6_readPart 159 = .ok (.invokestatic 167, 3) := by decide +kernel
theorem dX6_readPart_162 : decode cX6_readPart 162 = .ok (.goto 10, 3) := by decide +kernel
theorem dX6_readPart_165 : decode cX6_readPart 165 = .ok (.aload_n 0, 1) := by decide +kernel
theorem dX6_readPart_166 : decode cX6_readPart 166 = .ok (.getfield 12, 3) := by decide +kernel
theorem dX6_readPart_169 : decode cX6_readPart 169 = .ok (.getfield 128, 3) := by decide +kernel
theorem dX6_readPart_172 : decode cX6_readPart 172 = .ok (.invokevirtual 151, 3) := by decide +kernel
theorem dX6_readPart_175 : decode cX6_readPart 175 = .ok (.aload_n 0, 1) := by decide +kernel
theorem dX6_readPart_176 : decode cX6_readPart 176 = .ok (.getfield 12, 3) := by decide +kernel
theorem dX6_readPart_179 : decode cX6_readPart 179 = .ok (.invokevirtual 59, 3) := by decide +kernel
theorem dX6_readPart_182 : decode cX6_readPart 182 = .ok (.return_, 1) := by decide +kernel
theorem dX6_put_0 : decode cX6_put 0 = .ok (.aload_n 0, 1) := by decide +kernel
theorem dX6_put_1 : decode cX6_put 1 = .ok (.getfield 134, 3) := by decide +kernel
theorem dX6_put_4 : decode cX6_put 4 = .ok (.aload_n 0, 1) := by decide +kernel
theorem dX6_put_5 : decode cX6_put 5 = .ok (.getfield 22, 3) := by decide +kernel
theorem dX6_put_8 : decode cX6_put 8 = .ok (.arraylength, 1) := by decide +kernel
theorem dX6_put_9 : decode cX6_put 9 = .ok (.if_icmp .ge 23, 3) := by decide +kernel
theorem dX6_put_12 : decode cX6_put 12 = .ok (.aload_n 0, 1) := by decide +kernel
theorem dX6_put_13 : decode cX6_put 13 = .ok (.getfield 22, 3) := by decide +kernel
theorem dX6_put_16 : decode cX6_put 16 = .ok (.aload_n 0, 1) := by decide +kernel
theorem dX6_put_17 : decode cX6_put 17 = .ok (.getfield 134, 3) := by decide +kernel
theorem dX6_put_20 : decode cX6_put 20 = .ok (.iload_n 1, 1) := by decide +kernel
theorem dX6_put_21 : decode cX6_put 21 = .ok (.iastore, 1) := by decide +kernel
theorem dX6_put_22 : decode cX6_put 22 = .ok (.aload_n 0, 1) := by decide +kernel
theorem dX6_put_23 : decode cX6_put 23 = .ok (.dup, 1) := by decide +kernel
theorem dX6_put_24 : decode cX6_put 24 = .ok (.getfield 134, 3) := by decide +kernel
theorem dX6_put_27 : decode cX6_put 27 = .ok (.iconst 1, 1) := by decide +kernel
theorem dX6_put_28 : decode cX6_put 28 = .ok (.iadd, 1) := by decide +kernel
theorem dX6_put_29 : decode cX6_put 29 = .ok (.putfield 134, 3) := by decide +kernel
theorem dX6_put_32 : decode cX6_put 32 = .ok (.return_, 1) := by decide +kernel
theorem dX6_expect_0 : decode cX6_expect 0 = .ok (.aload_n 0, 1) := by decide +kernel
theorem dX6_expect_1 : decode cX6_expect 1 = .ok (.getfield 12, 3) := by decide +kernel
theorem dX6_expect_4 : decode cX6_expect 4 = .ok (.getfield 41, 3) := by decide +kernel
theorem dX6_expect_7 : decode cX6_expect 7 = .ok (.iload_n 1, 1) := by decide +kernel
theorem dX6_expect_8 : decode cX6_expect 8 = .ok (.if_icmp .eq 8, 3) := by decide +kernel
theorem dX6_expect_11 : decode cX6_expect 11 = .ok (.aload_n 0, 1) := by decide +kernel
theorem dX6_expect_12 : decode cX6_expect 12 = .ok (.iconst 1, 1) := by decide +kernel
theorem dX6_expect_13 : decode cX6_expect 13 = .ok (.invokevirtual 53, 3) := by decide +kernel
theorem dX6_expect_16 : decode cX6_expect 16 = .ok (.aload_n 0, 1) := by decide +kernel
theorem dX6_expect_17 : decode cX6_expect 17 = .ok (.getfield 12, 3) := by decide +kernel
theorem dX6_expect_20 : decode cX6_expect 20 = .ok (.invokevirtual 59, 3) := by decide +kernel
theorem dX6_expect_23 : decode cX6_expect 23 = .ok (.return_, 1) := by decide +kernel
theorem dX6_fail_0 : decode cX6_fail 0 = .ok (.aload_n 0, 1) := by decide +kernel
theorem dX6_fail_1 : decode cX6_fail 1 = .ok (.getfield 30, 3) := by decide +kernel
theorem dX6_fail_4 : decode cX6_fail 4 = .ok (.ifCond .ne 19, 3) := by decide +kernel
theorem dX6_fail_7 : decode cX6_fail 7 = .ok (.aload_n 0, 1) := by decide +kernel
theorem dX6_fail_8 : decode cX6_fail 8 = .ok (.iload_n 1, 1) := by decide +kernel
theorem dX6_fail_9 : decode cX6_fail 9 = .ok (.bipush 16, 2) := by decide +kernel
theorem dX6_fail_11 : decode cX6_fail 11 = .ok (.aload_n 0, 1) := by decide +kernel
theorem dX6_fail_12 : decode cX6_fail 12 = .ok (.getfield 12, 3) := by decide +kernel
theorem dX6_fail_15 : decode cX6_fail 15 = .ok (.getfield 171, 3) := by decide +kernel
theorem dX6_fail_18 : decode cX6_fail 18 = .ok (.imul, 1) := by decide +kernel
theorem dX6_fail_19 : decode cX6_fail 19 = .ok (.iadd, 1) := by decide +kernel
theorem dX6_fail_20 : decode cX6_fail 20 = .ok (.putfield 30, 3) := by decide +kernel
theorem dX6_fail_23 : decode cX6_fail 23 = .ok (.aload_n 0, 1) := by decide +kernel
theorem dX6_fail_24 : decode cX6_fail 24 = .ok (.getfield 12, 3) := by decide +kernel
theorem dX6_fail_27 : decode cX6_fail 27 = .ok (.invokevirtual 174, 3) := by decide +kernel
theorem dX6_fail_30 : decode cX6_fail 30 = .ok (.return_, 1) := by decide +kernel
theorem dX7_ofSign_0 : decode cX7_ofSign 0 = .ok (.iload_n 0, 1) := by decide +kernel
theorem dX7_ofSign_1 : decode cX7_ofSign 1 = .ok (.tableswitch 127 40 61 #[103, 106, 121, 115, 127, 118, 127, 127, 127, 127, 127, 127, 127, 127, 127, 127, 127, 127, 127, 124, 109, 112], 103) := by decide +kernel
theorem dX7_ofSign_104 : decode cX7_ofSign 104 = .ok (.bipush 27, 2) := by decide +kernel
theorem dX7_ofSign_106 : decode cX7_ofSign 106 = .ok (.ireturn, 1) := by decide +kernel
theorem dX7_ofSign_107 : decode cX7_ofSign 107 = .ok (.bipush 28, 2) := by decide +kernel
theorem dX7_ofSign_109 : decode cX7_ofSign 109 = .ok (.ireturn, 1) := by decide +kernel
theorem dX7_ofSign_110 : decode cX7_ofSign 110 = .ok (.bipush 29, 2) := by decide +kernel
theorem dX7_ofSign_112 : decode cX7_ofSign 112 = .ok (.ireturn, 1) := by decide +kernel
theorem dX7_ofSign_113 : decode cX7_ofSign 113 = .ok (.bipush 30, 2) := by decide +kernel
theorem dX7_ofSign_115 : decode cX7_ofSign 115 = .ok (.ireturn, 1) := by decide +kernel
theorem dX7_ofSign_116 : decode cX7_ofSign 116 = .ok (.bipush 31, 2) := by decide +kernel
theorem dX7_ofSign_118 : decode cX7_ofSign 118 = .ok (.ireturn, 1) := by decide +kernel
theorem dX7_ofSign_119 : decode cX7_ofSign 119 = .ok (.bipush 32, 2) := by decide +kernel
theorem dX7_ofSign_121 : decode cX7_ofSign 121 = .ok (.ireturn, 1) := by decide +kernel
theorem dX7_ofSign_122 : decode cX7_ofSign 122 = .ok (.bipush 33, 2) := by decide +kernel
theorem dX7_ofSign_124 : decode cX7_ofSign 124 = .ok (.ireturn, 1) := by decide +kernel
theorem dX7_ofSign_125 : decode cX7_ofSign 125 = .ok (.bipush 34, 2) := by decide +kernel
theorem dX7_ofSign_127 : decode cX7_ofSign 127 = .ok (.ireturn, 1) := by decide +kernel
theorem dX7_ofSign_128 : decode cX7_ofSign 128 = .ok (.bipush 36, 2) := by decide +kernel
theorem dX7_ofSign_130 : decode cX7_ofSign 130 = .ok (.ireturn, 1) := by decide +kernel
theorem dX7_isName_0 : decode cX7_isName 0 = .ok (.iload_n 0, 1) := by decide +kernel
theorem dX7_isName_1 : decode cX7_isName 1 = .ok (.bipush 19, 2) := by decide +kernel
theorem dX7_isName_3 : decode cX7_isName 3 = .ok (.if_icmp .le 13, 3) := by decide +kernel
theorem dX7_isName_6 : decode cX7_isName 6 = .ok (.iload_n 0, 1) := by decide +kernel
theorem dX7_isName_7 : decode cX7_isName 7 = .ok (.bipush 25, 2) := by decide +kernel
theorem dX7_isName_9 : decode cX7_isName 9 = .ok (.if_icmp .gt 7, 3) := by decide +kernel
theorem dX7_isName_12 : decode cX7_isName 12 = .ok (.iconst 1, 1) := by decide +kernel
theorem dX7_isName_13 : decode cX7_isName 13 = .ok (.goto 4, 3) := by decide +kernel
theorem dX7_isName_16 : decode cX7_isName 16 = .ok (.iconst 0, 1) := by decide +kernel
theorem dX7_isName_17 : decode cX7_isName 17 = .ok (.ireturn, 1) := by decide +kernel
theorem dX7_isFact_0 : decode cX7_isFact 0 = .ok (.iload_n 0, 1) := by decide +kernel
theorem dX7_isFact_1 : decode cX7_isFact 1 = .ok (.bipush 20, 2) := by decide +kernel
theorem dX7_isFact_3 : decode cX7_isFact 3 = .ok (.if_icmp .eq 9, 3) := by decide +kernel
theorem dX7_isFact_6 : decode cX7_isFact 6 = .ok (.iload_n 0, 1) := by decide +kernel
theorem dX7_isFact_7 : decode cX7_isFact 7 = .ok (.bipush 21, 2) := by decide +kernel
theorem dX7_isFact_9 : decode cX7_isFact 9 = .ok (.if_icmp .ne 5, 3) := by decide +kernel
theorem dX7_isFact_12 : decode cX7_isFact 12 = .ok (.iconst 1, 1) := by decide +kernel
theorem dX7_isFact_13 : decode cX7_isFact 13 = .ok (.ireturn, 1) := by decide +kernel
theorem dX7_isFact_14 : decode cX7_isFact 14 = .ok (.iload_n 1, 1) := by decide +kernel
theorem dX7_isFact_15 : decode cX7_isFact 15 = .ok (.ifCond .ne 15, 3) := by decide +kernel
theorem dX7_isFact_18 : decode cX7_isFact 18 = .ok (.iload_n 0, 1) := by decide +kernel
theorem dX7_isFact_19 : decode cX7_isFact 19 = .ok (.bipush 22, 2) := by decide +kernel
theorem dX7_isFact_21 : decode cX7_isFact 21 = .ok (.if_icmp .ne 7, 3) := by decide +kernel
theorem dX7_isFact_24 : decode cX7_isFact 24 = .ok (.iconst 1, 1) := by decide +kernel
theorem dX7_isFact_25 : decode cX7_isFact 25 = .ok (.goto 4, 3) := by decide +kernel
theorem dX7_isFact_28 : decode cX7_isFact 28 = .ok (.iconst 0, 1) := by decide +kernel
theorem dX7_isFact_29 : decode cX7_isFact 29 = .ok (.ireturn, 1) := by decide +kernel
theorem dX7_isFact_30 : decode cX7_isFact 30 = .ok (.iload_n 0, 1) := by decide +kernel
theorem dX7_isFact_31 : decode cX7_isFact 31 = .ok (.bipush 10, 2) := by decide +kernel
theorem dX7_isFact_33 : decode cX7_isFact 33 = .ok (.if_icmp .eq 19, 3) := by decide +kernel
theorem dX7_isFact_36 : decode cX7_isFact 36 = .ok (.iload_n 0, 1) := by decide +kernel
theorem dX7_isFact_37 : decode cX7_isFact 37 = .ok (.bipush 23, 2) := by decide +kernel
theorem dX7_isFact_39 : decode cX7_isFact 39 = .ok (.if_icmp .eq 13, 3) := by decide +kernel
theorem dX7_isFact_42 : decode cX7_isFact 42 = .ok (.iload_n 0, 1) := by decide +kernel
theorem dX7_isFact_43 : decode cX7_isFact 43 = .ok (.bipush 24, 2) := by decide +kernel
theorem dX7_isFact_45 : decode cX7_isFact 45 = .ok (.if_icmp .eq 7, 3) := by decide +kernel
theorem dX7_isFact_48 : decode cX7_isFact 48 = .ok (.iload_n 0, 1) := by decide +kernel
theorem dX7_isFact_49 : decode cX7_isFact 49 = .ok (.ifCond .ne 7, 3) := by decide +kernel
theorem dX7_isFact_52 : decode cX7_isFact 52 = .ok (.iconst 1, 1) := by decide +kernel
theorem dX7_isFact_53 : decode cX7_isFact 53 = .ok (.goto 4, 3) := by decide +kernel
theorem dX7_isFact_56 : decode cX7_isFact 56 = .ok (.iconst 0, 1) := by decide +kernel
theorem dX7_isFact_57 : decode cX7_isFact 57 = .ok (.ireturn, 1) := by decide +kernel
theorem dX8_init_0 : decode cX8_init 0 = .ok (.aload_n 0, 1) := by decide +kernel
theorem dX8_init_1 : decode cX8_init 1 = .ok (.invokespecial 3, 3) := by decide +kernel
theorem dX8_init_4 : decode cX8_init 4 = .ok (.new 9, 3) := by decide +kernel
theorem dX8_init_7 : decode cX8_init 7 = .ok (.dup, 1) := by decide +kernel
theorem dX8_init_8 : decode cX8_init 8 = .ok (.invokespecial 11, 3) := by decide +kernel
theorem dX8_init_11 : decode cX8_init 11 = .ok (.astore_n 1, 1) := by decide +kernel
theorem dX8_init_12 : decode cX8_init 12 = .ok (.aload_n 0, 1) := by decide +kernel
theorem dX8_init_13 : decode cX8_init 13 = .ok (.sipush 1000, 3) := by decide +kernel
theorem dX8_init_16 : decode cX8_init 16 = .ok (.newarray .byte, 2) := by decide +kernel
theorem dX8_init_18 : decode cX8_init 18 = .ok (.putfield 12, 3) := by decide +kernel
theorem dX8_init_21 : decode cX8_init 21 = .ok (.aload_n 0, 1) := by decide +kernel
theorem dX8_init_22 : decode cX8_init 22 = .ok (.new 16, 3) := by decide +kernel
theorem dX8_init_25 : decode cX8_init 25 = .ok (.dup, 1) := by decide +kernel
theorem dX8_init_26 : decode cX8_init 26 = .ok (.aload_n 1, 1) := by decide +kernel
theorem dX8_init_27 : decode cX8_init 27 = .ok (.invokespecial 18, 3) := by decide +kernel
theorem dX8_init_30 : decode cX8_init 30 = .ok (.putfield 21, 3) := by decide +kernel
theorem dX8_init_33 : decode cX8_init 33 = .ok (.aload_n 0, 1) := by decide +kernel
theorem dX8_init_34 : decode cX8_init 34 = .ok (.new 25, 3) := by decide +kernel
theorem dX8_init_37 : decode cX8_init 37 = .ok (.dup, 1) := by decide +kernel
theorem dX8_init_38 : decode cX8_init 38 = .ok (.aload_n 1, 1) := by decide +kernel
theorem dX8_init_39 : decode cX8_init 39 = .ok (.invokespecial 27, 3) := by decide +kernel
theorem dX8_init_42 : decode cX8_init 42 = .ok (.putfield 28, 3) := by decide +kernel
theorem dX8_init_45 : decode cX8_init 45 = .ok (.aload_n 0, 1) := by decide +kernel
theorem dX8_init_46 : decode cX8_init 46 = .ok (.new 32, 3) := by decide +kernel
theorem dX8_init_49 : decode cX8_init 49 = .ok (.dup, 1) := by decide +kernel
theorem dX8_init_50 : decode cX8_init 50 = .ok (.invokespecial 34, 3) := by decide +kernel
theorem dX8_init_53 : decode cX8_init 53 = .ok (.putfield 35, 3) := by decide +kernel
theorem dX8_init_56 : decode cX8_init 56 = .ok (.aload_n 0, 1) := by decide +kernel
theorem dX8_init_57 : decode cX8_init 57 = .ok (.new 39, 3) := by decide +kernel
theorem dX8_init_60 : decode cX8_init 60 = .ok (.dup, 1) := by decide +kernel
theorem dX8_init_61 : decode cX8_init 61 = .ok (.aload_n 1, 1) := by decide +kernel
theorem dX8_init_62 : decode cX8_init 62 = .ok (.invokespecial 41, 3) := by decide +kernel
theorem dX8_init_65 : decode cX8_init 65 = .ok (.putfield 42, 3) := by decide +kernel
theorem dX8_init_68 : decode cX8_init 68 = .ok (.aload_n 0, 1) := by decide +kernel
theorem dX8_init_69 : decode cX8_init 69 = .ok (.new 39, 3) := by decide +kernel
theorem dX8_init_72 : decode cX8_init 72 = .ok (.dup, 1) := by decide +kernel
theorem dX8_init_73 : decode cX8_init 73 = .ok (.aload_n 1, 1) := by decide +kernel
theorem dX8_init_74 : decode cX8_init 74 = .ok (.invokespecial 41, 3) := by decide +kernel
theorem dX8_init_77 : decode cX8_init 77 = .ok (.putfield 46, 3) := by decide +kernel
theorem dX8_init_80 : decode cX8_init 80 = .ok (.aload_n 0, 1) := by decide +kernel
theorem dX8_init_81 : decode cX8_init 81 = .ok (.iconst 4, 1) := by decide +kernel
theorem dX8_init_82 : decode cX8_init 82 = .ok (.anewarray 39, 3) := by decide +kernel
theorem dX8_init_85 : decode cX8_init 85 = .ok (.putfield 49, 3) := by decide +kernel
theorem dX8_init_88 : decode cX8_init 88 = .ok (.iconst 0, 1) := by decide +kernel
theorem dX8_init_89 : decode cX8_init 89 = .ok (.istore_n 2, 1) := by decide +kernel
theorem dX8_init_90 : decode cX8_init 90 = .ok (.iload_n 2, 1) := by decide +kernel
theorem dX8_init_91 : decode cX8_init 91 = .ok (.iconst 4, 1) := by decide +kernel
theorem dX8_init_92 : decode cX8_init 92 = .ok (.if_icmp .ge 23, 3) := by decide +kernel
theorem dX8_init_95 : decode cX8_init 95 = .ok (.aload_n 0, 1) := by decide +kernel
theorem dX8_init_96 : decode cX8_init 96 = .ok (.getfield 49, 3) := by decide +kernel
theorem dX8_init_99 : decode cX8_init 99 = .ok (.iload_n 2, 1) := by decide +kernel
theorem dX8_init_100 : decode cX8_init 100 = .ok (.new 39, 3) := by decide +kernel
theorem dX8_init_103 : decode cX8_init 103 = .ok (.dup, 1) := by decide +kernel
theorem dX8_init_104 : decode cX8_init 104 = .ok (.aload_n 1, 1) := by decide +kernel
theorem dX8_init_105 : decode cX8_init 105 = .ok (.invokespecial 41, 3) := by decide +kernel
theorem dX8_init_108 : decode cX8_init 108 = .ok (.aastore, 1) := by decide +kernel
theorem dX8_init_109 : decode cX8_init 109 = .ok (.iinc 2 1, 3) := by decide +kernel
theorem dX8_init_112 : decode cX8_init 112 = .ok (.goto (-22), 3) := by decide +kernel
theorem dX8_init_115 : decode cX8_init 115 = .ok (.return_, 1) := by decide +kernel
theorem dX8_feed_0 : decode cX8_feed 0 = .ok (.aload_n 0, 1) := by decide +kernel
theorem dX8_feed_1 : decode cX8_feed 1 = .ok (.lload_n 1, 1) := by decide +kernel
theorem dX8_feed_2 : decode cX8_feed 2 = .ok (.invokevirtual 53, 3) := by decide +kernel
theorem dX8_feed_5 : decode cX8_feed 5 = .ok (.aload_n 0, 1) := by decide +kernel
theorem dX8_feed_6 : decode cX8_feed 6 = .ok (.lload_n 3, 1) := by decide +kernel
theorem dX8_feed_7 : decode cX8_feed 7 = .ok (.invokevirtual 53, 3) := by decide +kernel
theorem dX8_feed_10 : decode cX8_feed 10 = .ok (.aload_n 0, 1) := by decide +kernel
theorem dX8_feed_11 : decode cX8_feed 11 = .ok (.lload 5, 2) := by decide +kernel
theorem dX8_feed_13 : decode cX8_feed 13 = .ok (.invokevirtual 53, 3) := by decide +kernel
theorem dX8_feed_16 : decode cX8_feed 16 = .ok (.aload_n 0, 1) := by decide +kernel
theorem dX8_feed_17 : decode cX8_feed 17 = .ok (.getfield 57, 3) := by decide +kernel
theorem dX8_feed_20 : decode cX8_feed 20 = .ok (.ireturn, 1) := by decide +kernel
theorem dX8_sky_0 : decode cX8_sky 0 = .ok (.new 9, 3) := by decide +kernel
theorem dX8_sky_3 : decode cX8_sky 3 = .ok (.dup, 1) := by decide +kernel
theorem dX8_sky_4 : decode cX8_sky 4 = .ok (.invokespecial 11, 3) := by decide +kernel
theorem dX8_sky_7 : decode cX8_sky 7 = .ok (.astore_n 1, 1) := by decide +kernel
theorem dX8_sky_8 : decode cX8_sky 8 = .ok (.aload_n 0, 1) := by decide +kernel
theorem dX8_sky_9 : decode cX8_sky 9 = .ok (.getfield 21, 3) := by decide +kernel
theorem dX8_sky_12 : decode cX8_sky 12 = .ok (.aload_n 0, 1) := by decide +kernel
theorem dX8_sky_13 : decode cX8_sky 13 = .ok (.getfield 12, 3) := by decide +kernel
theorem dX8_sky_16 : decode cX8_sky 16 = .ok (.aload_n 0, 1) := by decide +kernel
theorem dX8_sky_17 : decode cX8_sky 17 = .ok (.getfield 57, 3) := by decide +kernel
theorem dX8_sky_20 : decode cX8_sky 20 = .ok (.aload_n 1, 1) := by decide +kernel
theorem dX8_sky_21 : decode cX8_sky 21 = .ok (.invokevirtual 61, 3) := by decide +kernel
theorem dX8_sky_24 : decode cX8_sky 24 = .ok (.istore_n 2, 1) := by decide +kernel
theorem dX8_sky_25 : decode cX8_sky 25 = .ok (.aload_n 0, 1) := by decide +kernel
theorem dX8_sky_26 : decode cX8_sky 26 = .ok (.iconst 0, 1) := by decide +kernel
theorem dX8_sky_27 : decode cX8_sky 27 = .ok (.putfield 57, 3) := by decide +kernel
theorem dX8_sky_30 : decode cX8_sky 30 = .ok (.iload_n 2, 1) := by decide +kernel
theorem dX8_sky_31 : decode cX8_sky 31 = .ok (.ifCond .ne 11, 3) := by decide +kernel
theorem dX8_sky_34 : decode cX8_sky 34 = .ok (.aload_n 0, 1) := by decide +kernel
theorem dX8_sky_35 : decode cX8_sky 35 = .ok (.getfield 42, 3) := by decide +kernel
theorem dX8_sky_38 : decode cX8_sky 38 = .ok (.aload_n 1, 1) := by decide +kernel
theorem dX8_sky_39 : decode cX8_sky 39 = .ok (.invokevirtual 65, 3) := by decide +kernel
theorem dX8_sky_42 : decode cX8_sky 42 = .ok (.iload_n 2, 1) := by decide +kernel
theorem dX8_sky_43 : decode cX8_sky 43 = .ok (.ireturn, 1) := by decide +kernel
theorem dX8_kite_0 : decode cX8_kite 0 = .ok (.aload_n 0, 1) := by decide +kernel
theorem dX8_kite_1 : decode cX8_kite 1 = .ok (.iload_n 1, 1) := by decide +kernel
theorem dX8_kite_2 : decode cX8_kite 2 = .ok (.invokevirtual 68, 3) := by decide +kernel
theorem dX8_kite_5 : decode cX8_kite 5 = .ok (.ifCond .ne 5, 3) := by decide +kernel
theorem dX8_kite_8 : decode cX8_kite 8 = .ok (.iconst (-1), 1) := by decide +kernel
theorem dX8_kite_9 : decode cX8_kite 9 = .ok (.ireturn, 1) := by decide +kernel
theorem dX8_kite_10 : decode cX8_kite 10 = .ok (.iload_n 2, 1) := by decide +kernel
theorem dX8_kite_11 : decode cX8_kite 11 = .ok (.tableswitch 170 0 5 #[37, 50, 60, 104, 150, 160], 37) := by decide +kernel
theorem dX8_kite_48 : decode cX8_kite 48 = .ok (.aload_n 0, 1) := by decide +kernel
theorem dX8_kite_49 : decode cX8_kite 49 = .ok (.getfield 42, 3) := by decide +kernel
theorem dX8_kite_52 : decode cX8_kite 52 = .ok (.getfield 72, 3) := by decide +kernel
theorem dX8_kite_55 : decode cX8_kite 55 = .ok (.getfield 76, 3) := by decide +kernel
theorem dX8_kite_58 : decode cX8_kite 58 = .ok (.iload_n 1, 1) := by decide +kernel
theorem dX8_kite_59 : decode cX8_kite 59 = .ok (.iaload, 1) := by decide +kernel
theorem dX8_kite_60 : decode cX8_kite 60 = .ok (.ireturn, 1) := by decide +kernel
theorem dX8_kite_61 : decode cX8_kite 61 = .ok (.aload_n 0, 1) := by decide +kernel
theorem dX8_kite_62 : decode cX8_kite 62 = .ok (.getfield 42, 3) := by decide +kernel
theorem dX8_kite_65 : decode cX8_kite 65 = .ok (.getfield 80, 3) := by decide +kernel
theorem dX8_kite_68 : decode cX8_kite 68 = .ok (.iload_n 1, 1) := by decide +kernel
theorem dX8_kite_69 : decode cX8_kite 69 = .ok (.iaload, 1) := by decide +kernel
theorem dX8_kite_70 : decode cX8_kite 70 = .ok (.ireturn, 1) := by decide +kernel
theorem dX8_kite_71 : decode cX8_kite 71 = .ok (.aload_n 0, 1) := by decide +kernel
theorem dX8_kite_72 : decode cX8_kite 72 = .ok (.getfield 28, 3) := by decide +kernel
theorem dX8_kite_75 : decode cX8_kite 75 = .ok (.aload_n 0, 1) := by decide +kernel
theorem dX8_kite_76 : decode cX8_kite 76 = .ok (.getfield 42, 3) := by decide +kernel
theorem dX8_kite_79 : decode cX8_kite 79 = .ok (.aload_n 0, 1) := by decide +kernel
theorem dX8_kite_80 : decode cX8_kite 80 = .ok (.getfield 42, 3) := by decide +kernel
theorem dX8_kite_83 : decode cX8_kite 83 = .ok (.getfield 83, 3) := by decide +kernel
theorem dX8_kite_86 : decode cX8_kite 86 = .ok (.iconst 0, 1) := by decide +kernel
theorem dX8_kite_87 : decode cX8_kite 87 = .ok (.invokevirtual 86, 3) := by decide +kernel
theorem dX8_kite_90 : decode cX8_kite 90 = .ok (.aload_n 0, 1) := by decide +kernel
theorem dX8_kite_91 : decode cX8_kite 91 = .ok (.getfield 42, 3) := by decide +kernel
theorem dX8_kite_94 : decode cX8_kite 94 = .ok (.iload_n 1, 1) := by decide +kernel
theorem dX8_kite_95 : decode cX8_kite 95 = .ok (.invokevirtual 90, 3) := by decide +kernel
theorem dX8_kite_98 : decode cX8_kite 98 = .ok (.ifCond .eq 7, 3) := by decide +kernel
theorem dX8_kite_101 : decode cX8_kite 101 = .ok (.iconst 0, 1) := by decide +kernel
theorem dX8_kite_102 : decode cX8_kite 102 = .ok (.goto 12, 3) := by decide +kernel
theorem dX8_kite_105 : decode cX8_kite 105 = .ok (.aload_n 0, 1) := by decide +kernel
theorem dX8_kite_106 : decode cX8_kite 106 = .ok (.getfield 28, 3) := by decide +kernel
theorem dX8_kite_109 : decode cX8_kite 109 = .ok (.getfield 93, 3) := by decide +kernel
theorem dX8_kite_112 : decode cX8_kite 112 = .ok (.iload_n 1, 1) := by decide +kernel
theorem dX8_kite_113 : decode cX8_kite 113 = .ok (.iaload, 1) := by decide +kernel
theorem dX8_kite_114 : decode cX8_kite 114 = .ok (.ireturn, 1) := by decide +kernel
theorem dX8_kite_115 : decode cX8_kite 115 = .ok (.aload_n 0, 1) := by decide +kernel
theorem dX8_kite_116 : decode cX8_kite 116 = .ok (.getfield 28, 3) := by decide +kernel
theorem dX8_kite_119 : decode cX8_kite 119 = .ok (.aload_n 0, 1) := by decide +kernel
theorem dX8_kite_120 : decode cX8_kite 120 = .ok (.getfield 42, 3) := by decide +kernel
theorem dX8_kite_123 : decode cX8_kite 123 = .ok (.aload_n 0, 1) := by decide +kernel
theorem dX8_kite_124 : decode cX8_kite 124 = .ok (.getfield 42, 3) := by decide +kernel
theorem dX8_kite_127 : decode cX8_kite 127 = .ok (.getfield 83, 3) := by decide +kernel
theorem dX8_kite_130 : decode cX8_kite 130 = .ok (.iconst 0, 1) := by decide +kernel
theorem dX8_kite_131 : decode cX8_kite 131 = .ok (.invokevirtual 86, 3) := by decide +kernel
theorem dX8_kite_134 : decode cX8_kite 134 = .ok (.aload_n 0, 1) := by decide +kernel
theorem dX8_kite_135 : decode cX8_kite 135 = .ok (.getfield 42, 3) := by decide +kernel
theorem dX8_kite_138 : decode cX8_kite 138 = .ok (.iload_n 1, 1) := by decide +kernel
theorem dX8_kite_139 : decode cX8_kite 139 = .ok (.invokevirtual 90, 3) := by decide +kernel
theorem dX8_kite_142 : decode cX8_kite 142 = .ok (.ifCond .eq 7, 3) := by decide +kernel
theorem dX8_kite_145 : decode cX8_kite 145 = .ok (.iconst 2, 1) := by decide +kernel
theorem dX8_kite_146 : decode cX8_kite 146 = .ok (.goto 14, 3) := by decide +kernel
theorem dX8_kite_149 : decode cX8_kite 149 = .ok (.aload_n 0, 1) := by decide +kernel
theorem dX8_kite_150 : decode cX8_kite 150 = .ok (.getfield 28, 3) := by decide +kernel
theorem dX8_kite_153 : decode cX8_kite 153 = .ok (.getfield 96, 3) := by decide +kernel
theorem dX8_kite_156 : decode cX8_kite 156 = .ok (.iload_n 1, 1) := by decide +kernel
theorem dX8_kite_157 : decode cX8_kite 157 = .ok (.ishr, 1) := by decide +kernel
theorem dX8_kite_158 : decode cX8_kite 158 = .ok (.iconst 1, 1) := by decide +kernel
theorem dX8_kite_159 : decode cX8_kite 159 = .ok (.iand, 1) := by decide +kernel
theorem dX8_kite_160 : decode cX8_kite 160 = .ok (.ireturn, 1) := by decide +kernel
theorem dX8_kite_161 : decode cX8_kite 161 = .ok (.aload_n 0, 1) := by decide +kernel
theorem dX8_kite_162 : decode cX8_kite 162 = .ok (.getfield 42, 3) := by decide +kernel
theorem dX8_kite_165 : decode cX8_kite 165 = .ok (.getfield 99, 3) := by decide +kernel
theorem dX8_kite_168 : decode cX8_kite 168 = .ok (.iload_n 1, 1) := by decide +kernel
theorem dX8_kite_169 : decode cX8_kite 169 = .ok (.iaload, 1) := by decide +kernel
theorem dX8_kite_170 : decode cX8_kite 170 = .ok (.ireturn, 1) := by decide +kernel
theorem dX8_kite_171 : decode cX8_kite 171 = .ok (.aload_n 0, 1) := by decide +kernel
theorem dX8_kite_172 : decode cX8_kite 172 = .ok (.getfield 42, 3) := by decide +kernel
theorem dX8_kite_175 : decode cX8_kite 175 = .ok (.getfield 102, 3) := by decide +kernel
theorem dX8_kite_178 : decode cX8_kite 178 = .ok (.iload_n 1, 1) := by decide +kernel
theorem dX8_kite_179 : decode cX8_kite 179 = .ok (.iaload, 1) := by decide +kernel
theorem dX8_kite_180 : decode cX8_kite 180 = .ok (.ireturn, 1) := by decide +kernel
theorem dX8_kite_181 : decode cX8_kite 181 = .ok (.iconst (-1), 1) := by decide +kernel
theorem dX8_kite_182 : decode cX8_kite 182 = .ok (.ireturn, 1) := by decide +kernel
theorem dX8_wind_0 : decode cX8_wind 0 = .ok (.iload_n 1, 1) := by decide +kernel
theorem dX8_wind_1 : decode cX8_wind 1 = .ok (.invokestatic 105, 3) := by decide +kernel
theorem dX8_wind_4 : decode cX8_wind 4 = .ok (.ifCond .ne 5, 3) := by decide +kernel
theorem dX8_wind_7 : decode cX8_wind 7 = .ok (.iconst (-1), 1) := by decide +kernel
theorem dX8_wind_8 : decode cX8_wind 8 = .ok (.ireturn, 1) := by decide +kernel
theorem dX8_wind_9 : decode cX8_wind 9 = .ok (.aload_n 0, 1) := by decide +kernel
theorem dX8_wind_10 : decode cX8_wind 10 = .ok (.getfield 28, 3) := by decide +kernel
theorem dX8_wind_13 : decode cX8_wind 13 = .ok (.aload_n 0, 1) := by decide +kernel
theorem dX8_wind_14 : decode cX8_wind 14 = .ok (.getfield 42, 3) := by decide +kernel
theorem dX8_wind_17 : decode cX8_wind 17 = .ok (.getfield 72, 3) := by decide +kernel
theorem dX8_wind_20 : decode cX8_wind 20 = .ok (.iload_n 1, 1) := by decide +kernel
theorem dX8_wind_21 : decode cX8_wind 21 = .ok (.aload_n 0, 1) := by decide +kernel
theorem dX8_wind_22 : decode cX8_wind 22 = .ok (.getfield 42, 3) := by decide +kernel
theorem dX8_wind_25 : decode cX8_wind 25 = .ok (.getfield 83, 3) := by decide +kernel
theorem dX8_wind_28 : decode cX8_wind 28 = .ok (.iconst 0, 1) := by decide +kernel
theorem dX8_wind_29 : decode cX8_wind 29 = .ok (.invokevirtual 108, 3) := by decide +kernel
theorem dX8_wind_32 : decode cX8_wind 32 = .ok (.ireturn, 1) := by decide +kernel
theorem dX8_lamp_0 : decode cX8_lamp 0 = .ok (.iload_n 1, 1) := by decide +kernel
theorem dX8_lamp_1 : decode cX8_lamp 1 = .ok (.iconst 0, 1) := by decide +kernel
theorem dX8_lamp_2 : decode cX8_lamp 2 = .ok (.sipush 9999, 3) := by decide +kernel
theorem dX8_lamp_5 : decode cX8_lamp 5 = .ok (.invokestatic 112, 3) := by decide +kernel
theorem dX8_lamp_8 : decode cX8_lamp 8 = .ok (.ifCond .eq 12, 3) := by decide +kernel
theorem dX8_lamp_11 : decode cX8_lamp 11 = .ok (.iload_n 2, 1) := by decide +kernel
theorem dX8_lamp_12 : decode cX8_lamp 12 = .ok (.iconst 0, 1) := by decide +kernel
theorem dX8_lamp_13 : decode cX8_lamp 13 = .ok (.iconst 2, 1) := by decide +kernel
theorem dX8_lamp_14 : decode cX8_lamp 14 = .ok (.invokestatic 112, 3) := by decide +kernel
theorem dX8_lamp_17 : decode cX8_lamp 17 = .ok (.ifCond .ne 13, 3) := by decide +kernel
theorem dX8_lamp_20 : decode cX8_lamp 20 = .ok (.new 116, 3) := by decide +kernel
theorem dX8_lamp_23 : decode cX8_lamp 23 = .ok (.dup, 1) := by decide +kernel
theorem dX8_lamp_24 : decode cX8_lamp 24 = .ok (.ldc 118, 2) := by decide +kernel
theorem dX8_lamp_26 : decode cX8_lamp 26 = .ok (.invokespecial 120, 3) := by decide +kernel
theorem dX8_lamp_29 : decode cX8_lamp 29 = .ok (.athrow, 1) := by decide +kernel
theorem dX8_lamp_30 : decode cX8_lamp 30 = .ok (.aload_n 0, 1) := by decide +kernel
theorem dX8_lamp_31 : decode cX8_lamp 31 = .ok (.getfield 28, 3) := by decide +kernel
theorem dX8_lamp_34 : decode cX8_lamp 34 = .ok (.aload_n 0, 1) := by decide +kernel
theorem dX8_lamp_35 : decode cX8_lamp 35 = .ok (.getfield 42, 3) := by decide +kernel
theorem dX8_lamp_38 : decode cX8_lamp 38 = .ok (.iload_n 1, 1) := by decide +kernel
theorem dX8_lamp_39 : decode cX8_lamp 39 = .ok (.iconst 0, 1) := by decide +kernel
theorem dX8_lamp_40 : decode cX8_lamp 40 = .ok (.invokevirtual 123, 3) := by decide +kernel
theorem dX8_lamp_43 : decode cX8_lamp 43 = .ok (.iload_n 2, 1) := by decide +kernel
theorem dX8_lamp_44 : decode cX8_lamp 44 = .ok (.ifCond .ne 13, 3) := by decide +kernel
theorem dX8_lamp_47 : decode cX8_lamp 47 = .ok (.aload_n 0, 1) := by decide +kernel
theorem dX8_lamp_48 : decode cX8_lamp 48 = .ok (.getfield 28, 3) := by decide +kernel
theorem dX8_lamp_51 : decode cX8_lamp 51 = .ok (.getfield 126, 3) := by decide +kernel
theorem dX8_lamp_54 : decode cX8_lamp 54 = .ok (.goto 25, 3) := by decide +kernel
theorem dX8_lamp_57 : decode cX8_lamp 57 = .ok (.iload_n 2, 1) := by decide +kernel
theorem dX8_lamp_58 : decode cX8_lamp 58 = .ok (.iconst 1, 1) := by decide +kernel
theorem dX8_lamp_59 : decode cX8_lamp 59 = .ok (.if_icmp .ne 13, 3) := by decide +kernel
theorem dX8_lamp_62 : decode cX8_lamp 62 = .ok (.aload_n 0, 1) := by decide +kernel
theorem dX8_lamp_63 : decode cX8_lamp 63 = .ok (.getfield 28, 3) := by decide +kernel
theorem dX8_lamp_66 : decode cX8_lamp 66 = .ok (.getfield 129, 3) := by decide +kernel
theorem dX8_lamp_69 : decode cX8_lamp 69 = .ok (.goto 10, 3) := by decide +kernel
theorem dX8_lamp_72 : decode cX8_lamp 72 = .ok (.aload_n 0, 1) := by decide +kernel
theorem dX8_lamp_73 : decode cX8_lamp 73 = .ok (.getfield 28, 3) := by decide +kernel
theorem dX8_lamp_76 : decode cX8_lamp 76 = .ok (.getfield 132, 3) := by decide +kernel
theorem dX8_lamp_79 : decode cX8_lamp 79 = .ok (.ireturn, 1) := by decide +kernel
theorem dX8_whistle_0 : decode cX8_whistle 0 = .ok (.aload_n 0, 1) := by decide +kernel
theorem dX8_whistle_1 : decode cX8_whistle 1 = .ok (.iload_n 1, 1) := by decide +kernel
theorem dX8_whistle_2 : decode cX8_whistle 2 = .ok (.invokevirtual 68, 3) := by decide +kernel
theorem dX8_whistle_5 : decode cX8_whistle 5 = .ok (.ifCond .eq 37, 3) := by decide +kernel
theorem dX8_whistle_8 : decode cX8_whistle 8 = .ok (.iload_n 2, 1) := by decide +kernel
theorem dX8_whistle_9 : decode cX8_whistle 9 = .ok (.invokestatic 105, 3) := by decide +kernel
theorem dX8_whistle_12 : decode cX8_whistle 12 = .ok (.ifCond .eq 30, 3) := by decide +kernel
theorem dX8_whistle_15 : decode cX8_whistle 15 = .ok (.aload_n 0, 1) := by decide +kernel
theorem dX8_whistle_16 : decode cX8_whistle 16 = .ok (.getfield 42, 3) := by decide +kernel
theorem dX8_whistle_19 : decode cX8_whistle 19 = .ok (.iload_n 1, 1) := by decide +kernel
theorem dX8_whistle_20 : decode cX8_whistle 20 = .ok (.invokevirtual 90, 3) := by decide +kernel
theorem dX8_whistle_23 : decode cX8_whistle 23 = .ok (.ifCond .ne 19, 3) := by decide +kernel
theorem dX8_whistle_26 : decode cX8_whistle 26 = .ok (.aload_n 0, 1) := by decide +kernel
theorem dX8_whistle_27 : decode cX8_whistle 27 = .ok (.getfield 42, 3) := by decide +kernel
theorem dX8_whistle_30 : decode cX8_whistle 30 = .ok (.getfield 72, 3) := by decide +kernel
theorem dX8_whistle_33 : decode cX8_whistle 33 = .ok (.getfield 76, 3) := by decide +kernel
theorem dX8_whistle_36 : decode cX8_whistle 36 = .ok (.iload_n 1, 1) := by decide +kernel
theorem dX8_whistle_37 : decode cX8_whistle 37 = .ok (.iaload, 1) := by decide +kernel
theorem dX8_whistle_38 : decode cX8_whistle 38 = .ok (.iconst 4, 1) := by decide +kernel
theorem dX8_whistle_39 : decode cX8_whistle 39 = .ok (.if_icmp .ne 5, 3) := by decide +kernel
theorem dX8_whistle_42 : decode cX8_whistle 42 = .ok (.iconst 0, 1) := by decide +kernel
theorem dX8_whistle_43 : decode cX8_whistle 43 = .ok (.ireturn, 1) := by decide +kernel
theorem dX8_whistle_44 : decode cX8_whistle 44 = .ok (.aload_n 0, 1) := by decide +kernel
theorem dX8_whistle_45 : decode cX8_whistle 45 = .ok (.getfield 42, 3) := by decide +kernel
theorem dX8_whistle_48 : decode cX8_whistle 48 = .ok (.getfield 99, 3) := by decide +kernel
theorem dX8_whistle_51 : decode cX8_whistle 51 = .ok (.iload_n 1, 1) := by decide +kernel
theorem dX8_whistle_52 : decode cX8_whistle 52 = .ok (.aload_n 0, 1) := by decide +kernel
theorem dX8_whistle_53 : decode cX8_whistle 53 = .ok (.getfield 42, 3) := by decide +kernel
theorem dX8_whistle_56 : decode cX8_whistle 56 = .ok (.getfield 80, 3) := by decide +kernel
theorem dX8_whistle_59 : decode cX8_whistle 59 = .ok (.iload_n 1, 1) := by decide +kernel
theorem dX8_whistle_60 : decode cX8_whistle 60 = .ok (.iaload, 1) := by decide +kernel
theorem dX8_whistle_61 : decode cX8_whistle 61 = .ok (.iload_n 2, 1) := by decide +kernel
theorem dX8_whistle_62 : decode cX8_whistle 62 = .ok (.if_icmp .ne 7, 3) := by decide +kernel
theorem dX8_whistle_65 : decode cX8_whistle 65 = .ok (.iconst (-1), 1) := by decide +kernel
theorem dX8_whistle_66 : decode cX8_whistle 66 = .ok (.goto 4, 3) := by decide +kernel
theorem dX8_whistle_69 : decode cX8_whistle 69 = .ok (.iload_n 2, 1) := by decide +kernel
theorem dX8_whistle_70 : decode cX8_whistle 70 = .ok (.iastore, 1) := by decide +kernel
theorem dX8_whistle_71 : decode cX8_whistle 71 = .ok (.iconst 1, 1) := by decide +kernel
theorem dX8_whistle_72 : decode cX8_whistle 72 = .ok (.ireturn, 1) := by decide +kernel
theorem dX8_lose_0 : decode cX8_lose 0 = .ok (.aload_n 0, 1) := by decide +kernel
theorem dX8_lose_1 : decode cX8_lose 1 = .ok (.iload_n 1, 1) := by decide +kernel
theorem dX8_lose_2 : decode cX8_lose 2 = .ok (.invokevirtual 68, 3) := by decide +kernel
theorem dX8_lose_5 : decode cX8_lose 5 = .ok (.ifCond .eq 15, 3) := by decide +kernel
theorem dX8_lose_8 : decode cX8_lose 8 = .ok (.aload_n 0, 1) := by decide +kernel
theorem dX8_lose_9 : decode cX8_lose 9 = .ok (.getfield 42, 3) := by decide +kernel
theorem dX8_lose_12 : decode cX8_lose 12 = .ok (.iload_n 1, 1) := by decide +kernel
theorem dX8_lose_13 : decode cX8_lose 13 = .ok (.invokevirtual 90, 3) := by decide +kernel
theorem dX8_lose_16 : decode cX8_lose 16 = .ok (.iload_n 2, 1) := by decide +kernel
theorem dX8_lose_17 : decode cX8_lose 17 = .ok (.if_icmp .eq 5, 3) := by decide +kernel
theorem dX8_lose_20 : decode cX8_lose 20 = .ok (.iconst 0, 1) := by decide +kernel
theorem dX8_lose_21 : decode cX8_lose 21 = .ok (.ireturn, 1) := by decide +kernel
theorem dX8_lose_22 : decode cX8_lose 22 = .ok (.aload_n 0, 1) := by decide +kernel
theorem dX8_lose_23 : decode cX8_lose 23 = .ok (.getfield 42, 3) := by decide +kernel
theorem dX8_lose_26 : decode cX8_lose 26 = .ok (.dup, 1) := by decide +kernel
theorem dX8_lose_27 : decode cX8_lose 27 = .ok (.getfield 135, 3) := by decide +kernel
