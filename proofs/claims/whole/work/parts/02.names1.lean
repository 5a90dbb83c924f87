theorem dX0_init_0 : decode cX0_init 0 = .ok (.aload_n 0, 1) := by decide +kernel
theorem dX0_init_1 : decode cX0_init 1 = .ok (.invokespecial 1, 3) := by decide +kernel
theorem dX0_init_4 : decode cX0_init 4 = .ok (.aload_n 0, 1) := by decide +kernel
theorem dX0_init_5 : decode cX0_init 5 = .ok (.new 7, 3) := by decide +kernel
theorem dX0_init_8 : decode cX0_init 8 = .ok (.dup, 1) := by decide +kernel
theorem dX0_init_9 : decode cX0_init 9 = .ok (.invokespecial 9, 3) := by decide +kernel
theorem dX0_init_12 : decode cX0_init 12 = .ok (.putfield 10, 3) := by decide +kernel
theorem dX0_init_15 : decode cX0_init 15 = .ok (.aload_n 0, 1) := by decide +kernel
theorem dX0_init_16 : decode cX0_init 16 = .ok (.iconst 0, 1) := by decide +kernel
theorem dX0_init_17 : decode cX0_init 17 = .ok (.putfield 16, 3) := by decide +kernel
theorem dX0_init_20 : decode cX0_init 20 = .ok (.aload_n 0, 1) := by decide +kernel
theorem dX0_init_21 : decode cX0_init 21 = .ok (.iconst 1, 1) := by decide +kernel
theorem dX0_init_22 : decode cX0_init 22 = .ok (.putfield 20, 3) := by decide +kernel
theorem dX0_init_25 : decode cX0_init 25 = .ok (.return_, 1) := by decide +kernel
theorem dX0_find_0 : decode cX0_find 0 = .ok (.aload_n 1, 1) := by decide +kernel
theorem dX0_find_1 : decode cX0_find 1 = .ok (.iload_n 2, 1) := by decide +kernel
theorem dX0_find_2 : decode cX0_find 2 = .ok (.invokevirtual 23, 3) := by decide +kernel
theorem dX0_find_5 : decode cX0_find 5 = .ok (.istore 4, 2) := by decide +kernel
theorem dX0_find_7 : decode cX0_find 7 = .ok (.iconst 0, 1) := by decide +kernel
theorem dX0_find_8 : decode cX0_find 8 = .ok (.istore 5, 2) := by decide +kernel
theorem dX0_find_10 : decode cX0_find 10 = .ok (.iconst 0, 1) := by decide +kernel
theorem dX0_find_11 : decode cX0_find 11 = .ok (.istore 6, 2) := by decide +kernel
theorem dX0_find_13 : decode cX0_find 13 = .ok (.iconst 0, 1) := by decide +kernel
theorem dX0_find_14 : decode cX0_find 14 = .ok (.istore 7, 2) := by decide +kernel
theorem dX0_find_16 : decode cX0_find 16 = .ok (.iload 7, 2) := by decide +kernel
theorem dX0_find_18 : decode cX0_find 18 = .ok (.iconst 1, 1) := by decide +kernel
theorem dX0_find_19 : decode cX0_find 19 = .ok (.aload_n 1, 1) := by decide +kernel
theorem dX0_find_20 : decode cX0_find 20 = .ok (.getfield 29, 3) := by decide +kernel
theorem dX0_find_23 : decode cX0_find 23 = .ok (.ishl, 1) := by decide +kernel
theorem dX0_find_24 : decode cX0_find 24 = .ok (.if_icmp .ge 45, 3) := by decide +kernel
theorem dX0_find_27 : decode cX0_find 27 = .ok (.aload_n 0, 1) := by decide +kernel
theorem dX0_find_28 : decode cX0_find 28 = .ok (.aload_n 1, 1) := by decide +kernel
theorem dX0_find_29 : decode cX0_find 29 = .ok (.iload 7, 2) := by decide +kernel
theorem dX0_find_31 : decode cX0_find 31 = .ok (.iload_n 3, 1) := by decide +kernel
theorem dX0_find_32 : decode cX0_find 32 = .ok (.invokevirtual 32, 3) := by decide +kernel
theorem dX0_find_35 : decode cX0_find 35 = .ok (.istore 8, 2) := by decide +kernel
theorem dX0_find_37 : decode cX0_find 37 = .ok (.iload 6, 2) := by decide +kernel
theorem dX0_find_39 : decode cX0_find 39 = .ok (.iload 8, 2) := by decide +kernel
theorem dX0_find_41 : decode cX0_find 41 = .ok (.iadd, 1) := by decide +kernel
theorem dX0_find_42 : decode cX0_find 42 = .ok (.istore 6, 2) := by decide +kernel
theorem dX0_find_44 : decode cX0_find 44 = .ok (.aload_n 0, 1) := by decide +kernel
theorem dX0_find_45 : decode cX0_find 45 = .ok (.getfield 10, 3) := by decide +kernel
theorem dX0_find_48 : decode cX0_find 48 = .ok (.getfield 36, 3) := by decide +kernel
theorem dX0_find_51 : decode cX0_find 51 = .ok (.iload 4, 2) := by decide +kernel
theorem dX0_find_53 : decode cX0_find 53 = .ok (.if_icmp .lt 10, 3) := by decide +kernel
theorem dX0_find_56 : decode cX0_find 56 = .ok (.iload 5, 2) := by decide +kernel
theorem dX0_find_58 : decode cX0_find 58 = .ok (.iload 8, 2) := by decide +kernel
theorem dX0_find_60 : decode cX0_find 60 = .ok (.iadd, 1) := by decide +kernel
theorem dX0_find_61 : decode cX0_find 61 = .ok (.istore 5, 2) := by decide +kernel
theorem dX0_find_63 : decode cX0_find 63 = .ok (.iinc 7 1, 3) := by decide +kernel
theorem dX0_find_66 : decode cX0_find 66 = .ok (.goto (-50), 3) := by decide +kernel
theorem dX0_find_69 : decode cX0_find 69 = .ok (.iconst 1, 1) := by decide +kernel
theorem dX0_find_70 : decode cX0_find 70 = .ok (.iload 5, 2) := by decide +kernel
theorem dX0_find_72 : decode cX0_find 72 = .ok (.iload 6, 2) := by decide +kernel
theorem dX0_find_74 : decode cX0_find 74 = .ok (.invokestatic 39, 3) := by decide +kernel
theorem dX0_find_77 : decode cX0_find 77 = .ok (.invokestatic 43, 3) := by decide +kernel
theorem dX0_find_80 : decode cX0_find 80 = .ok (.istore 7, 2) := by decide +kernel
theorem dX0_find_82 : decode cX0_find 82 = .ok (.aload_n 0, 1) := by decide +kernel
theorem dX0_find_83 : decode cX0_find 83 = .ok (.iload 5, 2) := by decide +kernel
theorem dX0_find_85 : decode cX0_find 85 = .ok (.iload 7, 2) := by decide +kernel
theorem dX0_find_87 : decode cX0_find 87 = .ok (.idiv, 1) := by decide +kernel
theorem dX0_find_88 : decode cX0_find 88 = .ok (.putfield 16, 3) := by decide +kernel
theorem dX0_find_91 : decode cX0_find 91 = .ok (.aload_n 0, 1) := by decide +kernel
theorem dX0_find_92 : decode cX0_find 92 = .ok (.iload 6, 2) := by decide +kernel
theorem dX0_find_94 : decode cX0_find 94 = .ok (.iload 7, 2) := by decide +kernel
theorem dX0_find_96 : decode cX0_find 96 = .ok (.idiv, 1) := by decide +kernel
theorem dX0_find_97 : decode cX0_find 97 = .ok (.putfield 20, 3) := by decide +kernel
theorem dX0_find_100 : decode cX0_find 100 = .ok (.return_, 1) := by decide +kernel
theorem dX0_weightOf_0 : decode cX0_weightOf 0 = .ok (.iconst 1, 1) := by decide +kernel
theorem dX0_weightOf_1 : decode cX0_weightOf 1 = .ok (.istore 4, 2) := by decide +kernel
theorem dX0_weightOf_3 : decode cX0_weightOf 3 = .ok (.aload_n 0, 1) := by decide +kernel
theorem dX0_weightOf_4 : decode cX0_weightOf 4 = .ok (.getfield 10, 3) := by decide +kernel
theorem dX0_weightOf_7 : decode cX0_weightOf 7 = .ok (.aload_n 1, 1) := by decide +kernel
theorem dX0_weightOf_8 : decode cX0_weightOf 8 = .ok (.getfield 48, 3) := by decide +kernel
theorem dX0_weightOf_11 : decode cX0_weightOf 11 = .ok (.invokevirtual 49, 3) := by decide +kernel
theorem dX0_weightOf_14 : decode cX0_weightOf 14 = .ok (.iconst 0, 1) := by decide +kernel
theorem dX0_weightOf_15 : decode cX0_weightOf 15 = .ok (.istore 5, 2) := by decide +kernel
theorem dX0_weightOf_17 : decode cX0_weightOf 17 = .ok (.iload 5, 2) := by decide +kernel
theorem dX0_weightOf_19 : decode cX0_weightOf 19 = .ok (.aload_n 1, 1) := by decide +kernel
theorem dX0_weightOf_20 : decode cX0_weightOf 20 = .ok (.getfield 29, 3) := by decide +kernel
theorem dX0_weightOf_23 : decode cX0_weightOf 23 = .ok (.if_icmp .ge 46, 3) := by decide +kernel
theorem dX0_weightOf_26 : decode cX0_weightOf 26 = .ok (.iload_n 2, 1) := by decide +kernel
theorem dX0_weightOf_27 : decode cX0_weightOf 27 = .ok (.iconst 1, 1) := by decide +kernel
theorem dX0_weightOf_28 : decode cX0_weightOf 28 = .ok (.iload 5, 2) := by decide +kernel
theorem dX0_weightOf_30 : decode cX0_weightOf 30 = .ok (.ishl, 1) := by decide +kernel
theorem dX0_weightOf_31 : decode cX0_weightOf 31 = .ok (.iand, 1) := by decide +kernel
theorem dX0_weightOf_32 : decode cX0_weightOf 32 = .ok (.ifCond .eq 22, 3) := by decide +kernel
theorem dX0_weightOf_35 : decode cX0_weightOf 35 = .ok (.iload 4, 2) := by decide +kernel
theorem dX0_weightOf_37 : decode cX0_weightOf 37 = .ok (.iload_n 3, 1) := by decide +kernel
theorem dX0_weightOf_38 : decode cX0_weightOf 38 = .ok (.imul, 1) := by decide +kernel
theorem dX0_weightOf_39 : decode cX0_weightOf 39 = .ok (.istore 4, 2) := by decide +kernel
theorem dX0_weightOf_41 : decode cX0_weightOf 41 = .ok (.aload_n 1, 1) := by decide +kernel
theorem dX0_weightOf_42 : decode cX0_weightOf 42 = .ok (.iload 5, 2) := by decide +kernel
theorem dX0_weightOf_44 : decode cX0_weightOf 44 = .ok (.aload_n 0, 1) := by decide +kernel
theorem dX0_weightOf_45 : decode cX0_weightOf 45 = .ok (.getfield 10, 3) := by decide +kernel
theorem dX0_weightOf_48 : decode cX0_weightOf 48 = .ok (.invokevirtual 53, 3) := by decide +kernel
theorem dX0_weightOf_51 : decode cX0_weightOf 51 = .ok (.goto 12, 3) := by decide +kernel
theorem dX0_weightOf_54 : decode cX0_weightOf 54 = .ok (.iload 4, 2) := by decide +kernel
theorem dX0_weightOf_56 : decode cX0_weightOf 56 = .ok (.bipush 10, 2) := by decide +kernel
theorem dX0_weightOf_58 : decode cX0_weightOf 58 = .ok (.iload_n 3, 1) := by decide +kernel
theorem dX0_weightOf_59 : decode cX0_weightOf 59 = .ok (.isub, 1) := by decide +kernel
theorem dX0_weightOf_60 : decode cX0_weightOf 60 = .ok (.imul, 1) := by decide +kernel
theorem dX0_weightOf_61 : decode cX0_weightOf 61 = .ok (.istore 4, 2) := by decide +kernel
theorem dX0_weightOf_63 : decode cX0_weightOf 63 = .ok (.iinc 5 1, 3) := by decide +kernel
theorem dX0_weightOf_66 : decode cX0_weightOf 66 = .ok (.goto (-49), 3) := by decide +kernel
theorem dX0_weightOf_69 : decode cX0_weightOf 69 = .ok (.iload 4, 2) := by decide +kernel
theorem dX0_weightOf_71 : decode cX0_weightOf 71 = .ok (.ireturn, 1) := by decide +kernel
theorem dX0_greatestCommon_0 : decode cX0_greatestCommon 0 = .ok (.iload_n 0, 1) := by decide +kernel
theorem dX0_greatestCommon_1 : decode cX0_greatestCommon 1 = .ok (.istore_n 2, 1) := by decide +kernel
theorem dX0_greatestCommon_2 : decode cX0_greatestCommon 2 = .ok (.iload_n 1, 1) := by decide +kernel
theorem dX0_greatestCommon_3 : decode cX0_greatestCommon 3 = .ok (.istore_n 3, 1) := by decide +kernel
theorem dX0_greatestCommon_4 : decode cX0_greatestCommon 4 = .ok (.iconst 0, 1) := by decide +kernel
theorem dX0_greatestCommon_5 : decode cX0_greatestCommon 5 = .ok (.istore 4, 2) := by decide +kernel
theorem dX0_greatestCommon_7 : decode cX0_greatestCommon 7 = .ok (.iload 4, 2) := by decide +kernel
theorem dX0_greatestCommon_9 : decode cX0_greatestCommon 9 = .ok (.bipush 64, 2) := by decide +kernel
theorem dX0_greatestCommon_11 : decode cX0_greatestCommon 11 = .ok (.if_icmp .ge 23, 3) := by decide +kernel
theorem dX0_greatestCommon_14 : decode cX0_greatestCommon 14 = .ok (.iload_n 3, 1) := by decide +kernel
theorem dX0_greatestCommon_15 : decode cX0_greatestCommon 15 = .ok (.ifCond .eq 19, 3) := by decide +kernel
theorem dX0_greatestCommon_18 : decode cX0_greatestCommon 18 = .ok (.iload_n 2, 1) := by decide +kernel
theorem dX0_greatestCommon_19 : decode cX0_greatestCommon 19 = .ok (.iload_n 3, 1) := by decide +kernel
theorem dX0_greatestCommon_20 : decode cX0_greatestCommon 20 = .ok (.irem, 1) := by decide +kernel
theorem dX0_greatestCommon_21 : decode cX0_greatestCommon 21 = .ok (.istore 5, 2) := by decide +kernel
theorem dX0_greatestCommon_23 : decode cX0_greatestCommon 23 = .ok (.iload_n 3, 1) := by decide +kernel
theorem dX0_greatestCommon_24 : decode cX0_greatestCommon 24 = .ok (.istore_n 2, 1) := by decide +kernel
theorem dX0_greatestCommon_25 : decode cX0_greatestCommon 25 = .ok (.iload 5, 2) := by decide +kernel
theorem dX0_greatestCommon_27 : decode cX0_greatestCommon 27 = .ok (.istore_n 3, 1) := by decide +kernel
theorem dX0_greatestCommon_28 : decode cX0_greatestCommon 28 = .ok (.iinc 4 1, 3) := by decide +kernel
theorem dX0_greatestCommon_31 : decode cX0_greatestCommon 31 = .ok (.goto (-24), 3) := by decide +kernel
theorem dX0_greatestCommon_34 : decode cX0_greatestCommon 34 = .ok (.iload_n 2, 1) := by decide +kernel
theorem dX0_greatestCommon_35 : decode cX0_greatestCommon 35 = .ok (.ireturn, 1) := by decide +kernel
theorem dX1_init_0 : decode cX1_init 0 = .ok (.aload_n 0, 1) := by decide +kernel
theorem dX1_init_1 : decode cX1_init 1 = .ok (.invokespecial 3, 3) := by decide +kernel
theorem dX1_init_4 : decode cX1_init 4 = .ok (.aload_n 0, 1) := by decide +kernel
theorem dX1_init_5 : decode cX1_init 5 = .ok (.new 9, 3) := by decide +kernel
theorem dX1_init_8 : decode cX1_init 8 = .ok (.dup, 1) := by decide +kernel
theorem dX1_init_9 : decode cX1_init 9 = .ok (.invokespecial 11, 3) := by decide +kernel
theorem dX1_init_12 : decode cX1_init 12 = .ok (.putfield 12, 3) := by decide +kernel
theorem dX1_init_15 : decode cX1_init 15 = .ok (.aload_n 0, 1) := by decide +kernel
theorem dX1_init_16 : decode cX1_init 16 = .ok (.sipush 420, 3) := by decide +kernel
theorem dX1_init_19 : decode cX1_init 19 = .ok (.newarray .int, 2) := by decide +kernel
theorem dX1_init_21 : decode cX1_init 21 = .ok (.putfield 18, 3) := by decide +kernel
theorem dX1_init_24 : decode cX1_init 24 = .ok (.aload_n 0, 1) := by decide +kernel
theorem dX1_init_25 : decode cX1_init 25 = .ok (.sipush 420, 3) := by decide +kernel
theorem dX1_init_28 : decode cX1_init 28 = .ok (.newarray .int, 2) := by decide +kernel
theorem dX1_init_30 : decode cX1_init 30 = .ok (.putfield 22, 3) := by decide +kernel
theorem dX1_init_33 : decode cX1_init 33 = .ok (.aload_n 0, 1) := by decide +kernel
theorem dX1_init_34 : decode cX1_init 34 = .ok (.sipush 420, 3) := by decide +kernel
theorem dX1_init_37 : decode cX1_init 37 = .ok (.newarray .int, 2) := by decide +kernel
theorem dX1_init_39 : decode cX1_init 39 = .ok (.putfield 25, 3) := by decide +kernel
theorem dX1_init_42 : decode cX1_init 42 = .ok (.aload_n 0, 1) := by decide +kernel
theorem dX1_init_43 : decode cX1_init 43 = .ok (.sipush 420, 3) := by decide +kernel
theorem dX1_init_46 : decode cX1_init 46 = .ok (.newarray .int, 2) := by decide +kernel
theorem dX1_init_48 : decode cX1_init 48 = .ok (.putfield 28, 3) := by decide +kernel
theorem dX1_init_51 : decode cX1_init 51 = .ok (.aload_n 0, 1) := by decide +kernel
theorem dX1_init_52 : decode cX1_init 52 = .ok (.sipush 420, 3) := by decide +kernel
theorem dX1_init_55 : decode cX1_init 55 = .ok (.newarray .int, 2) := by decide +kernel
theorem dX1_init_57 : decode cX1_init 57 = .ok (.putfield 31, 3) := by decide +kernel
theorem dX1_init_60 : decode cX1_init 60 = .ok (.aload_n 0, 1) := by decide +kernel
theorem dX1_init_61 : decode cX1_init 61 = .ok (.iconst 5, 1) := by decide +kernel
theorem dX1_init_62 : decode cX1_init 62 = .ok (.newarray .int, 2) := by decide +kernel
theorem dX1_init_64 : decode cX1_init 64 = .ok (.putfield 34, 3) := by decide +kernel
theorem dX1_init_67 : decode cX1_init 67 = .ok (.aload_n 0, 1) := by decide +kernel
theorem dX1_init_68 : decode cX1_init 68 = .ok (.iconst 0, 1) := by decide +kernel
theorem dX1_init_69 : decode cX1_init 69 = .ok (.putfield 37, 3) := by decide +kernel
theorem dX1_init_72 : decode cX1_init 72 = .ok (.aload_n 0, 1) := by decide +kernel
theorem dX1_init_73 : decode cX1_init 73 = .ok (.iconst (-1), 1) := by decide +kernel
theorem dX1_init_74 : decode cX1_init 74 = .ok (.putfield 41, 3) := by decide +kernel
theorem dX1_init_77 : decode cX1_init 77 = .ok (.return_, 1) := by decide +kernel
theorem dX1_find_0 : decode cX1_find 0 = .ok (.aload_n 1, 1) := by decide +kernel
theorem dX1_find_1 : decode cX1_find 1 = .ok (.iload_n 2, 1) := by decide +kernel
theorem dX1_find_2 : decode cX1_find 2 = .ok (.invokevirtual 44, 3) := by decide +kernel
theorem dX1_find_5 : decode cX1_find 5 = .ok (.istore_n 3, 1) := by decide +kernel
theorem dX1_find_6 : decode cX1_find 6 = .ok (.aload_n 0, 1) := by decide +kernel
theorem dX1_find_7 : decode cX1_find 7 = .ok (.getfield 18, 3) := by decide +kernel
theorem dX1_find_10 : decode cX1_find 10 = .ok (.iconst 0, 1) := by decide +kernel
theorem dX1_find_11 : decode cX1_find 11 = .ok (.invokestatic 50, 3) := by decide +kernel
theorem dX1_find_14 : decode cX1_find 14 = .ok (.aload_n 0, 1) := by decide +kernel
theorem dX1_find_15 : decode cX1_find 15 = .ok (.iconst 0, 1) := by decide +kernel
theorem dX1_find_16 : decode cX1_find 16 = .ok (.putfield 37, 3) := by decide +kernel
theorem dX1_find_19 : decode cX1_find 19 = .ok (.aload_n 0, 1) := by decide +kernel
theorem dX1_find_20 : decode cX1_find 20 = .ok (.iconst (-1), 1) := by decide +kernel
theorem dX1_find_21 : decode cX1_find 21 = .ok (.putfield 41, 3) := by decide +kernel
theorem dX1_find_24 : decode cX1_find 24 = .ok (.aload_n 0, 1) := by decide +kernel
theorem dX1_find_25 : decode cX1_find 25 = .ok (.aload_n 1, 1) := by decide +kernel
theorem dX1_find_26 : decode cX1_find 26 = .ok (.getfield 56, 3) := by decide +kernel
theorem dX1_find_29 : decode cX1_find 29 = .ok (.invokevirtual 57, 3) := by decide +kernel
theorem dX1_find_32 : decode cX1_find 32 = .ok (.iconst (-1), 1) := by decide +kernel
theorem dX1_find_33 : decode cX1_find 33 = .ok (.iconst (-1), 1) := by decide +kernel
theorem dX1_find_34 : decode cX1_find 34 = .ok (.invokevirtual 61, 3) := by decide +kernel
theorem dX1_find_37 : decode cX1_find 37 = .ok (.iconst 0, 1) := by decide +kernel
theorem dX1_find_38 : decode cX1_find 38 = .ok (.istore 4, 2) := by decide +kernel
theorem dX1_find_40 : decode cX1_find 40 = .ok (.iload 4, 2) := by decide +kernel
theorem dX1_find_42 : decode cX1_find 42 = .ok (.aload_n 0, 1) := by decide +kernel
theorem dX1_find_43 : decode cX1_find 43 = .ok (.getfield 37, 3) := by decide +kernel
theorem dX1_find_46 : decode cX1_find 46 = .ok (.if_icmp .ge 67, 3) := by decide +kernel
theorem dX1_find_49 : decode cX1_find 49 = .ok (.iload 4, 2) := by decide +kernel
theorem dX1_find_51 : decode cX1_find 51 = .ok (.sipush 420, 3) := by decide +kernel
theorem dX1_find_54 : decode cX1_find 54 = .ok (.if_icmp .ge 59, 3) := by decide +kernel
theorem dX1_find_57 : decode cX1_find 57 = .ok (.aload_n 0, 1) := by decide +kernel
theorem dX1_find_58 : decode cX1_find 58 = .ok (.getfield 12, 3) := by decide +kernel
theorem dX1_find_61 : decode cX1_find 61 = .ok (.aload_n 0, 1) := by decide +kernel
theorem dX1_find_62 : decode cX1_find 62 = .ok (.getfield 22, 3) := by decide +kernel
theorem dX1_find_65 : decode cX1_find 65 = .ok (.iload 4, 2) := by decide +kernel
theorem dX1_find_67 : decode cX1_find 67 = .ok (.iaload, 1) := by decide +kernel
theorem dX1_find_68 : decode cX1_find 68 = .ok (.invokevirtual 65, 3) := by decide +kernel
theorem dX1_find_71 : decode cX1_find 71 = .ok (.aload_n 0, 1) := by decide +kernel
theorem dX1_find_72 : decode cX1_find 72 = .ok (.getfield 12, 3) := by decide +kernel
theorem dX1_find_75 : decode cX1_find 75 = .ok (.getfield 69, 3) := by decide +kernel
theorem dX1_find_78 : decode cX1_find 78 = .ok (.iload_n 3, 1) := by decide +kernel
theorem dX1_find_79 : decode cX1_find 79 = .ok (.if_icmp .lt 10, 3) := by decide +kernel
theorem dX1_find_82 : decode cX1_find 82 = .ok (.aload_n 0, 1) := by decide +kernel
theorem dX1_find_83 : decode cX1_find 83 = .ok (.iload 4, 2) := by decide +kernel
theorem dX1_find_85 : decode cX1_find 85 = .ok (.invokevirtual 72, 3) := by decide +kernel
theorem dX1_find_88 : decode cX1_find 88 = .ok (.return_, 1) := by decide +kernel
theorem dX1_find_89 : decode cX1_find 89 = .ok (.aload_n 0, 1) := by decide +kernel
theorem dX1_find_90 : decode cX1_find 90 = .ok (.getfield 31, 3) := by decide +kernel
theorem dX1_find_93 : decode cX1_find 93 = .ok (.iload 4, 2) := by decide +kernel
theorem dX1_find_95 : decode cX1_find 95 = .ok (.iaload, 1) := by decide +kernel
theorem dX1_find_96 : decode cX1_find 96 = .ok (.iconst 5, 1) := by decide +kernel
theorem dX1_find_97 : decode cX1_find 97 = .ok (.if_icmp .ge 10, 3) := by decide +kernel
theorem dX1_find_100 : decode cX1_find 100 = .ok (.aload_n 0, 1) := by decide +kernel
theorem dX1_find_101 : decode cX1_find 101 = .ok (.aload_n 1, 1) := by decide +kernel
theorem dX1_find_102 : decode cX1_find 102 = .ok (.iload 4, 2) := by decide +kernel
theorem dX1_find_104 : decode cX1_find 104 = .ok (.invokevirtual 75, 3) := by decide +kernel
theorem dX1_find_107 : decode cX1_find 107 = .ok (.iinc 4 1, 3) := by decide +kernel
theorem dX1_find_110 : decode cX1_find 110 = .ok (.goto (-70), 3) := by decide +kernel
theorem dX1_find_113 : decode cX1_find 113 = .ok (.return_, 1) := by decide +kernel
theorem dX1_tells_0 : decode cX1_tells 0 = .ok (.iload_n 1, 1) := by decide +kernel
theorem dX1_tells_1 : decode cX1_tells 1 = .ok (.ifCond .ne 8, 3) := by decide +kernel
theorem dX1_tells_4 : decode cX1_tells 4 = .ok (.aload_n 0, 1) := by decide +kernel
theorem dX1_tells_5 : decode cX1_tells 5 = .ok (.getfield 41, 3) := by decide +kernel
theorem dX1_tells_8 : decode cX1_tells 8 = .ok (.ireturn, 1) := by decide +kernel
theorem dX1_tells_9 : decode cX1_tells 9 = .ok (.iload_n 1, 1) := by decide +kernel
theorem dX1_tells_10 : decode cX1_tells 10 = .ok (.bipush 10, 2) := by decide +kernel
theorem dX1_tells_12 : decode cX1_tells 12 = .ok (.isub, 1) := by decide +kernel
theorem dX1_tells_13 : decode cX1_tells 13 = .ok (.istore_n 2, 1) := by decide +kernel
theorem dX1_tells_14 : decode cX1_tells 14 = .ok (.iload_n 2, 1) := by decide +kernel
theorem dX1_tells_15 : decode cX1_tells 15 = .ok (.ifCond .lt 25, 3) := by decide +kernel
theorem dX1_tells_18 : decode cX1_tells 18 = .ok (.iload_n 2, 1) := by decide +kernel
theorem dX1_tells_19 : decode cX1_tells 19 = .ok (.aload_n 0, 1) := by decide +kernel
theorem dX1_tells_20 : decode cX1_tells 20 = .ok (.getfield 41, 3) := by decide +kernel
theorem dX1_tells_23 : decode cX1_tells 23 = .ok (.if_icmp .ge 17, 3) := by decide +kernel
theorem dX1_tells_26 : decode cX1_tells 26 = .ok (.iload_n 2, 1) := by decide +kernel
theorem dX1_tells_27 : decode cX1_tells 27 = .ok (.iconst 5, 1) := by decide +kernel
theorem dX1_tells_28 : decode cX1_tells 28 = .ok (.if_icmp .ge 12, 3) := by decide +kernel
theorem dX1_tells_31 : decode cX1_tells 31 = .ok (.aload_n 0, 1) := by decide +kernel
theorem dX1_tells_32 : decode cX1_tells 32 = .ok (.getfield 34, 3) := by decide +kernel
theorem dX1_tells_35 : decode cX1_tells 35 = .ok (.iload_n 2, 1) := by decide +kernel
theorem dX1_tells_36 : decode cX1_tells 36 = .ok (.iaload, 1) := by decide +kernel
theorem dX1_tells_37 : decode cX1_tells 37 = .ok (.goto 4, 3) := by decide +kernel
theorem dX1_tells_40 : decode cX1_tells 40 = .ok (.iconst (-1), 1) := by decide +kernel
theorem dX1_tells_41 : decode cX1_tells 41 = .ok (.ireturn, 1) := by decide +kernel
theorem dX1_goOn_0 : decode cX1_goOn 0 = .ok (.iconst 0, 1) := by decide +kernel
theorem dX1_goOn_1 : decode cX1_goOn 1 = .ok (.istore_n 3, 1) := by decide +kernel
theorem dX1_goOn_2 : decode cX1_goOn 2 = .ok (.iload_n 3, 1) := by decide +kernel
theorem dX1_goOn_3 : decode cX1_goOn 3 = .ok (.aload_n 1, 1) := by decide +kernel
theorem dX1_goOn_4 : decode cX1_goOn 4 = .ok (.getfield 79, 3) := by decide +kernel
theorem dX1_goOn_7 : decode cX1_goOn 7 = .ok (.if_icmp .ge 44, 3) := by decide +kernel
theorem dX1_goOn_10 : decode cX1_goOn 10 = .ok (.aload_n 0, 1) := by decide +kernel
theorem dX1_goOn_11 : decode cX1_goOn 11 = .ok (.getfield 12, 3) := by decide +kernel
theorem dX1_goOn_14 : decode cX1_goOn 14 = .ok (.aload_n 0, 1) := by decide +kernel
theorem dX1_goOn_15 : decode cX1_goOn 15 = .ok (.getfield 22, 3) := by decide +kernel
theorem dX1_goOn_18 : decode cX1_goOn 18 = .ok (.iload_n 2, 1) := by decide +kernel
theorem dX1_goOn_19 : decode cX1_goOn 19 = .ok (.iaload, 1) := by decide +kernel
theorem dX1_goOn_20 : decode cX1_goOn 20 = .ok (.invokevirtual 65, 3) := by decide +kernel
theorem dX1_goOn_23 : decode cX1_goOn 23 = .ok (.aload_n 1, 1) := by decide +kernel
theorem dX1_goOn_24 : decode cX1_goOn 24 = .ok (.iload_n 3, 1) := by decide +kernel
theorem dX1_goOn_25 : decode cX1_goOn 25 = .ok (.aload_n 0, 1) := by decide +kernel
theorem dX1_goOn_26 : decode cX1_goOn 26 = .ok (.getfield 12, 3) := by decide +kernel
theorem dX1_goOn_29 : decode cX1_goOn 29 = .ok (.invokevirtual 82, 3) := by decide +kernel
theorem dX1_goOn_32 : decode cX1_goOn 32 = .ok (.aload_n 0, 1) := by decide +kernel
theorem dX1_goOn_33 : decode cX1_goOn 33 = .ok (.aload_n 0, 1) := by decide +kernel
theorem dX1_goOn_34 : decode cX1_goOn 34 = .ok (.getfield 12, 3) := by decide +kernel
theorem dX1_goOn_37 : decode cX1_goOn 37 = .ok (.invokevirtual 57, 3) := by decide +kernel
theorem dX1_goOn_40 : decode cX1_goOn 40 = .ok (.iload_n 2, 1) := by decide +kernel
theorem dX1_goOn_41 : decode cX1_goOn 41 = .ok (.iload_n 3, 1) := by decide +kernel
theorem dX1_goOn_42 : decode cX1_goOn 42 = .ok (.invokevirtual 61, 3) := by decide +kernel
theorem dX1_goOn_45 : decode cX1_goOn 45 = .ok (.iinc 3 1, 3) := by decide +kernel
theorem dX1_goOn_48 : decode cX1_goOn 48 = .ok (.goto (-46), 3) := by decide +kernel
theorem dX1_goOn_51 : decode cX1_goOn 51 = .ok (.aload_n 0, 1) := by decide +kernel
theorem dX1_goOn_52 : decode cX1_goOn 52 = .ok (.getfield 12, 3) := by decide +kernel
theorem dX1_goOn_55 : decode cX1_goOn 55 = .ok (.aload_n 0, 1) := by decide +kernel
theorem dX1_goOn_56 : decode cX1_goOn 56 = .ok (.getfield 22, 3) := by decide +kernel
theorem dX1_goOn_59 : decode cX1_goOn 59 = .ok (.iload_n 2, 1) := by decide +kernel
theorem dX1_goOn_60 : decode cX1_goOn 60 = .ok (.iaload, 1) := by decide +kernel
theorem dX1_goOn_61 : decode cX1_goOn 61 = .ok (.invokevirtual 65, 3) := by decide +kernel
theorem dX1_goOn_64 : decode cX1_goOn 64 = .ok (.aload_n 0, 1) := by decide +kernel
theorem dX1_goOn_65 : decode cX1_goOn 65 = .ok (.getfield 12, 3) := by decide +kernel
theorem dX1_goOn_68 : decode cX1_goOn 68 = .ok (.invokevirtual 86, 3) := by decide +kernel
theorem dX1_goOn_71 : decode cX1_goOn 71 = .ok (.aload_n 0, 1) := by decide +kernel
theorem dX1_goOn_72 : decode cX1_goOn 72 = .ok (.aload_n 0, 1) := by decide +kernel
theorem dX1_goOn_73 : decode cX1_goOn 73 = .ok (.getfield 12, 3) := by decide +kernel
theorem dX1_goOn_76 : decode cX1_goOn 76 = .ok (.invokevirtual 57, 3) := by decide +kernel
theorem dX1_goOn_79 : decode cX1_goOn 79 = .ok (.iload_n 2, 1) := by decide +kernel
theorem dX1_goOn_80 : decode cX1_goOn 80 = .ok (.bipush 9, 2) := by decide +kernel
theorem dX1_goOn_82 : decode cX1_goOn 82 = .ok (.invokevirtual 61, 3) := by decide +kernel
theorem dX1_goOn_85 : decode cX1_goOn 85 = .ok (.return_, 1) := by decide +kernel
theorem dX1_meet_0 : decode cX1_meet 0 = .ok (.iload_n 1, 1) := by decide +kernel
theorem dX1_meet_1 : decode cX1_meet 1 = .ok (.ifCond .lt 29, 3) := by decide +kernel
theorem dX1_meet_4 : decode cX1_meet 4 = .ok (.iload_n 1, 1) := by decide +kernel
theorem dX1_meet_5 : decode cX1_meet 5 = .ok (.sipush 420, 3) := by decide +kernel
theorem dX1_meet_8 : decode cX1_meet 8 = .ok (.if_icmp .ge 22, 3) := by decide +kernel
theorem dX1_meet_11 : decode cX1_meet 11 = .ok (.aload_n 0, 1) := by decide +kernel
theorem dX1_meet_12 : decode cX1_meet 12 = .ok (.getfield 18, 3) := by decide +kernel
theorem dX1_meet_15 : decode cX1_meet 15 = .ok (.iload_n 1, 1) := by decide +kernel
theorem dX1_meet_16 : decode cX1_meet 16 = .ok (.iaload, 1) := by decide +kernel
theorem dX1_meet_17 : decode cX1_meet 17 = .ok (.ifCond .ne 13, 3) := by decide +kernel
theorem dX1_meet_20 : decode cX1_meet 20 = .ok (.aload_n 0, 1) := by decide +kernel
theorem dX1_meet_21 : decode cX1_meet 21 = .ok (.getfield 37, 3) := by decide +kernel
theorem dX1_meet_24 : decode cX1_meet 24 = .ok (.sipush 420, 3) := by decide +kernel
theorem dX1_meet_27 : decode cX1_meet 27 = .ok (.if_icmp .lt 4, 3) := by decide +kernel
theorem dX1_meet_30 : decode cX1_meet 30 = .ok (.return_, 1) := by decide +kernel
theorem dX1_meet_31 : decode cX1_meet 31 = .ok (.aload_n 0, 1) := by decide +kernel
theorem dX1_meet_32 : decode cX1_meet 32 = .ok (.getfield 18, 3) := by decide +kernel
theorem dX1_meet_35 : decode cX1_meet 35 = .ok (.iload_n 1, 1) := by decide +kernel
theorem dX1_meet_36 : decode cX1_meet 36 = .ok (.iconst 1, 1) := by decide +kernel
theorem dX1_meet_37 : decode cX1_meet 37 = .ok (.iastore, 1) := by decide +kernel
theorem dX1_meet_38 : decode cX1_meet 38 = .ok (.aload_n 0, 1) := by decide +kernel
theorem dX1_meet_39 : decode cX1_meet 39 = .ok (.getfield 22, 3) := by decide +kernel
theorem dX1_meet_42 : decode cX1_meet 42 = .ok (.aload_n 0, 1) := by decide +kernel
theorem dX1_meet_43 : decode cX1_meet 43 = .ok (.getfield 37, 3) := by decide +kernel
theorem dX1_meet_46 : decode cX1_meet 46 = .ok (.iload_n 1, 1) := by decide +kernel
theorem dX1_meet_47 : decode cX1_meet 47 = .ok (.iastore, 1) := by decide +kernel
theorem dX1_meet_48 : decode cX1_meet 48 = .ok (.aload_n 0, 1) := by decide +kernel
theorem dX1_meet_49 : decode cX1_meet 49 = .ok (.getfield 25, 3) := by decide +kernel
theorem dX1_meet_52 : decode cX1_meet 52 = .ok (.aload_n 0, 1) := by decide +kernel
theorem dX1_meet_53 : decode cX1_meet 53 = .ok (.getfield 37, 3) := by decide +kernel
theorem dX1_meet_56 : decode cX1_meet 56 = .ok (.iload_n 2, 1) := by decide +kernel
theorem dX1_meet_57 : decode cX1_meet 57 = .ok (.iastore, 1) := by decide +kernel
theorem dX1_meet_58 : decode cX1_meet 58 = .ok (.aload_n 0, 1) := by decide +kernel
theorem dX1_meet_59 : decode cX1_meet 59 = .ok (.getfield 28, 3) := by decide +kernel
theorem dX1_meet_62 : decode cX1_meet 62 = .ok (.aload_n 0, 1) := by decide +kernel
theorem dX1_meet_63 : decode cX1_meet 63 = .ok (.getfield 37, 3) := by decide +kernel
theorem dX1_meet_66 : decode cX1_meet 66 = .ok (.iload_n 3, 1) := by decide +kernel
theorem dX1_meet_67 : decode cX1_meet 67 = .ok (.iastore, 1) := by decide +kernel
theorem dX1_meet_68 : decode cX1_meet 68 = .ok (.aload_n 0, 1) := by decide +kernel
theorem dX1_meet_69 : decode cX1_meet 69 = .ok (.getfield 31, 3) := by decide +kernel
theorem dX1_meet_72 : decode cX1_meet 72 = .ok (.aload_n 0, 1) := by decide +kernel
theorem dX1_meet_73 : decode cX1_meet 73 = .ok (.getfield 37, 3) := by decide +kernel
theorem dX1_meet_76 : decode cX1_meet 76 = .ok (.iload_n 2, 1) := by decide +kernel
theorem dX1_meet_77 : decode cX1_meet 77 = .ok (.ifCond .ge 7, 3) := by decide +kernel
theorem dX1_meet_80 : decode cX1_meet 80 = .ok (.iconst 0, 1) := by decide +kernel
theorem dX1_meet_81 : decode cX1_meet 81 = .ok (.goto 11, 3) := by decide +kernel
theorem dX1_meet_84 : decode cX1_meet 84 = .ok (.aload_n 0, 1) := by decide +kernel
theorem dX1_meet_85 : decode cX1_meet 85 = .ok (.getfield 31, 3) := by decide +kernel
theorem dX1_meet_88 : decode cX1_meet 88 = .ok (.iload_n 2, 1) := by decide +kernel
theorem dX1_meet_89 : decode cX1_meet 89 = .ok (.iaload, 1) := by decide +kernel
theorem dX1_meet_90 : decode cX1_meet 90 = .ok (.iconst 1, 1) := by decide +kernel
theorem dX1_meet_91 : decode cX1_meet 91 = .ok (.iadd, 1) := by decide +kernel
theorem dX1_meet_92 : decode cX1_meet 92 = .ok (.iastore, 1) := by decide +kernel
theorem dX1_meet_93 : decode cX1_meet 93 = .ok (.aload_n 0, 1) := by decide +kernel
theorem dX1_meet_94 : decode cX1_meet 94 = .ok (.dup, 1) := by decide +kernel
theorem dX1_meet_95 : decode cX1_meet 95 = .ok (.getfield 37, 3) := by decide +kernel
theorem dX1_meet_98 : decode cX1_meet 98 = .ok (.iconst 1, 1) := by decide +kernel
theorem dX1_meet_99 : decode cX1_meet 99 = .ok (.iadd, 1) := by decide +kernel
theorem dX1_meet_100 : decode cX1_meet 100 = .ok (.putfield 37, 3) := by decide +kernel
theorem dX1_meet_103 : decode cX1_meet 103 = .ok (.return_, 1) := by decide +kernel
theorem dX1_trace_0 : decode cX1_trace 0 = .ok (.aload_n 0, 1) := by decide +kernel
theorem dX1_trace_1 : decode cX1_trace 1 = .ok (.aload_n 0, 1) := by decide +kernel
theorem dX1_trace_2 : decode cX1_trace 2 = .ok (.getfield 31, 3) := by decide +kernel
theorem dX1_trace_5 : decode cX1_trace 5 = .ok (.iload_n 1, 1) := by decide +kernel
theorem dX1_trace_6 : decode cX1_trace 6 = .ok (.iaload, 1) := by decide +kernel
theorem dX1_trace_7 : decode cX1_trace 7 = .ok (.putfield 41, 3) := by decide +kernel
theorem dX1_trace_10 : decode cX1_trace 10 = .ok (.iload_n 1, 1) := by decide +kernel
theorem dX1_trace_11 : decode cX1_trace 11 = .ok (.istore_n 2, 1) := by decide +kernel
theorem dX1_trace_12 : decode cX1_trace 12 = .ok (.aload_n 0, 1) := by decide +kernel
theorem dX1_trace_13 : decode cX1_trace 13 = .ok (.getfield 41, 3) := by decide +kernel
theorem dX1_trace_16 : decode cX1_trace 16 = .ok (.iconst 5, 1) := by decide +kernel
theorem dX1_trace_17 : decode cX1_trace 17 = .ok (.invokestatic 89, 3) := by decide +kernel
theorem dX1_trace_20 : decode cX1_trace 20 = .ok (.iconst 1, 1) := by decide +kernel
theorem dX1_trace_21 : decode cX1_trace 21 = .ok (.isub, 1) := by decide +kernel
theorem dX1_trace_22 : decode cX1_trace 22 = .ok (.istore_n 3, 1) := by decide +kernel
theorem dX1_trace_23 : decode cX1_trace 23 = .ok (.iload_n 3, 1) := by decide +kernel
theorem dX1_trace_24 : decode cX1_trace 24 = .ok (.ifCond .lt 32, 3) := by decide +kernel
theorem dX1_trace_27 : decode cX1_trace 27 = .ok (.iload_n 2, 1) := by decide +kernel
theorem dX1_trace_28 : decode cX1_trace 28 = .ok (.ifCond .lt 28, 3) := by decide +kernel
theorem dX1_trace_31 : decode cX1_trace 31 = .ok (.aload_n 0, 1) := by decide +kernel
theorem dX1_trace_32 : decode cX1_trace 32 = .ok (.getfield 34, 3) := by decide +kernel
theorem dX1_trace_35 : decode cX1_trace 35 = .ok (.iload_n 3, 1) := by decide +kernel
theorem dX1_trace_36 : decode cX1_trace 36 = .ok (.aload_n 0, 1) := by decide +kernel
theorem dX1_trace_37 : decode cX1_trace 37 = .ok (.getfield 28, 3) := by decide +kernel
theorem dX1_trace_40 : decode cX1_trace 40 = .ok (.iload_n 2, 1) := by decide +kernel
theorem dX1_trace_41 : decode cX1_trace 41 = .ok (.iaload, 1) := by decide +kernel
theorem dX1_trace_42 : decode cX1_trace 42 = .ok (.iastore, 1) := by decide +kernel
theorem dX1_trace_43 : decode cX1_trace 43 = .ok (.aload_n 0, 1) := by decide +kernel
theorem dX1_trace_44 : decode cX1_trace 44 = .ok (.getfield 25, 3) := by decide +kernel
theorem dX1_trace_47 : decode cX1_trace 47 = .ok (.iload_n 2, 1) := by decide +kernel
theorem dX1_trace_48 : decode cX1_trace 48 = .ok (.iaload, 1) := by decide +kernel
theorem dX1_trace_49 : decode cX1_trace 49 = .ok (.istore_n 2, 1) := by decide +kernel
theorem dX1_trace_50 : decode cX1_trace 50 = .ok (.iinc 3 (-1), 3) := by decide +kernel
theorem dX1_trace_53 : decode cX1_trace 53 = .ok (.goto (-30), 3) := by decide +kernel
theorem dX1_trace_56 : decode cX1_trace 56 = .ok (.return_, 1) := by decide +kernel
theorem dX2_init_0 : decode cX2_init 0 = .ok (.aload_n 0, 1) := by decide +kernel
theorem dX2_init_1 : decode cX2_init 1 = .ok (.invokespecial 3, 3) := by decide +kernel
theorem dX2_init_4 : decode cX2_init 4 = .ok (.aload_n 0, 1) := by decide +kernel
theorem dX2_init_5 : decode cX2_init 5 = .ok (.new 9, 3) := by decide +kernel
theorem dX2_init_8 : decode cX2_init 8 = .ok (.dup, 1) := by decide +kernel
theorem dX2_init_9 : decode cX2_init 9 = .ok (.invokespecial 11, 3) := by decide +kernel
theorem dX2_init_12 : decode cX2_init 12 = .ok (.putfield 12, 3) := by decide +kernel
theorem dX2_init_15 : decode cX2_init 15 = .ok (.aload_n 0, 1) := by decide +kernel
theorem dX2_init_16 : decode cX2_init 16 = .ok (.bipush 21, 2) := by decide +kernel
theorem dX2_init_18 : decode cX2_init 18 = .ok (.newarray .int, 2) := by decide +kernel
theorem dX2_init_20 : decode cX2_init 20 = .ok (.putfield 18, 3) := by decide +kernel
theorem dX2_init_23 : decode cX2_init 23 = .ok (.aload_n 0, 1) := by decide +kernel
theorem dX2_init_24 : decode cX2_init 24 = .ok (.iconst 0, 1) := by decide +kernel
theorem dX2_init_25 : decode cX2_init 25 = .ok (.putfield 22, 3) := by decide +kernel
theorem dX2_init_28 : decode cX2_init 28 = .ok (.aload_n 0, 1) := by decide +kernel
theorem dX2_init_29 : decode cX2_init 29 = .ok (.iconst 0, 1) := by decide +kernel
theorem dX2_init_30 : decode cX2_init 30 = .ok (.putfield 26, 3) := by decide +kernel
theorem dX2_init_33 : decode cX2_init 33 = .ok (.aload_n 0, 1) := by decide +kernel
theorem dX2_init_34 : decode cX2_init 34 = .ok (.iconst 0, 1) := by decide +kernel
theorem dX2_init_35 : decode cX2_init 35 = .ok (.putfield 29, 3) := by decide +kernel
theorem dX2_init_38 : decode cX2_init 38 = .ok (.return_, 1) := by decide +kernel
theorem dX2_seaAfter_0 : decode cX2_seaAfter 0 = .ok (.aload_n 0, 1) := by decide +kernel
theorem dX2_seaAfter_1 : decode cX2_seaAfter 1 = .ok (.getfield 12, 3) := by decide +kernel
theorem dX2_seaAfter_4 : decode cX2_seaAfter 4 = .ok (.aload_n 1, 1) := by decide +kernel
theorem dX2_seaAfter_5 : decode cX2_seaAfter 5 = .ok (.getfield 32, 3) := by decide +kernel
theorem dX2_seaAfter_8 : decode cX2_seaAfter 8 = .ok (.invokevirtual 35, 3) := by decide +kernel
theorem dX2_seaAfter_11 : decode cX2_seaAfter 11 = .ok (.aload_n 1, 1) := by decide +kernel
theorem dX2_seaAfter_12 : decode cX2_seaAfter 12 = .ok (.iload_n 2, 1) := by decide +kernel
theorem dX2_seaAfter_13 : decode cX2_seaAfter 13 = .ok (.invokevirtual 39, 3) := by decide +kernel
theorem dX2_seaAfter_16 : decode cX2_seaAfter 16 = .ok (.ifCond .eq 17, 3) := by decide +kernel
theorem dX2_seaAfter_19 : decode cX2_seaAfter 19 = .ok (.aload_n 0, 1) := by decide +kernel
theorem dX2_seaAfter_20 : decode cX2_seaAfter 20 = .ok (.getfield 12, 3) := by decide +kernel
theorem dX2_seaAfter_23 : decode cX2_seaAfter 23 = .ok (.aload_n 1, 1) := by decide +kernel
theorem dX2_seaAfter_24 : decode cX2_seaAfter 24 = .ok (.getfield 43, 3) := by decide +kernel
theorem dX2_seaAfter_27 : decode cX2_seaAfter 27 = .ok (.iload_n 2, 1) := by decide +kernel
theorem dX2_seaAfter_28 : decode cX2_seaAfter 28 = .ok (.iaload, 1) := by decide +kernel
theorem dX2_seaAfter_29 : decode cX2_seaAfter 29 = .ok (.iload_n 3, 1) := by decide +kernel
theorem dX2_seaAfter_30 : decode cX2_seaAfter 30 = .ok (.invokevirtual 46, 3) := by decide +kernel
theorem dX2_seaAfter_33 : decode cX2_seaAfter 33 = .ok (.aload_n 0, 1) := by decide +kernel
theorem dX2_seaAfter_34 : decode cX2_seaAfter 34 = .ok (.getfield 12, 3) := by decide +kernel
theorem dX2_seaAfter_37 : decode cX2_seaAfter 37 = .ok (.areturn, 1) := by decide +kernel
theorem dX2_weigh_0 : decode cX2_weigh 0 = .ok (.aload_n 0, 1) := by decide +kernel
theorem dX2_weigh_1 : decode cX2_weigh 1 = .ok (.iconst 0, 1) := by decide +kernel
theorem dX2_weigh_2 : decode cX2_weigh 2 = .ok (.putfield 22, 3) := by decide +kernel
theorem dX2_weigh_5 : decode cX2_weigh 5 = .ok (.aload_n 0, 1) := by decide +kernel
theorem dX2_weigh_6 : decode cX2_weigh 6 = .ok (.iconst 0, 1) := by decide +kernel
theorem dX2_weigh_7 : decode cX2_weigh 7 = .ok (.putfield 26, 3) := by decide +kernel
theorem dX2_weigh_10 : decode cX2_weigh 10 = .ok (.aload_n 0, 1) := by decide +kernel
theorem dX2_weigh_11 : decode cX2_weigh 11 = .ok (.iconst 0, 1) := by decide +kernel
theorem dX2_weigh_12 : decode cX2_weigh 12 = .ok (.putfield 29, 3) := by decide +kernel
theorem dX2_weigh_15 : decode cX2_weigh 15 = .ok (.aload_n 0, 1) := by decide +kernel
theorem dX2_weigh_16 : decode cX2_weigh 16 = .ok (.getfield 18, 3) := by decide +kernel
theorem dX2_weigh_19 : decode cX2_weigh 19 = .ok (.iconst 0, 1) := by decide +kernel
theorem dX2_weigh_20 : decode cX2_weigh 20 = .ok (.invokestatic 50, 3) := by decide +kernel
theorem dX2_weigh_23 : decode cX2_weigh 23 = .ok (.iconst 0, 1) := by decide +kernel
theorem dX2_weigh_24 : decode cX2_weigh 24 = .ok (.istore_n 3, 1) := by decide +kernel
theorem dX2_weigh_25 : decode cX2_weigh 25 = .ok (.iload_n 3, 1) := by decide +kernel
theorem dX2_weigh_26 : decode cX2_weigh 26 = .ok (.bipush 9, 2) := by decide +kernel
theorem dX2_weigh_28 : decode cX2_weigh 28 = .ok (.if_icmp .gt 105, 3) := by decide +kernel
theorem dX2_weigh_31 : decode cX2_weigh 31 = .ok (.aload_n 0, 1) := by decide +kernel
theorem dX2_weigh_32 : decode cX2_weigh 32 = .ok (.aload_n 1, 1) := by decide +kernel
theorem dX2_weigh_33 : decode cX2_weigh 33 = .ok (.iload_n 2, 1) := by decide +kernel
theorem dX2_weigh_34 : decode cX2_weigh 34 = .ok (.iload_n 3, 1) := by decide +kernel
theorem dX2_weigh_35 : decode cX2_weigh 35 = .ok (.invokevirtual 56, 3) := by decide +kernel
theorem dX2_weigh_38 : decode cX2_weigh 38 = .ok (.getfield 60, 3) := by decide +kernel
theorem dX2_weigh_41 : decode cX2_weigh 41 = .ok (.istore 4, 2) := by decide +kernel
theorem dX2_weigh_43 : decode cX2_weigh 43 = .ok (.iload 4, 2) := by decide +kernel
theorem dX2_weigh_45 : decode cX2_weigh 45 = .ok (.invokestatic 63, 3) := by decide +kernel
theorem dX2_weigh_48 : decode cX2_weigh 48 = .ok (.ifCond .eq 79, 3) := by decide +kernel
theorem dX2_weigh_51 : decode cX2_weigh 51 = .ok (.aload_n 1, 1) := by decide +kernel
theorem dX2_weigh_52 : decode cX2_weigh 52 = .ok (.iload_n 2, 1) := by decide +kernel
theorem dX2_weigh_53 : decode cX2_weigh 53 = .ok (.iload 4, 2) := by decide +kernel
theorem dX2_weigh_55 : decode cX2_weigh 55 = .ok (.invokevirtual 66, 3) := by decide +kernel
theorem dX2_weigh_58 : decode cX2_weigh 58 = .ok (.ifCond .eq 69, 3) := by decide +kernel
theorem dX2_weigh_61 : decode cX2_weigh 61 = .ok (.aload_n 0, 1) := by decide +kernel
theorem dX2_weigh_62 : decode cX2_weigh 62 = .ok (.dup, 1) := by decide +kernel
theorem dX2_weigh_63 : decode cX2_weigh 63 = .ok (.getfield 22, 3) := by decide +kernel
theorem dX2_weigh_66 : decode cX2_weigh 66 = .ok (.iconst 1, 1) := by decide +kernel
theorem dX2_weigh_67 : decode cX2_weigh 67 = .ok (.iload_n 3, 1) := by decide +kernel
theorem dX2_weigh_68 : decode cX2_weigh 68 = .ok (.ishl, 1) := by decide +kernel
theorem dX2_weigh_69 : decode cX2_weigh 69 = .ok (.ior, 1) := by decide +kernel
theorem dX2_weigh_70 : decode cX2_weigh 70 = .ok (.putfield 22, 3) := by decide +kernel
theorem dX2_weigh_73 : decode cX2_weigh 73 = .ok (.aload_n 0, 1) := by decide +kernel
theorem dX2_weigh_74 : decode cX2_weigh 74 = .ok (.getfield 18, 3) := by decide +kernel
theorem dX2_weigh_77 : decode cX2_weigh 77 = .ok (.iload 4, 2) := by decide +kernel
theorem dX2_weigh_79 : decode cX2_weigh 79 = .ok (.dup2, 1) := by decide +kernel
theorem dX2_weigh_80 : decode cX2_weigh 80 = .ok (.iaload, 1) := by decide +kernel
theorem dX2_weigh_81 : decode cX2_weigh 81 = .ok (.iconst 1, 1) := by decide +kernel
theorem dX2_weigh_82 : decode cX2_weigh 82 = .ok (.iadd, 1) := by decide +kernel
theorem dX2_weigh_83 : decode cX2_weigh 83 = .ok (.iastore, 1) := by decide +kernel
theorem dX2_weigh_84 : decode cX2_weigh 84 = .ok (.aload_n 0, 1) := by decide +kernel
theorem dX2_weigh_85 : decode cX2_weigh 85 = .ok (.dup, 1) := by decide +kernel
theorem dX2_weigh_86 : decode cX2_weigh 86 = .ok (.getfield 26, 3) := by decide +kernel
theorem dX2_weigh_89 : decode cX2_weigh 89 = .ok (.aload_n 0, 1) := by decide +kernel
theorem dX2_weigh_90 : decode cX2_weigh 90 = .ok (.getfield 18, 3) := by decide +kernel
theorem dX2_weigh_93 : decode cX2_weigh 93 = .ok (.iload 4, 2) := by decide +kernel
theorem dX2_weigh_95 : decode cX2_weigh 95 = .ok (.iaload, 1) := by decide +kernel
theorem dX2_weigh_96 : decode cX2_weigh 96 = .ok (.iconst 1, 1) := by decide +kernel
theorem dX2_weigh_97 : decode cX2_weigh 97 = .ok (.if_icmp .ne 7, 3) := by decide +kernel
theorem dX2_weigh_100 : decode cX2_weigh 100 = .ok (.iconst 1, 1) := by decide +kernel
theorem dX2_weigh_101 : decode cX2_weigh 101 = .ok (.goto 4, 3) := by decide +kernel
theorem dX2_weigh_104 : decode cX2_weigh 104 = .ok (.iconst 0, 1) := by decide +kernel
theorem dX2_weigh_105 : decode cX2_weigh 105 = .ok (.iadd, 1) := by decide +kernel
theorem dX2_weigh_106 : decode cX2_weigh 106 = .ok (.putfield 26, 3) := by decide +kernel
theorem dX2_weigh_109 : decode cX2_weigh 109 = .ok (.aload_n 0, 1) := by decide +kernel
theorem dX2_weigh_110 : decode cX2_weigh 110 = .ok (.aload_n 0, 1) := by decide +kernel
theorem dX2_weigh_111 : decode cX2_weigh 111 = .ok (.getfield 29, 3) := by decide +kernel
theorem dX2_weigh_114 : decode cX2_weigh 114 = .ok (.aload_n 0, 1) := by decide +kernel
theorem dX2_weigh_115 : decode cX2_weigh 115 = .ok (.getfield 18, 3) := by decide +kernel
theorem dX2_weigh_118 : decode cX2_weigh 118 = .ok (.iload 4, 2) := by decide +kernel
theorem dX2_weigh_120 : decode cX2_weigh 120 = .ok (.iaload, 1) := by decide +kernel
theorem dX2_weigh_121 : decode cX2_weigh 121 = .ok (.invokestatic 70, 3) := by decide +kernel
theorem dX2_weigh_124 : decode cX2_weigh 124 = .ok (.putfield 29, 3) := by decide +kernel
theorem dX2_weigh_127 : decode cX2_weigh 127 = .ok (.iinc 3 1, 3) := by decide +kernel
theorem dX2_weigh_130 : decode cX2_weigh 130 = .ok (.goto (-105), 3) := by decide +kernel
theorem dX2_weigh_133 : decode cX2_weigh 133 = .ok (.return_, 1) := by decide +kernel
theorem dX2_whomToSend_0 : decode cX2_whomToSend 0 = .ok (.iconst (-1), 1) := by decide +kernel
theorem dX2_whomToSend_1 : decode cX2_whomToSend 1 = .ok (.istore_n 2, 1) := by decide +kernel
theorem dX2_whomToSend_2 : decode cX2_whomToSend 2 = .ok (.bipush 11, 2) := by decide +kernel
theorem dX2_whomToSend_4 : decode cX2_whomToSend 4 = .ok (.istore_n 3, 1) := by decide +kernel
theorem dX2_whomToSend_5 : decode cX2_whomToSend 5 = .ok (.iconst 0, 1) := by decide +kernel
theorem dX2_whomToSend_6 : decode cX2_whomToSend 6 = .ok (.istore 4, 2) := by decide +kernel
theorem dX2_whomToSend_8 : decode cX2_whomToSend 8 = .ok (.iload 4, 2) := by decide +kernel
theorem dX2_whomToSend_10 : decode cX2_whomToSend 10 = .ok (.aload_n 1, 1) := by decide +kernel
theorem dX2_whomToSend_11 : decode cX2_whomToSend 11 = .ok (.getfield 76, 3) := by decide +kernel
theorem dX2_whomToSend_14 : decode cX2_whomToSend 14 = .ok (.if_icmp .ge 39, 3) := by decide +kernel
theorem dX2_whomToSend_17 : decode cX2_whomToSend 17 = .ok (.aload_n 0, 1) := by decide +kernel
theorem dX2_whomToSend_18 : decode cX2_whomToSend 18 = .ok (.aload_n 1, 1) := by decide +kernel
theorem dX2_whomToSend_19 : decode cX2_whomToSend 19 = .ok (.iload 4, 2) := by decide +kernel
theorem dX2_whomToSend_21 : decode cX2_whomToSend 21 = .ok (.invokevirtual 79, 3) := by decide +kernel
theorem dX2_whomToSend_24 : decode cX2_whomToSend 24 = .ok (.aload_n 0, 1) := by decide +kernel
theorem dX2_whomToSend_25 : decode cX2_whomToSend 25 = .ok (.getfield 29, 3) := by decide +kernel
theorem dX2_whomToSend_28 : decode cX2_whomToSend 28 = .ok (.ifCond .le 19, 3) := by decide +kernel
theorem dX2_whomToSend_31 : decode cX2_whomToSend 31 = .ok (.aload_n 0, 1) := by decide +kernel
theorem dX2_whomToSend_32 : decode cX2_whomToSend 32 = .ok (.getfield 29, 3) := by decide +kernel
theorem dX2_whomToSend_35 : decode cX2_whomToSend 35 = .ok (.iload_n 3, 1) := by decide +kernel
theorem dX2_whomToSend_36 : decode cX2_whomToSend 36 = .ok (.if_icmp .ge 11, 3) := by decide +kernel
theorem dX2_whomToSend_39 : decode cX2_whomToSend 39 = .ok (.iload 4, 2) := by decide +kernel
theorem dX2_whomToSend_41 : decode cX2_whomToSend 41 = .ok (.istore_n 2, 1) := by decide +kernel
theorem dX2_whomToSend_42 : decode cX2_whomToSend 42 = .ok (.aload_n 0, 1) := by decide +kernel
theorem dX2_whomToSend_43 : decode cX2_whomToSend 43 = .ok (.getfield 29, 3) := by decide +kernel
theorem dX2_whomToSend_46 : decode cX2_whomToSend 46 = .ok (.istore_n 3, 1) := by decide +kernel
theorem dX2_whomToSend_47 : decode cX2_whomToSend 47 = .ok (.iinc 4 1, 3) := by decide +kernel
theorem dX2_whomToSend_50 : decode cX2_whomToSend 50 = .ok (.goto (-42), 3) := by decide +kernel
theorem dX2_whomToSend_53 : decode cX2_whomToSend 53 = .ok (.iload_n 2, 1) := by decide +kernel
theorem dX2_whomToSend_54 : decode cX2_whomToSend 54 = .ok (.ireturn, 1) := by decide +kernel
theorem dX3_init_0 : decode cX3_init 0 = .ok (.aload_n 0, 1) := by decide +kernel
theorem dX3_init_1 : decode cX3_init 1 = .ok (.invokespecial 3, 3) := by decide +kernel
theorem dX3_init_4 : decode cX3_init 4 = .ok (.aload_n 0, 1) := by decide +kernel
theorem dX3_init_5 : decode cX3_init 5 = .ok (.new 9, 3) := by decide +kernel
theorem dX3_init_8 : decode cX3_init 8 = .ok (.dup, 1) := by decide +kernel
theorem dX3_init_9 : decode cX3_init 9 = .ok (.invokespecial 11, 3) := by decide +kernel
theorem dX3_init_12 : decode cX3_init 12 = .ok (.putfield 12, 3) := by decide +kernel
theorem dX3_init_15 : decode cX3_init 15 = .ok (.aload_n 0, 1) := by decide +kernel
theorem dX3_init_16 : decode cX3_init 16 = .ok (.iconst 5, 1) := by decide +kernel
theorem dX3_init_17 : decode cX3_init 17 = .ok (.newarray .int, 2) := by decide +kernel
theorem dX3_init_19 : decode cX3_init 19 = .ok (.putfield 18, 3) := by decide +kernel
theorem dX3_init_22 : decode cX3_init 22 = .ok (.aload_n 0, 1) := by decide +kernel
theorem dX3_init_23 : decode cX3_init 23 = .ok (.iconst 5, 1) := by decide +kernel
theorem dX3_init_24 : decode cX3_init 24 = .ok (.newarray .int, 2) := by decide +kernel
theorem dX3_init_26 : decode cX3_init 26 = .ok (.putfield 22, 3) := by decide +kernel
theorem dX3_init_29 : decode cX3_init 29 = .ok (.aload_n 0, 1) := by decide +kernel
theorem dX3_init_30 : decode cX3_init 30 = .ok (.iconst 0, 1) := by decide +kernel
theorem dX3_init_31 : decode cX3_init 31 = .ok (.putfield 25, 3) := by decide +kernel
theorem dX3_init_34 : decode cX3_init 34 = .ok (.aload_n 0, 1) := by decide +kernel
theorem dX3_init_35 : decode cX3_init 35 = .ok (.iconst (-1), 1) := by decide +kernel
theorem dX3_init_36 : decode cX3_init 36 = .ok (.putfield 29, 3) := by decide +kernel
theorem dX3_init_39 : decode cX3_init 39 = .ok (.aload_n 0, 1) := by decide +kernel
theorem dX3_init_40 : decode cX3_init 40 = .ok (.iconst 0, 1) := by decide +kernel
theorem dX3_init_41 : decode cX3_init 41 = .ok (.putfield 32, 3) := by decide +kernel
theorem dX3_init_44 : decode cX3_init 44 = .ok (.aload_n 0, 1) := by decide +kernel
theorem dX3_init_45 : decode cX3_init 45 = .ok (.iconst 0, 1) := by decide +kernel
theorem dX3_init_46 : decode cX3_init 46 = .ok (.putfield 35, 3) := by decide +kernel
theorem dX3_init_49 : decode cX3_init 49 = .ok (.return_, 1) := by decide +kernel
theorem dX3_find_0 : decode cX3_find 0 = .ok (.aload_n 0, 1) := by decide +kernel
theorem dX3_find_1 : decode cX3_find 1 = .ok (.aload_n 1, 1) := by decide +kernel
theorem dX3_find_2 : decode cX3_find 2 = .ok (.getfield 38, 3) := by decide +kernel
theorem dX3_find_5 : decode cX3_find 5 = .ok (.putfield 25, 3) := by decide +kernel
theorem dX3_find_8 : decode cX3_find 8 = .ok (.aload_n 0, 1) := by decide +kernel
theorem dX3_find_9 : decode cX3_find 9 = .ok (.iconst (-1), 1) := by decide +kernel
theorem dX3_find_10 : decode cX3_find 10 = .ok (.putfield 29, 3) := by decide +kernel
theorem dX3_find_13 : decode cX3_find 13 = .ok (.iconst 0, 1) := by decide +kernel
theorem dX3_find_14 : decode cX3_find 14 = .ok (.istore_n 2, 1) := by decide +kernel
theorem dX3_find_15 : decode cX3_find 15 = .ok (.iload_n 2, 1) := by decide +kernel
theorem dX3_find_16 : decode cX3_find 16 = .ok (.iconst 5, 1) := by decide +kernel
theorem dX3_find_17 : decode cX3_find 17 = .ok (.if_icmp .ge 16, 3) := by decide +kernel
theorem dX3_find_20 : decode cX3_find 20 = .ok (.aload_n 0, 1) := by decide +kernel
theorem dX3_find_21 : decode cX3_find 21 = .ok (.getfield 18, 3) := by decide +kernel
theorem dX3_find_24 : decode cX3_find 24 = .ok (.iload_n 2, 1) := by decide +kernel
theorem dX3_find_25 : decode cX3_find 25 = .ok (.iload_n 2, 1) := by decide +kernel
theorem dX3_find_26 : decode cX3_find 26 = .ok (.iastore, 1) := by decide +kernel
theorem dX3_find_27 : decode cX3_find 27 = .ok (.iinc 2 1, 3) := by decide +kernel
theorem dX3_find_30 : decode cX3_find 30 = .ok (.goto (-15), 3) := by decide +kernel
theorem dX3_find_33 : decode cX3_find 33 = .ok (.iconst 1, 1) := by decide +kernel
theorem dX3_find_34 : decode cX3_find 34 = .ok (.istore_n 2, 1) := by decide +kernel
theorem dX3_find_35 : decode cX3_find 35 = .ok (.iconst 0, 1) := by decide +kernel
theorem dX3_find_36 : decode cX3_find 36 = .ok (.istore_n 3, 1) := by decide +kernel
theorem dX3_find_37 : decode cX3_find 37 = .ok (.iload_n 3, 1) := by decide +kernel
theorem dX3_find_38 : decode cX3_find 38 = .ok (.bipush 120, 2) := by decide +kernel
theorem dX3_find_40 : decode cX3_find 40 = .ok (.if_icmp .ge 23, 3) := by decide +kernel
theorem dX3_find_43 : decode cX3_find 43 = .ok (.iload_n 2, 1) := by decide +kernel
theorem dX3_find_44 : decode cX3_find 44 = .ok (.ifCond .eq 19, 3) := by decide +kernel
theorem dX3_find_47 : decode cX3_find 47 = .ok (.aload_n 0, 1) := by decide +kernel
theorem dX3_find_48 : decode cX3_find 48 = .ok (.aload_n 1, 1) := by decide +kernel
theorem dX3_find_49 : decode cX3_find 49 = .ok (.invokevirtual 41, 3) := by decide +kernel
theorem dX3_find_52 : decode cX3_find 52 = .ok (.aload_n 0, 1) := by decide +kernel
theorem dX3_find_53 : decode cX3_find 53 = .ok (.invokevirtual 45, 3) := by decide +kernel
theorem dX3_find_56 : decode cX3_find 56 = .ok (.istore_n 2, 1) := by decide +kernel
theorem dX3_find_57 : decode cX3_find 57 = .ok (.iinc 3 1, 3) := by decide +kernel
theorem dX3_find_60 : decode cX3_find 60 = .ok (.goto (-23), 3) := by decide +kernel
theorem dX3_find_63 : decode cX3_find 63 = .ok (.return_, 1) := by decide +kernel
theorem dX3_tells_0 : decode cX3_tells 0 = .ok (.iload_n 1, 1) := by decide +kernel
theorem dX3_tells_1 : decode cX3_tells 1 = .ok (.tableswitch 42 0 2 #[27, 32, 37], 27) := by decide +kernel
theorem dX3_tells_28 : decode cX3_tells 28 = .ok (.aload_n 0, 1) := by decide +kernel
theorem dX3_tells_29 : decode cX3_tells 29 = .ok (.getfield 29, 3) := by decide +kernel
theorem dX3_tells_32 : decode cX3_tells 32 = .ok (.ireturn, 1) := by decide +kernel
theorem dX3_tells_33 : decode cX3_tells 33 = .ok (.aload_n 0, 1) := by decide +kernel
theorem dX3_tells_34 : decode cX3_tells 34 = .ok (.getfield 32, 3) := by decide +kernel
theorem dX3_tells_37 : decode cX3_tells 37 = .ok (.ireturn, 1) := by decide +kernel
theorem dX3_tells_38 : decode cX3_tells 38 = .ok (.aload_n 0, 1) := by decide +kernel
theorem dX3_tells_39 : decode cX3_tells 39 = .ok (.getfield 35, 3) := by decide +kernel
theorem dX3_tells_42 : decode cX3_tells 42 = .ok (.ireturn, 1) := by decide +kernel
theorem dX3_tells_43 : decode cX3_tells 43 = .ok (.iload_n 1, 1) := by decide +kernel
theorem dX3_tells_44 : decode cX3_tells 44 = .ok (.bipush 10, 2) := by decide +kernel
theorem dX3_tells_46 : decode cX3_tells 46 = .ok (.if_icmp .lt 26, 3) := by decide +kernel
theorem dX3_tells_49 : decode cX3_tells 49 = .ok (.iload_n 1, 1) := by decide +kernel
theorem dX3_tells_50 : decode cX3_tells 50 = .ok (.bipush 10, 2) := by decide +kernel
theorem dX3_tells_52 : decode cX3_tells 52 = .ok (.isub, 1) := by decide +kernel
theorem dX3_tells_53 : decode cX3_tells 53 = .ok (.aload_n 0, 1) := by decide +kernel
theorem dX3_tells_54 : decode cX3_tells 54 = .ok (.getfield 25, 3) := by decide +kernel
theorem dX3_tells_57 : decode cX3_tells 57 = .ok (.if_icmp .ge 15, 3) := by decide +kernel
theorem dX3_tells_60 : decode cX3_tells 60 = .ok (.aload_n 0, 1) := by decide +kernel
theorem dX3_tells_61 : decode cX3_tells 61 = .ok (.getfield 22, 3) := by decide +kernel
theorem dX3_tells_64 : decode cX3_tells 64 = .ok (.iload_n 1, 1) := by decide +kernel
theorem dX3_tells_65 : decode cX3_tells 65 = .ok (.bipush 10, 2) := by decide +kernel
theorem dX3_tells_67 : decode cX3_tells 67 = .ok (.isub, 1) := by decide +kernel
theorem dX3_tells_68 : decode cX3_tells 68 = .ok (.iaload, 1) := by decide +kernel
theorem dX3_tells_69 : decode cX3_tells 69 = .ok (.goto 4, 3) := by decide +kernel
theorem dX3_tells_72 : decode cX3_tells 72 = .ok (.iconst (-1), 1) := by decide +kernel
theorem dX3_tells_73 : decode cX3_tells 73 = .ok (.ireturn, 1) := by decide +kernel
theorem dX3_tryLine_0 : decode cX3_tryLine 0 = .ok (.aload_n 0, 1) := by decide +kernel
theorem dX3_tryLine_1 : decode cX3_tryLine 1 = .ok (.getfield 12, 3) := by decide +kernel
theorem dX3_tryLine_4 : decode cX3_tryLine 4 = .ok (.aload_n 1, 1) := by decide +kernel
theorem dX3_tryLine_5 : decode cX3_tryLine 5 = .ok (.getfield 49, 3) := by decide +kernel
theorem dX3_tryLine_8 : decode cX3_tryLine 8 = .ok (.invokevirtual 50, 3) := by decide +kernel
theorem dX3_tryLine_11 : decode cX3_tryLine 11 = .ok (.iconst 0, 1) := by decide +kernel
theorem dX3_tryLine_12 : decode cX3_tryLine 12 = .ok (.istore_n 2, 1) := by decide +kernel
theorem dX3_tryLine_13 : decode cX3_tryLine 13 = .ok (.iload_n 2, 1) := by decide +kernel
theorem dX3_tryLine_14 : decode cX3_tryLine 14 = .ok (.aload_n 0, 1) := by decide +kernel
theorem dX3_tryLine_15 : decode cX3_tryLine 15 = .ok (.getfield 25, 3) := by decide +kernel
theorem dX3_tryLine_18 : decode cX3_tryLine 18 = .ok (.if_icmp .ge 23, 3) := by decide +kernel
theorem dX3_tryLine_21 : decode cX3_tryLine 21 = .ok (.aload_n 1, 1) := by decide +kernel
theorem dX3_tryLine_22 : decode cX3_tryLine 22 = .ok (.aload_n 0, 1) := by decide +kernel
theorem dX3_tryLine_23 : decode cX3_tryLine 23 = .ok (.getfield 18, 3) := by decide +kernel
theorem dX3_tryLine_26 : decode cX3_tryLine 26 = .ok (.iload_n 2, 1) := by decide +kernel
theorem dX3_tryLine_27 : decode cX3_tryLine 27 = .ok (.iaload, 1) := by decide +kernel
theorem dX3_tryLine_28 : decode cX3_tryLine 28 = .ok (.aload_n 0, 1) := by decide +kernel
theorem dX3_tryLine_29 : decode cX3_tryLine 29 = .ok (.getfield 12, 3) := by decide +kernel
theorem dX3_tryLine_32 : decode cX3_tryLine 32 = .ok (.invokevirtual 54, 3) := by decide +kernel
theorem dX3_tryLine_35 : decode cX3_tryLine 35 = .ok (.iinc 2 1, 3) := by decide +kernel
theorem dX3_tryLine_38 : decode cX3_tryLine 38 = .ok (.goto (-25), 3) := by decide +kernel
theorem dX3_tryLine_41 : decode cX3_tryLine 41 = .ok (.aload_n 1, 1) := by decide +kernel
theorem dX3_tryLine_42 : decode cX3_tryLine 42 = .ok (.aload_n 0, 1) := by decide +kernel
theorem dX3_tryLine_43 : decode cX3_tryLine 43 = .ok (.getfield 12, 3) := by decide +kernel
theorem dX3_tryLine_46 : decode cX3_tryLine 46 = .ok (.getfield 58, 3) := by decide +kernel
theorem dX3_tryLine_49 : decode cX3_tryLine 49 = .ok (.invokevirtual 61, 3) := by decide +kernel
theorem dX3_tryLine_52 : decode cX3_tryLine 52 = .ok (.istore_n 2, 1) := by decide +kernel
theorem dX3_tryLine_53 : decode cX3_tryLine 53 = .ok (.aload_n 0, 1) := by decide +kernel
theorem dX3_tryLine_54 : decode cX3_tryLine 54 = .ok (.iload_n 2, 1) := by decide +kernel
theorem dX3_tryLine_55 : decode cX3_tryLine 55 = .ok (.invokevirtual 65, 3) := by decide +kernel
theorem dX3_tryLine_58 : decode cX3_tryLine 58 = .ok (.ifCond .eq 44, 3) := by decide +kernel
theorem dX3_tryLine_61 : decode cX3_tryLine 61 = .ok (.aload_n 0, 1) := by decide +kernel
theorem dX3_tryLine_62 : decode cX3_tryLine 62 = .ok (.iload_n 2, 1) := by decide +kernel
theorem dX3_tryLine_63 : decode cX3_tryLine 63 = .ok (.putfield 29, 3) := by decide +kernel
theorem dX3_tryLine_66 : decode cX3_tryLine 66 = .ok (.aload_n 0, 1) := by decide +kernel
theorem dX3_tryLine_67 : decode cX3_tryLine 67 = .ok (.aload_n 0, 1) := by decide +kernel
theorem dX3_tryLine_68 : decode cX3_tryLine 68 = .ok (.getfield 12, 3) := by decide +kernel
theorem dX3_tryLine_71 : decode cX3_tryLine 71 = .ok (.getfield 69, 3) := by decide +kernel
theorem dX3_tryLine_74 : decode cX3_tryLine 74 = .ok (.putfield 32, 3) := by decide +kernel
theorem dX3_tryLine_77 : decode cX3_tryLine 77 = .ok (.aload_n 0, 1) := by decide +kernel
theorem dX3_tryLine_78 : decode cX3_tryLine 78 = .ok (.aload_n 0, 1) := by decide +kernel
theorem dX3_tryLine_79 : decode cX3_tryLine 79 = .ok (.getfield 12, 3) := by decide +kernel
theorem dX3_tryLine_82 : decode cX3_tryLine 82 = .ok (.getfield 58, 3) := by decide +kernel
theorem dX3_tryLine_85 : decode cX3_tryLine 85 = .ok (.putfield 35, 3) := by decide +kernel
theorem dX3_tryLine_88 : decode cX3_tryLine 88 = .ok (.aload_n 0, 1) := by decide +kernel
theorem dX3_tryLine_89 : decode cX3_tryLine 89 = .ok (.getfield 18, 3) := by decide +kernel
theorem dX3_tryLine_92 : decode cX3_tryLine 92 = .ok (.iconst 0, 1) := by decide +kernel
theorem dX3_tryLine_93 : decode cX3_tryLine 93 = .ok (.aload_n 0, 1) := by decide +kernel
theorem dX3_tryLine_94 : decode cX3_tryLine 94 = .ok (.getfield 22, 3) := by decide +kernel
theorem dX3_tryLine_97 : decode cX3_tryLine 97 = .ok (.iconst 0, 1) := by decide +kernel
theorem dX3_tryLine_98 : decode cX3_tryLine 98 = .ok (.iconst 5, 1) := by decide +kernel
theorem dX3_tryLine_99 : decode cX3_tryLine 99 = .ok (.invokestatic 72, 3) := by decide +kernel
theorem dX3_tryLine_102 : decode cX3_tryLine 102 = .ok (.return_, 1) := by decide +kernel
theorem dX3_isBetter_0 : decode cX3_isBetter 0 = .ok (.iload_n 1, 1) := by decide +kernel
theorem dX3_isBetter_1 : decode cX3_isBetter 1 = .ok (.aload_n 0, 1) := by decide +kernel
theorem dX3_isBetter_2 : decode cX3_isBetter 2 = .ok (.getfield 29, 3) := by decide +kernel
theorem dX3_isBetter_5 : decode cX3_isBetter 5 = .ok (.if_icmp .eq 17, 3) := by decide +kernel
theorem dX3_isBetter_8 : decode cX3_isBetter 8 = .ok (.iload_n 1, 1) := by decide +kernel
theorem dX3_isBetter_9 : decode cX3_isBetter 9 = .ok (.aload_n 0, 1) := by decide +kernel
theorem dX3_isBetter_10 : decode cX3_isBetter 10 = .ok (.getfield 29, 3) := by decide +kernel
theorem dX3_isBetter_13 : decode cX3_isBetter 13 = .ok (.if_icmp .le 7, 3) := by decide +kernel
theorem dX3_isBetter_16 : decode cX3_isBetter 16 = .ok (.iconst 1, 1) := by decide +kernel
theorem dX3_isBetter_17 : decode cX3_isBetter 17 = .ok (.goto 4, 3) := by decide +kernel
theorem dX3_isBetter_20 : decode cX3_isBetter 20 = .ok (.iconst 0, 1) := by decide +kernel
theorem dX3_isBetter_21 : decode cX3_isBetter 21 = .ok (.ireturn, 1) := by decide +kernel
theorem dX3_isBetter_22 : decode cX3_isBetter 22 = .ok (.aload_n 0, 1) := by decide +kernel
theorem dX3_isBetter_23 : decode cX3_isBetter 23 = .ok (.getfield 12, 3) := by decide +kernel
theorem dX3_isBetter_26 : decode cX3_isBetter 26 = .ok (.getfield 69, 3) := by decide +kernel
theorem dX3_isBetter_29 : decode cX3_isBetter 29 = .ok (.aload_n 0, 1) := by decide +kernel
theorem dX3_isBetter_30 : decode cX3_isBetter 30 = .ok (.getfield 32, 3) := by decide +kernel
theorem dX3_isBetter_33 : decode cX3_isBetter 33 = .ok (.if_icmp .eq 23, 3) := by decide +kernel
theorem dX3_isBetter_36 : decode cX3_isBetter 36 = .ok (.aload_n 0, 1) := by decide +kernel
theorem dX3_isBetter_37 : decode cX3_isBetter 37 = .ok (.getfield 12, 3) := by decide +kernel
theorem dX3_isBetter_40 : decode cX3_isBetter 40 = .ok (.getfield 69, 3) := by decide +kernel
theorem dX3_isBetter_43 : decode cX3_isBetter 43 = .ok (.aload_n 0, 1) := by decide +kernel
theorem dX3_isBetter_44 : decode cX3_isBetter 44 = .ok (.getfield 32, 3) := by decide +kernel
theorem dX3_isBetter_47 : decode cX3_isBetter 47 = .ok (.if_icmp .ge 7, 3) := by decide +kernel
theorem dX3_isBetter_50 : decode cX3_isBetter 50 = .ok (.iconst 1, 1) := by decide +kernel
theorem dX3_isBetter_51 : decode cX3_isBetter 51 = .ok (.goto 4, 3) := by decide +kernel
theorem dX3_isBetter_54 : decode cX3_isBetter 54 = .ok (.iconst 0, 1) := by decide +kernel
theorem dX3_isBetter_55 : decode cX3_isBetter 55 = .ok (.ireturn, 1) := by decide +kernel
theorem dX3_isBetter_56 : decode cX3_isBetter 56 = .ok (.aload_n 0, 1) := by decide +kernel
theorem dX3_isBetter_57 : decode cX3_isBetter 57 = .ok (.getfield 12, 3) := by decide +kernel
theorem dX3_isBetter_60 : decode cX3_isBetter 60 = .ok (.getfield 58, 3) := by decide +kernel
theorem dX3_isBetter_63 : decode cX3_isBetter 63 = .ok (.aload_n 0, 1) := by decide +kernel
theorem dX3_isBetter_64 : decode cX3_isBetter 64 = .ok (.getfield 35, 3) := by decide +kernel
theorem dX3_isBetter_67 : decode cX3_isBetter 67 = .ok (.if_icmp .le 7, 3) := by decide +kernel
theorem dX3_isBetter_70 : decode cX3_isBetter 70 = .ok (.iconst 1, 1) := by decide +kernel
theorem dX3_isBetter_71 : decode cX3_isBetter 71 = .ok (.goto 4, 3) := by decide +kernel
theorem dX3_isBetter_74 : decode cX3_isBetter 74 = .ok (.iconst 0, 1) := by decide +kernel
theorem dX3_isBetter_75 : decode cX3_isBetter 75 = .ok (.ireturn, 1) := by decide +kernel
theorem dX3_nextLine_0 : decode cX3_nextLine 0 = .ok (.aload_n 0, 1) := by decide +kernel
theorem dX3_nextLine_1 : decode cX3_nextLine 1 = .ok (.getfield 25, 3) := by decide +kernel
theorem dX3_nextLine_4 : decode cX3_nextLine 4 = .ok (.iconst 2, 1) := by decide +kernel
theorem dX3_nextLine_5 : decode cX3_nextLine 5 = .ok (.isub, 1) := by decide +kernel
theorem dX3_nextLine_6 : decode cX3_nextLine 6 = .ok (.istore_n 1, 1) := by decide +kernel
theorem dX3_nextLine_7 : decode cX3_nextLine 7 = .ok (.iload_n 1, 1) := by decide +kernel
theorem dX3_nextLine_8 : decode cX3_nextLine 8 = .ok (.ifCond .lt 26, 3) := by decide +kernel
theorem dX3_nextLine_11 : decode cX3_nextLine 11 = .ok (.aload_n 0, 1) := by decide +kernel
theorem dX3_nextLine_12 : decode cX3_nextLine 12 = .ok (.getfield 18, 3) := by decide +kernel
theorem dX3_nextLine_15 : decode cX3_nextLine 15 = .ok (.iload_n 1, 1) := by decide +kernel
theorem dX3_nextLine_16 : decode cX3_nextLine 16 = .ok (.iaload, 1) := by decide +kernel
theorem dX3_nextLine_17 : decode cX3_nextLine 17 = .ok (.aload_n 0, 1) := by decide +kernel
theorem dX3_nextLine_18 : decode cX3_nextLine 18 = .ok (.getfield 18, 3) := by decide +kernel
theorem dX3_nextLine_21 : decode cX3_nextLine 21 = .ok (.iload_n 1, 1) := by decide +kernel
theorem dX3_nextLine_22 : decode cX3_nextLine 22 = .ok (.iconst 1, 1) := by decide +kernel
theorem dX3_nextLine_23 : decode cX3_nextLine 23 = .ok (.iadd, 1) := by decide +kernel
theorem dX3_nextLine_24 : decode cX3_nextLine 24 = .ok (.iaload, 1) := by decide +kernel
theorem dX3_nextLine_25 : decode cX3_nextLine 25 = .ok (.if_icmp .le 9, 3) := by decide +kernel
theorem dX3_nextLine_28 : decode cX3_nextLine 28 = .ok (.iinc 1 (-1), 3) := by decide +kernel
theorem dX3_nextLine_31 : decode cX3_nextLine 31 = .ok (.goto (-24), 3) := by decide +kernel
theorem dX3_nextLine_34 : decode cX3_nextLine 34 = .ok (.iload_n 1, 1) := by decide +kernel
theorem dX3_nextLine_35 : decode cX3_nextLine 35 = .ok (.ifCond .ge 5, 3) := by decide +kernel
theorem dX3_nextLine_38 : decode cX3_nextLine 38 = .ok (.iconst 0, 1) := by decide +kernel
theorem dX3_nextLine_39 : decode cX3_nextLine 39 = .ok (.ireturn, 1) := by decide +kernel
theorem dX3_nextLine_40 : decode cX3_nextLine 40 = .ok (.aload_n 0, 1) := by decide +kernel
theorem dX3_nextLine_41 : decode cX3_nextLine 41 = .ok (.getfield 25, 3) := by decide +kernel
theorem dX3_nextLine_44 : decode cX3_nextLine 44 = .ok (.iconst 1, 1) := by decide +kernel
theorem dX3_nextLine_45 : decode cX3_nextLine 45 = .ok (.isub, 1) := by decide +kernel
theorem dX3_nextLine_46 : decode cX3_nextLine 46 = .ok (.istore_n 2, 1) := by decide +kernel
theorem dX3_nextLine_47 : decode cX3_nextLine 47 = .ok (.iload_n 2, 1) := by decide +kernel
theorem dX3_nextLine_48 : decode cX3_nextLine 48 = .ok (.iload_n 1, 1) := by decide +kernel
theorem dX3_nextLine_49 : decode cX3_nextLine 49 = .ok (.if_icmp .le 24, 3) := by decide +kernel
theorem dX3_nextLine_52 : decode cX3_nextLine 52 = .ok (.aload_n 0, 1) := by decide +kernel
theorem dX3_nextLine_53 : decode cX3_nextLine 53 = .ok (.getfield 18, 3) := by decide +kernel
theorem dX3_nextLine_56 : decode cX3_nextLine 56 = .ok (.iload_n 2, 1) := by decide +kernel
theorem dX3_nextLine_57 : decode cX3_nextLine 57 = .ok (.iaload, 1) := by decide +kernel
theorem dX3_nextLine_58 : decode cX3_nextLine 58 = .ok (.aload_n 0, 1) := by decide +kernel
theorem dX3_nextLine_59 : decode cX3_nextLine 59 = .ok (.getfield 18, 3) := by decide +kernel
theorem dX3_nextLine_62 : decode cX3_nextLine 62 = .ok (.iload_n 1, 1) := by decide +kernel
theorem dX3_nextLine_63 : decode cX3_nextLine 63 = .ok (.iaload, 1) := by decide +kernel
theorem dX3_nextLine_64 : decode cX3_nextLine 64 = .ok (.if_icmp .ge 9, 3) := by decide +kernel
theorem dX3_nextLine_67 : decode cX3_nextLine 67 = .ok (.iinc 2 (-1), 3) := by decide +kernel
theorem dX3_nextLine_70 : decode cX3_nextLine 70 = .ok (.goto (-23), 3) := by decide +kernel
theorem dX3_nextLine_73 : decode cX3_nextLine 73 = .ok (.aload_n 0, 1) := by decide +kernel
theorem dX3_nextLine_74 : decode cX3_nextLine 74 = .ok (.iload_n 1, 1) := by decide +kernel
theorem dX3_nextLine_75 : decode cX3_nextLine 75 = .ok (.iload_n 2, 1) := by decide +kernel
theorem dX3_nextLine_76 : decode cX3_nextLine 76 = .ok (.invokevirtual 78, 3) := by decide +kernel
theorem dX3_nextLine_79 : decode cX3_nextLine 79 = .ok (.iload_n 1, 1) := by decide +kernel
theorem dX3_nextLine_80 : decode cX3_nextLine 80 = .ok (.iconst 1, 1) := by decide +kernel
theorem dX3_nextLine_81 : decode cX3_nextLine 81 = .ok (.iadd, 1) := by decide +kernel
theorem dX3_nextLine_82 : decode cX3_nextLine 82 = .ok (.istore_n 3, 1) := by decide +kernel
theorem dX3_nextLine_83 : decode cX3_nextLine 83 = .ok (.aload_n 0, 1) := by decide +kernel
theorem dX3_nextLine_84 : decode cX3_nextLine 84 = .ok (.getfield 25, 3) := by decide +kernel
theorem dX3_nextLine_87 : decode cX3_nextLine 87 = .ok (.iconst 1, 1) := by decide +kernel
theorem dX3_nextLine_88 : decode cX3_nextLine 88 = .ok (.isub, 1) := by decide +kernel
theorem dX3_nextLine_89 : decode cX3_nextLine 89 = .ok (.istore 4, 2) := by decide +kernel
theorem dX3_nextLine_91 : decode cX3_nextLine 91 = .ok (.iload_n 3, 1) := by decide +kernel
theorem dX3_nextLine_92 : decode cX3_nextLine 92 = .ok (.iload 4, 2) := by decide +kernel
theorem dX3_nextLine_94 : decode cX3_nextLine 94 = .ok (.if_icmp .ge 19, 3) := by decide +kernel
theorem dX3_nextLine_97 : decode cX3_nextLine 97 = .ok (.aload_n 0, 1) := by decide +kernel
theorem dX3_nextLine_98 : decode cX3_nextLine 98 = .ok (.iload_n 3, 1) := by decide +kernel
theorem dX3_nextLine_99 : decode cX3_nextLine 99 = .ok (.iload 4, 2) := by decide +kernel
theorem dX3_nextLine_101 : decode cX3_nextLine 101 = .ok (.invokevirtual 78, 3) := by decide +kernel
theorem dX3_nextLine_104 : decode cX3_nextLine 104 = .ok (.iinc 3 1, 3) := by decide +kernel
theorem dX3_nextLine_107 : decode cX3_nextLine 107 = .ok (.iinc 4 (-1), 3) := by decide +kernel
theorem dX3_nextLine_110 : decode cX3_nextLine 110 = .ok (.goto (-19), 3) := by decide +kernel
theorem dX3_nextLine_113 : decode cX3_nextLine 113 = .ok (.iconst 1, 1) := by decide +kernel
theorem dX3_nextLine_114 : decode cX3_nextLine 114 = .ok (.ireturn, 1) := by decide +kernel
theorem dX3_swap_0 : decode cX3_swap 0 = .ok (.aload_n 0, 1) := by decide +kernel
theorem dX3_swap_1 : decode cX3_swap 1 = .ok (.getfield 18, 3) := by decide +kernel
theorem dX3_swap_4 : decode cX3_swap 4 = .ok (.iload_n 1, 1) := by decide +kernel
theorem dX3_swap_5 : decode cX3_swap 5 = .ok (.iaload, 1) := by decide +kernel
theorem dX3_swap_6 : decode cX3_swap 6 = .ok (.istore_n 3, 1) := by decide +kernel
theorem dX3_swap_7 : decode cX3_swap 7 = .ok (.aload_n 0, 1) := by decide +kernel
theorem dX3_swap_8 : decode cX3_swap 8 = .ok (.getfield 18, 3) := by decide +kernel
theorem dX3_swap_11 : decode cX3_swap 11 = .ok (.iload_n 1, 1) := by decide +kernel
theorem dX3_swap_12 : decode cX3_swap 12 = .ok (.aload_n 0, 1) := by decide +kernel
theorem dX3_swap_13 : decode cX3_swap 13 = .ok (.getfield 18, 3) := by decide +kernel
theorem dX3_swap_16 : decode cX3_swap 16 = .ok (.iload_n 2, 1) := by decide +kernel
theorem dX3_swap_17 : decode cX3_swap 17 = .ok (.iaload, 1) := by decide +kernel
theorem dX3_swap_18 : decode cX3_swap 18 = .ok (.iastore, 1) := by decide +kernel
theorem dX3_swap_19 : decode cX3_swap 19 = .ok (.aload_n 0, 1) := by decide +kernel
theorem dX3_swap_20 : decode cX3_swap 20 = .ok (.getfield 18, 3) := by decide +kernel
theorem dX3_swap_23 : decode cX3_swap 23 = .ok (.iload_n 2, 1) := by decide +kernel
theorem dX3_swap_24 : decode cX3_swap 24 = .ok (.iload_n 3, 1) := by decide +kernel
theorem dX3_swap_25 : decode cX3_swap 25 = .ok (.iastore, 1) := by decide +kernel
theorem dX3_swap_26 : decode cX3_swap 26 = .ok (.return_, 1) := by decide +kernel
theorem dX4_init_0 : decode cX4_init 0 = .ok (.aload_n 0, 1) := by decide +kernel
theorem dX4_init_1 : decode cX4_init 1 = .ok (.invokespecial 3, 3) := by decide +kernel
theorem dX4_init_4 : decode cX4_init 4 = .ok (.aload_n 0, 1) := by decide +kernel
theorem dX4_init_5 : decode cX4_init 5 = .ok (.bipush 34, 2) := by decide +kernel
theorem dX4_init_7 : decode cX4_init 7 = .ok (.newarray .int, 2) := by decide +kernel
theorem dX4_init_9 : decode cX4_init 9 = .ok (.putfield 9, 3) := by decide +kernel
theorem dX4_init_12 : decode cX4_init 12 = .ok (.aload_n 0, 1) := by decide +kernel
theorem dX4_init_13 : decode cX4_init 13 = .ok (.iconst 0, 1) := by decide +kernel
theorem dX4_init_14 : decode cX4_init 14 = .ok (.putfield 15, 3) := by decide +kernel
theorem dX4_init_17 : decode cX4_init 17 = .ok (.return_, 1) := by decide +kernel
theorem dX4_put_0 : decode cX4_put 0 = .ok (.aload_n 0, 1) := by decide +kernel
theorem dX4_put_1 : decode cX4_put 1 = .ok (.getfield 15, 3) := by decide +kernel
theorem dX4_put_4 : decode cX4_put 4 = .ok (.ifCond .lt 15, 3) := by decide +kernel
theorem dX4_put_7 : decode cX4_put 7 = .ok (.aload_n 0, 1) := by decide +kernel
theorem dX4_put_8 : decode cX4_put 8 = .ok (.getfield 15, 3) := by decide +kernel
theorem dX4_put_11 : decode cX4_put 11 = .ok (.aload_n 0, 1) := by decide +kernel
theorem dX4_put_12 : decode cX4_put 12 = .ok (.getfield 9, 3) := by decide +kernel
theorem dX4_put_15 : decode cX4_put 15 = .ok (.arraylength, 1) := by decide +kernel
theorem dX4_put_16 : decode cX4_put 16 = .ok (.if_icmp .lt 5, 3) := by decide +kernel
theorem dX4_put_19 : decode cX4_put 19 = .ok (.iconst 0, 1) := by decide +kernel
theorem dX4_put_20 : decode cX4_put 20 = .ok (.ireturn, 1) := by decide +kernel
theorem dX4_put_21 : decode cX4_put 21 = .ok (.aload_n 0, 1) := by decide +kernel
theorem dX4_put_22 : decode cX4_put 22 = .ok (.getfield 9, 3) := by decide +kernel
theorem dX4_put_25 : decode cX4_put 25 = .ok (.aload_n 0, 1) := by decide +kernel
theorem dX4_put_26 : decode cX4_put 26 = .ok (.getfield 15, 3) := by decide +kernel
theorem dX4_put_29 : decode cX4_put 29 = .ok (.iload_n 1, 1) := by decide +kernel
theorem dX4_put_30 : decode cX4_put 30 = .ok (.iastore, 1) := by decide +kernel
theorem dX4_put_31 : decode cX4_put 31 = .ok (.aload_n 0, 1) := by decide +kernel
theorem dX4_put_32 : decode cX4_put 32 = .ok (.dup, 1) := by decide +kernel
theorem dX4_put_33 : decode cX4_put 33 = .ok (.getfield 15, 3) := by decide +kernel
theorem dX4_put_36 : decode cX4_put 36 = .ok (.iconst 1, 1) := by decide +kernel
theorem dX4_put_37 : decode cX4_put 37 = .ok (.iadd, 1) := by decide +kernel
theorem dX4_put_38 : decode cX4_put 38 = .ok (.putfield 15, 3) := by decide +kernel
theorem dX4_put_41 : decode cX4_put 41 = .ok (.iconst 1, 1) := by decide +kernel
theorem dX4_put_42 : decode cX4_put 42 = .ok (.ireturn, 1) := by decide +kernel
theorem dX5_init_0 : decode cX5_init 0 = .ok (.aload_n 0, 1) := by decide +kernel
theorem dX5_init_1 : decode cX5_init 1 = .ok (.invokespecial 3, 3) := by decide +kernel
theorem dX5_init_4 : decode cX5_init 4 = .ok (.aload_n 0, 1) := by decide +kernel
theorem dX5_init_5 : decode cX5_init 5 = .ok (.new 9, 3) := by decide +kernel
theorem dX5_init_8 : decode cX5_init 8 = .ok (.dup, 1) := by decide +kernel
theorem dX5_init_9 : decode cX5_init 9 = .ok (.invokespecial 11, 3) := by decide +kernel
theorem dX5_init_12 : decode cX5_init 12 = .ok (.putfield 12, 3) := by decide +kernel
theorem dX5_init_15 : decode cX5_init 15 = .ok (.aload_n 0, 1) := by decide +kernel
theorem dX5_init_16 : decode cX5_init 16 = .ok (.iconst 0, 1) := by decide +kernel
theorem dX5_init_17 : decode cX5_init 17 = .ok (.putfield 18, 3) := by decide +kernel
theorem dX5_init_20 : decode cX5_init 20 = .ok (.return_, 1) := by decide +kernel
theorem dX5_read_0 : decode cX5_read 0 = .ok (.aload_n 0, 1) := by decide +kernel
theorem dX5_read_1 : decode cX5_read 1 = .ok (.getfield 12, 3) := by decide +kernel
theorem dX5_read_4 : decode cX5_read 4 = .ok (.iconst 0, 1) := by decide +kernel
theorem dX5_read_5 : decode cX5_read 5 = .ok (.putfield 22, 3) := by decide +kernel
theorem dX5_read_8 : decode cX5_read 8 = .ok (.aload_n 0, 1) := by decide +kernel
theorem dX5_read_9 : decode cX5_read 9 = .ok (.getfield 12, 3) := by decide +kernel
theorem dX5_read_12 : decode cX5_read 12 = .ok (.iconst 0, 1) := by decide +kernel
theorem dX5_read_13 : decode cX5_read 13 = .ok (.putfield 25, 3) := by decide +kernel
theorem dX5_read_16 : decode cX5_read 16 = .ok (.aload_n 0, 1) := by decide +kernel
theorem dX5_read_17 : decode cX5_read 17 = .ok (.getfield 12, 3) := by decide +kernel
theorem dX5_read_20 : decode cX5_read 20 = .ok (.iconst 0, 1) := by decide +kernel
theorem dX5_read_21 : decode cX5_read 21 = .ok (.putfield 28, 3) := by decide +kernel
theorem dX5_read_24 : decode cX5_read 24 = .ok (.aload_n 0, 1) := by decide +kernel
theorem dX5_read_25 : decode cX5_read 25 = .ok (.iconst 0, 1) := by decide +kernel
theorem dX5_read_26 : decode cX5_read 26 = .ok (.putfield 18, 3) := by decide +kernel
theorem dX5_read_29 : decode cX5_read 29 = .ok (.iconst 0, 1) := by decide +kernel
theorem dX5_read_30 : decode cX5_read 30 = .ok (.istore_n 2, 1) := by decide +kernel
theorem dX5_read_31 : decode cX5_read 31 = .ok (.iload_n 2, 1) := by decide +kernel
theorem dX5_read_32 : decode cX5_read 32 = .ok (.aload_n 1, 1) := by decide +kernel
theorem dX5_read_33 : decode cX5_read 33 = .ok (.getfield 31, 3) := by decide +kernel
theorem dX5_read_36 : decode cX5_read 36 = .ok (.if_icmp .ge 24, 3) := by decide +kernel
theorem dX5_read_39 : decode cX5_read 39 = .ok (.aload_n 0, 1) := by decide +kernel
theorem dX5_read_40 : decode cX5_read 40 = .ok (.aload_n 1, 1) := by decide +kernel
theorem dX5_read_41 : decode cX5_read 41 = .ok (.getfield 36, 3) := by decide +kernel
theorem dX5_read_44 : decode cX5_read 44 = .ok (.iload_n 2, 1) := by decide +kernel
theorem dX5_read_45 : decode cX5_read 45 = .ok (.iaload, 1) := by decide +kernel
theorem dX5_read_46 : decode cX5_read 46 = .ok (.invokevirtual 40, 3) := by decide +kernel
theorem dX5_read_49 : decode cX5_read 49 = .ok (.ifCond .ne 5, 3) := by decide +kernel
theorem dX5_read_52 : decode cX5_read 52 = .ok (.iload_n 2, 1) := by decide +kernel
theorem dX5_read_53 : decode cX5_read 53 = .ok (.ireturn, 1) := by decide +kernel
theorem dX5_read_54 : decode cX5_read 54 = .ok (.iinc 2 1, 3) := by decide +kernel
theorem dX5_read_57 : decode cX5_read 57 = .ok (.goto (-26), 3) := by decide +kernel
theorem dX5_read_60 : decode cX5_read 60 = .ok (.aload_n 1, 1) := by decide +kernel
theorem dX5_read_61 : decode cX5_read 61 = .ok (.getfield 31, 3) := by decide +kernel
theorem dX5_read_64 : decode cX5_read 64 = .ok (.ireturn, 1) := by decide +kernel
theorem dX5_isWhole_0 : decode cX5_isWhole 0 = .ok (.aload_n 0, 1) := by decide +kernel
theorem dX5_isWhole_1 : decode cX5_isWhole 1 = .ok (.getfield 18, 3) := by decide +kernel
theorem dX5_isWhole_4 : decode cX5_isWhole 4 = .ok (.bipush 6, 2) := by decide +kernel
theorem dX5_isWhole_6 : decode cX5_isWhole 6 = .ok (.if_icmp .ne 18, 3) := by decide +kernel
theorem dX5_isWhole_9 : decode cX5_isWhole 9 = .ok (.aload_n 0, 1) := by decide +kernel
theorem dX5_isWhole_10 : decode cX5_isWhole 10 = .ok (.getfield 12, 3) := by decide +kernel
theorem dX5_isWhole_13 : decode cX5_isWhole 13 = .ok (.getfield 28, 3) := by decide +kernel
theorem dX5_isWhole_16 : decode cX5_isWhole 16 = .ok (.iconst 2, 1) := by decide +kernel
theorem dX5_isWhole_17 : decode cX5_isWhole 17 = .ok (.if_icmp .lt 7, 3) := by decide +kernel
theorem dX5_isWhole_20 : decode cX5_isWhole 20 = .ok (.iconst 1, 1) := by decide +kernel
theorem dX5_isWhole_21 : decode cX5_isWhole 21 = .ok (.goto 4, 3) := by decide +kernel
theorem dX5_isWhole_24 : decode cX5_isWhole 24 = .ok (.iconst 0, 1) := by decide +kernel
theorem dX5_isWhole_25 : decode cX5_isWhole 25 = .ok (.ireturn, 1) := by decide +kernel
theorem dX5_takes_0 : decode cX5_takes 0 = .ok (.aload_n 0, 1) := by decide +kernel
theorem dX5_takes_1 : decode cX5_takes 1 = .ok (.getfield 18, 3) := by decide +kernel
theorem dX5_takes_4 : decode cX5_takes 4 = .ok (.tableswitch 143 0 5 #[40, 62, 71, 80, 125, 134], 40) := by decide +kernel
theorem dX5_takes_44 : decode cX5_takes 44 = .ok (.iload_n 1, 1) := by decide +kernel
theorem dX5_takes_45 : decode cX5_takes 45 = .ok (.bipush 59, 2) := by decide +kernel
theorem dX5_takes_47 : decode cX5_takes 47 = .ok (.if_icmp .ne 10, 3) := by decide +kernel
theorem dX5_takes_50 : decode cX5_takes 50 = .ok (.aload_n 0, 1) := by decide +kernel
theorem dX5_takes_51 : decode cX5_takes 51 = .ok (.invokevirtual 44, 3) := by decide +kernel
theorem dX5_takes_54 : decode cX5_takes 54 = .ok (.goto 11, 3) := by decide +kernel
theorem dX5_takes_57 : decode cX5_takes 57 = .ok (.aload_n 0, 1) := by decide +kernel
theorem dX5_takes_58 : decode cX5_takes 58 = .ok (.iload_n 1, 1) := by decide +kernel
theorem dX5_takes_59 : decode cX5_takes 59 = .ok (.bipush 48, 2) := by decide +kernel
theorem dX5_takes_61 : decode cX5_takes 61 = .ok (.isub, 1) := by decide +kernel
theorem dX5_takes_62 : decode cX5_takes 62 = .ok (.invokevirtual 48, 3) := by decide +kernel
theorem dX5_takes_65 : decode cX5_takes 65 = .ok (.ireturn, 1) := by decide +kernel
theorem dX5_takes_66 : decode cX5_takes 66 = .ok (.aload_n 0, 1) := by decide +kernel
theorem dX5_takes_67 : decode cX5_takes 67 = .ok (.iload_n 1, 1) := by decide +kernel
theorem dX5_takes_68 : decode cX5_takes 68 = .ok (.bipush 48, 2) := by decide +kernel
theorem dX5_takes_70 : decode cX5_takes 70 = .ok (.isub, 1) := by decide +kernel
theorem dX5_takes_71 : decode cX5_takes 71 = .ok (.invokevirtual 51, 3) := by decide +kernel
theorem dX5_takes_74 : decode cX5_takes 74 = .ok (.ireturn, 1) := by decide +kernel
theorem dX5_takes_75 : decode cX5_takes 75 = .ok (.aload_n 0, 1) := by decide +kernel
theorem dX5_takes_76 : decode cX5_takes 76 = .ok (.iload_n 1, 1) := by decide +kernel
theorem dX5_takes_77 : decode cX5_takes 77 = .ok (.bipush 48, 2) := by decide +kernel
theorem dX5_takes_79 : decode cX5_takes 79 = .ok (.isub, 1) := by decide +kernel
theorem dX5_takes_80 : decode cX5_takes 80 = .ok (.invokevirtual 54, 3) := by decide +kernel
theorem dX5_takes_83 : decode cX5_takes 83 = .ok (.ireturn, 1) := by decide +kernel
theorem dX5_takes_84 : decode cX5_takes 84 = .ok (.iload_n 1, 1) := by decide +kernel
theorem dX5_takes_85 : decode cX5_takes 85 = .ok (.bipush 59, 2) := by decide +kernel
theorem dX5_takes_87 : decode cX5_takes 87 = .ok (.if_icmp .ne 11, 3) := by decide +kernel
theorem dX5_takes_90 : decode cX5_takes 90 = .ok (.aload_n 0, 1) := by decide +kernel
theorem dX5_takes_91 : decode cX5_takes 91 = .ok (.iconst 4, 1) := by decide +kernel
theorem dX5_takes_92 : decode cX5_takes 92 = .ok (.invokevirtual 57, 3) := by decide +kernel
theorem dX5_takes_95 : decode cX5_takes 95 = .ok (.goto 33, 3) := by decide +kernel
theorem dX5_takes_98 : decode cX5_takes 98 = .ok (.iload_n 1, 1) := by decide +kernel
theorem dX5_takes_99 : decode cX5_takes 99 = .ok (.bipush 44, 2) := by decide +kernel
theorem dX5_takes_101 : decode cX5_takes 101 = .ok (.if_icmp .ne 26, 3) := by decide +kernel
theorem dX5_takes_104 : decode cX5_takes 104 = .ok (.aload_n 0, 1) := by decide +kernel
theorem dX5_takes_105 : decode cX5_takes 105 = .ok (.getfield 12, 3) := by decide +kernel
theorem dX5_takes_108 : decode cX5_takes 108 = .ok (.getfield 25, 3) := by decide +kernel
theorem dX5_takes_111 : decode cX5_takes 111 = .ok (.iconst 3, 1) := by decide +kernel
theorem dX5_takes_112 : decode cX5_takes 112 = .ok (.if_icmp .ge 15, 3) := by decide +kernel
theorem dX5_takes_115 : decode cX5_takes 115 = .ok (.aload_n 0, 1) := by decide +kernel
theorem dX5_takes_116 : decode cX5_takes 116 = .ok (.iconst 1, 1) := by decide +kernel
theorem dX5_takes_117 : decode cX5_takes 117 = .ok (.invokevirtual 57, 3) := by decide +kernel
theorem dX5_takes_120 : decode cX5_takes 120 = .ok (.ifCond .eq 7, 3) := by decide +kernel
theorem dX5_takes_123 : decode cX5_takes 123 = .ok (.iconst 1, 1) := by decide +kernel
theorem dX5_takes_124 : decode cX5_takes 124 = .ok (.goto 4, 3) := by decide +kernel
theorem dX5_takes_127 : decode cX5_takes 127 = .ok (.iconst 0, 1) := by decide +kernel
theorem dX5_takes_128 : decode cX5_takes 128 = .ok (.ireturn, 1) := by decide +kernel
theorem dX5_takes_129 : decode cX5_takes 129 = .ok (.aload_n 0, 1) := by decide +kernel
theorem dX5_takes_130 : decode cX5_takes 130 = .ok (.iload_n 1, 1) := by decide +kernel
theorem dX5_takes_131 : decode cX5_takes 131 = .ok (.invokestatic 60, 3) := by decide +kernel
theorem dX5_takes_134 : decode cX5_takes 134 = .ok (.invokevirtual 64, 3) := by decide +kernel
theorem dX5_takes_137 : decode cX5_takes 137 = .ok (.ireturn, 1) := by decide +kernel
theorem dX5_takes_138 : decode cX5_takes 138 = .ok (.aload_n 0, 1) := by decide +kernel
theorem dX5_takes_139 : decode cX5_takes 139 = .ok (.iload_n 1, 1) := by decide +kernel
theorem dX5_takes_140 : decode cX5_takes 140 = .ok (.bipush 48, 2) := by decide +kernel
theorem dX5_takes_142 : decode cX5_takes 142 = .ok (.isub, 1) := by decide +kernel
theorem dX5_takes_143 : decode cX5_takes 143 = .ok (.invokevirtual 67, 3) := by decide +kernel
theorem dX5_takes_146 : decode cX5_takes 146 = .ok (.ireturn, 1) := by decide +kernel
theorem dX5_takes_147 : decode cX5_takes 147 = .ok (.iload_n 1, 1) := by decide +kernel
theorem dX5_takes_148 : decode cX5_takes 148 = .ok (.bipush 44, 2) := by decide +kernel
theorem dX5_takes_150 : decode cX5_takes 150 = .ok (.if_icmp .ne 26, 3) := by decide +kernel
theorem dX5_takes_153 : decode cX5_takes 153 = .ok (.aload_n 0, 1) := by decide +kernel
theorem dX5_takes_154 : decode cX5_takes 154 = .ok (.getfield 12, 3) := by decide +kernel
theorem dX5_takes_157 : decode cX5_takes 157 = .ok (.getfield 28, 3) := by decide +kernel
theorem dX5_takes_160 : decode cX5_takes 160 = .ok (.iconst 5, 1) := by decide +kernel
theorem dX5_takes_161 : decode cX5_takes 161 = .ok (.if_icmp .ge 15, 3) := by decide +kernel
theorem dX5_takes_164 : decode cX5_takes 164 = .ok (.aload_n 0, 1) := by decide +kernel
theorem dX5_takes_165 : decode cX5_takes 165 = .ok (.iconst 4, 1) := by decide +kernel
theorem dX5_takes_166 : decode cX5_takes 166 = .ok (.invokevirtual 57, 3) := by decide +kernel
theorem dX5_takes_169 : decode cX5_takes 169 = .ok (.ifCond .eq 7, 3) := by decide +kernel
theorem dX5_takes_172 : decode cX5_takes 172 = .ok (.iconst 1, 1) := by decide +kernel
theorem dX5_takes_173 : decode cX5_takes 173 = .ok (.goto 4, 3) := by decide +kernel
theorem dX5_takes_176 : decode cX5_takes 176 = .ok (.iconst 0, 1) := by decide +kernel
theorem dX5_takes_177 : decode cX5_takes 177 = .ok (.ireturn, 1) := by decide +kernel
theorem dX5_goesTo_0 : decode cX5_goesTo 0 = .ok (.aload_n 0, 1) := by decide +kernel
theorem dX5_goesTo_1 : decode cX5_goesTo 1 = .ok (.iload_n 1, 1) := by decide +kernel
theorem dX5_goesTo_2 : decode cX5_goesTo 2 = .ok (.putfield 18, 3) := by decide +kernel
theorem dX5_goesTo_5 : decode cX5_goesTo 5 = .ok (.iconst 1, 1) := by decide +kernel
theorem dX5_goesTo_6 : decode cX5_goesTo 6 = .ok (.ireturn, 1) := by decide +kernel
theorem dX5_takesSand_0 : decode cX5_takesSand 0 = .ok (.iload_n 1, 1) := by decide +kernel
theorem dX5_takesSand_1 : decode cX5_takesSand 1 = .ok (.invokestatic 70, 3) := by decide +kernel
theorem dX5_takesSand_4 : decode cX5_takesSand 4 = .ok (.ifCond .eq 15, 3) := by decide +kernel
theorem dX5_takesSand_7 : decode cX5_takesSand 7 = .ok (.aload_n 0, 1) := by decide +kernel
theorem dX5_takesSand_8 : decode cX5_takesSand 8 = .ok (.getfield 12, 3) := by decide +kernel
theorem dX5_takesSand_11 : decode cX5_takesSand 11 = .ok (.getfield 22, 3) := by decide +kernel
theorem dX5_takesSand_14 : decode cX5_takesSand 14 = .ok (.bipush 8, 2) := by decide +kernel
theorem dX5_takesSand_16 : decode cX5_takesSand 16 = .ok (.if_icmp .lt 5, 3) := by decide +kernel
theorem dX5_takesSand_19 : decode cX5_takesSand 19 = .ok (.iconst 0, 1) := by decide +kernel
theorem dX5_takesSand_20 : decode cX5_takesSand 20 = .ok (.ireturn, 1) := by decide +kernel
theorem dX5_takesSand_21 : decode cX5_takesSand 21 = .ok (.aload_n 0, 1) := by decide +kernel
theorem dX5_takesSand_22 : decode cX5_takesSand 22 = .ok (.getfield 12, 3) := by decide +kernel
theorem dX5_takesSand_25 : decode cX5_takesSand 25 = .ok (.getfield 73, 3) := by decide +kernel
theorem dX5_takesSand_28 : decode cX5_takesSand 28 = .ok (.aload_n 0, 1) := by decide +kernel
theorem dX5_takesSand_29 : decode cX5_takesSand 29 = .ok (.getfield 12, 3) := by decide +kernel
theorem dX5_takesSand_32 : decode cX5_takesSand 32 = .ok (.getfield 22, 3) := by decide +kernel
theorem dX5_takesSand_35 : decode cX5_takesSand 35 = .ok (.iload_n 1, 1) := by decide +kernel
theorem dX5_takesSand_36 : decode cX5_takesSand 36 = .ok (.iastore, 1) := by decide +kernel
theorem dX5_takesSand_37 : decode cX5_takesSand 37 = .ok (.aload_n 0, 1) := by decide +kernel
theorem dX5_takesSand_38 : decode cX5_takesSand 38 = .ok (.getfield 12, 3) := by decide +kernel
theorem dX5_takesSand_41 : decode cX5_takesSand 41 = .ok (.dup, 1) := by decide +kernel
theorem dX5_takesSand_42 : decode cX5_takesSand 42 = .ok (.getfield 22, 3) := by decide +kernel
theorem dX5_takesSand_45 : decode cX5_takesSand 45 = .ok (.iconst 1, 1) := by decide +kernel
theorem dX5_takesSand_46 : decode cX5_takesSand 46 = .ok (.iadd, 1) := by decide +kernel
theorem dX5_takesSand_47 : decode cX5_takesSand 47 = .ok (.putfield 22, 3) := by decide +kernel
theorem dX5_takesSand_50 : decode cX5_takesSand 50 = .ok (.iconst 1, 1) := by decide +kernel
theorem dX5_takesSand_51 : decode cX5_takesSand 51 = .ok (.ireturn, 1) := by decide +kernel
theorem dX5_endsSands_0 : decode cX5_endsSands 0 = .ok (.aload_n 0, 1) := by decide +kernel
theorem dX5_endsSands_1 : decode cX5_endsSands 1 = .ok (.getfield 12, 3) := by decide +kernel
theorem dX5_endsSands_4 : decode cX5_endsSands 4 = .ok (.getfield 22, 3) := by decide +kernel
theorem dX5_endsSands_7 : decode cX5_endsSands 7 = .ok (.iconst 3, 1) := by decide +kernel
theorem dX5_endsSands_8 : decode cX5_endsSands 8 = .ok (.if_icmp .lt 15, 3) := by decide +kernel
theorem dX5_endsSands_11 : decode cX5_endsSands 11 = .ok (.aload_n 0, 1) := by decide +kernel
theorem dX5_endsSands_12 : decode cX5_endsSands 12 = .ok (.iconst 1, 1) := by decide +kernel
theorem dX5_endsSands_13 : decode cX5_endsSands 13 = .ok (.invokevirtual 57, 3) := by decide +kernel
theorem dX5_endsSands_16 : decode cX5_endsSands 16 = .ok (.ifCond .eq 7, 3) := by decide +kernel
theorem dX5_endsSands_19 : decode cX5_endsSands 19 = .ok (.iconst 1, 1) := by decide +kernel
theorem dX5_endsSands_20 : decode cX5_endsSands 20 = .ok (.goto 4, 3) := by decide +kernel
theorem dX5_endsSands_23 : decode cX5_endsSands 23 = .ok (.iconst 0, 1) := by decide +kernel
theorem dX5_endsSands_24 : decode cX5_endsSands 24 = .ok (.ireturn, 1) := by decide +kernel
theorem dX5_takesBoat_0 : decode cX5_takesBoat 0 = .ok (.aload_n 0, 1) := by decide +kernel
theorem dX5_takesBoat_1 : decode cX5_takesBoat 1 = .ok (.getfield 12, 3) := by decide +kernel
theorem dX5_takesBoat_4 : decode cX5_takesBoat 4 = .ok (.iload_n 1, 1) := by decide +kernel
theorem dX5_takesBoat_5 : decode cX5_takesBoat 5 = .ok (.invokevirtual 76, 3) := by decide +kernel
theorem dX5_takesBoat_8 : decode cX5_takesBoat 8 = .ok (.ifCond .eq 14, 3) := by decide +kernel
theorem dX5_takesBoat_11 : decode cX5_takesBoat 11 = .ok (.aload_n 0, 1) := by decide +kernel
theorem dX5_takesBoat_12 : decode cX5_takesBoat 12 = .ok (.getfield 12, 3) := by decide +kernel
theorem dX5_takesBoat_15 : decode cX5_takesBoat 15 = .ok (.getfield 25, 3) := by decide +kernel
theorem dX5_takesBoat_18 : decode cX5_takesBoat 18 = .ok (.iconst 3, 1) := by decide +kernel
theorem dX5_takesBoat_19 : decode cX5_takesBoat 19 = .ok (.if_icmp .lt 5, 3) := by decide +kernel
theorem dX5_takesBoat_22 : decode cX5_takesBoat 22 = .ok (.iconst 0, 1) := by decide +kernel
theorem dX5_takesBoat_23 : decode cX5_takesBoat 23 = .ok (.ireturn, 1) := by decide +kernel
theorem dX5_takesBoat_24 : decode cX5_takesBoat 24 = .ok (.aload_n 0, 1) := by decide +kernel
theorem dX5_takesBoat_25 : decode cX5_takesBoat 25 = .ok (.getfield 12, 3) := by decide +kernel
theorem dX5_takesBoat_28 : decode cX5_takesBoat 28 = .ok (.getfield 79, 3) := by decide +kernel
theorem dX5_takesBoat_31 : decode cX5_takesBoat 31 = .ok (.aload_n 0, 1) := by decide +kernel
theorem dX5_takesBoat_32 : decode cX5_takesBoat 32 = .ok (.getfield 12, 3) := by decide +kernel
theorem dX5_takesBoat_35 : decode cX5_takesBoat 35 = .ok (.getfield 25, 3) := by decide +kernel
theorem dX5_takesBoat_38 : decode cX5_takesBoat 38 = .ok (.iload_n 1, 1) := by decide +kernel
theorem dX5_takesBoat_39 : decode cX5_takesBoat 39 = .ok (.iastore, 1) := by decide +kernel
theorem dX5_takesBoat_40 : decode cX5_takesBoat 40 = .ok (.aload_n 0, 1) := by decide +kernel
theorem dX5_takesBoat_41 : decode cX5_takesBoat 41 = .ok (.iconst 2, 1) := by decide +kernel
theorem dX5_takesBoat_42 : decode cX5_takesBoat 42 = .ok (.invokevirtual 57, 3) := by decide +kernel
theorem dX5_takesBoat_45 : decode cX5_takesBoat 45 = .ok (.ireturn, 1) := by decide +kernel
theorem dX5_takesDepth_0 : decode cX5_takesDepth 0 = .ok (.iload_n 1, 1) := by decide +kernel
theorem dX5_takesDepth_1 : decode cX5_takesDepth 1 = .ok (.invokestatic 70, 3) := by decide +kernel
theorem dX5_takesDepth_4 : decode cX5_takesDepth 4 = .ok (.ifCond .eq 14, 3) := by decide +kernel
theorem dX5_takesDepth_7 : decode cX5_takesDepth 7 = .ok (.aload_n 0, 1) := by decide +kernel
theorem dX5_takesDepth_8 : decode cX5_takesDepth 8 = .ok (.getfield 12, 3) := by decide +kernel
theorem dX5_takesDepth_11 : decode cX5_takesDepth 11 = .ok (.getfield 25, 3) := by decide +kernel
theorem dX5_takesDepth_14 : decode cX5_takesDepth 14 = .ok (.iconst 3, 1) := by decide +kernel
theorem dX5_takesDepth_15 : decode cX5_takesDepth 15 = .ok (.if_icmp .lt 5, 3) := by decide +kernel
theorem dX5_takesDepth_18 : decode cX5_takesDepth 18 = .ok (.iconst 0, 1) := by decide +kernel
theorem dX5_takesDepth_19 : decode cX5_takesDepth 19 = .ok (.ireturn, 1) := by decide +kernel
theorem dX5_takesDepth_20 : decode cX5_takesDepth 20 = .ok (.aload_n 0, 1) := by decide +kernel
theorem dX5_takesDepth_21 : decode cX5_takesDepth 21 = .ok (.getfield 12, 3) := by decide +kernel
theorem dX5_takesDepth_24 : decode cX5_takesDepth 24 = .ok (.getfield 82, 3) := by decide +kernel
theorem dX5_takesDepth_27 : decode cX5_takesDepth 27 = .ok (.aload_n 0, 1) := by decide +kernel
theorem dX5_takesDepth_28 : decode cX5_takesDepth 28 = .ok (.getfield 12, 3) := by decide +kernel
theorem dX5_takesDepth_31 : decode cX5_takesDepth 31 = .ok (.getfield 25, 3) := by decide +kernel
theorem dX5_takesDepth_34 : decode cX5_takesDepth 34 = .ok (.iload_n 1, 1) := by decide +kernel
theorem dX5_takesDepth_35 : decode cX5_takesDepth 35 = .ok (.iastore, 1) := by decide +kernel
theorem dX5_takesDepth_36 : decode cX5_takesDepth 36 = .ok (.aload_n 0, 1) := by decide +kernel
theorem dX5_takesDepth_37 : decode cX5_takesDepth 37 = .ok (.getfield 12, 3) := by decide +kernel
theorem dX5_takesDepth_40 : decode cX5_takesDepth 40 = .ok (.dup, 1) := by decide +kernel
theorem dX5_takesDepth_41 : decode cX5_takesDepth 41 = .ok (.getfield 25, 3) := by decide +kernel
theorem dX5_takesDepth_44 : decode cX5_takesDepth 44 = .ok (.iconst 1, 1) := by decide +kernel
theorem dX5_takesDepth_45 : decode cX5_takesDepth 45 = .ok (.iadd, 1) := by decide +kernel
theorem dX5_takesDepth_46 : decode cX5_takesDepth 46 = .ok (.putfield 25, 3) := by decide +kernel
theorem dX5_takesDepth_49 : decode cX5_takesDepth 49 = .ok (.aload_n 0, 1) := by decide +kernel
theorem dX5_takesDepth_50 : decode cX5_takesDepth 50 = .ok (.iconst 3, 1) := by decide +kernel
theorem dX5_takesDepth_51 : decode cX5_takesDepth 51 = .ok (.invokevirtual 57, 3) := by decide +kernel
theorem dX5_takesDepth_54 : decode cX5_takesDepth 54 = .ok (.ireturn, 1) := by decide +kernel
theorem dX5_takesAsker_0 : decode cX5_takesAsker 0 = .ok (.iload_n 1, 1) := by decide +kernel
theorem dX5_takesAsker_1 : decode cX5_takesAsker 1 = .ok (.invokestatic 85, 3) := by decide +kernel
theorem dX5_takesAsker_4 : decode cX5_takesAsker 4 = .ok (.ifCond .eq 14, 3) := by decide +kernel
theorem dX5_takesAsker_7 : decode cX5_takesAsker 7 = .ok (.aload_n 0, 1) := by decide +kernel
theorem dX5_takesAsker_8 : decode cX5_takesAsker 8 = .ok (.getfield 12, 3) := by decide +kernel
theorem dX5_takesAsker_11 : decode cX5_takesAsker 11 = .ok (.getfield 28, 3) := by decide +kernel
theorem dX5_takesAsker_14 : decode cX5_takesAsker 14 = .ok (.iconst 5, 1) := by decide +kernel
theorem dX5_takesAsker_15 : decode cX5_takesAsker 15 = .ok (.if_icmp .lt 5, 3) := by decide +kernel
theorem dX5_takesAsker_18 : decode cX5_takesAsker 18 = .ok (.iconst 0, 1) := by decide +kernel
theorem dX5_takesAsker_19 : decode cX5_takesAsker 19 = .ok (.ireturn, 1) := by decide +kernel
theorem dX5_takesAsker_20 : decode cX5_takesAsker 20 = .ok (.aload_n 0, 1) := by decide +kernel
theorem dX5_takesAsker_21 : decode cX5_takesAsker 21 = .ok (.getfield 12, 3) := by decide +kernel
theorem dX5_takesAsker_24 : decode cX5_takesAsker 24 = .ok (.getfield 88, 3) := by decide +kernel
theorem dX5_takesAsker_27 : decode cX5_takesAsker 27 = .ok (.aload_n 0, 1) := by decide +kernel
theorem dX5_takesAsker_28 : decode cX5_takesAsker 28 = .ok (.getfield 12, 3) := by decide +kernel
theorem dX5_takesAsker_31 : decode cX5_takesAsker 31 = .ok (.getfield 28, 3) := by decide +kernel
theorem dX5_takesAsker_34 : decode cX5_takesAsker 34 = .ok (.iload_n 1, 1) := by decide +kernel
theorem dX5_takesAsker_35 : decode cX5_takesAsker 35 = .ok (.iastore, 1) := by decide +kernel
theorem dX5_takesAsker_36 : decode cX5_takesAsker 36 = .ok (.aload_n 0, 1) := by decide +kernel
theorem dX5_takesAsker_37 : decode cX5_takesAsker 37 = .ok (.iconst 5, 1) := by decide +kernel
theorem dX5_takesAsker_38 : decode cX5_takesAsker 38 = .ok (.invokevirtual 57, 3) := by decide +kernel
theorem dX5_takesAsker_41 : decode cX5_takesAsker 41 = .ok (.ireturn, 1) := by decide +kernel
theorem dX5_takesManners_0 : decode cX5_takesManners 0 = .ok (.iload_n 1, 1) := by decide +kernel
theorem dX5_takesManners_1 : decode cX5_takesManners 1 = .ok (.invokestatic 70, 3) := by decide +kernel
theorem dX5_takesManners_4 : decode cX5_takesManners 4 = .ok (.ifCond .eq 14, 3) := by decide +kernel
theorem dX5_takesManners_7 : decode cX5_takesManners 7 = .ok (.aload_n 0, 1) := by decide +kernel
theorem dX5_takesManners_8 : decode cX5_takesManners 8 = .ok (.getfield 12, 3) := by decide +kernel
theorem dX5_takesManners_11 : decode cX5_takesManners 11 = .ok (.getfield 28, 3) := by decide +kernel
theorem dX5_takesManners_14 : decode cX5_takesManners 14 = .ok (.iconst 5, 1) := by decide +kernel
theorem dX5_takesManners_15 : decode cX5_takesManners 15 = .ok (.if_icmp .lt 5, 3) := by decide +kernel
theorem dX5_takesManners_18 : decode cX5_takesManners 18 = .ok (.iconst 0, 1) := by decide +kernel
theorem dX5_takesManners_19 : decode cX5_takesManners 19 = .ok (.ireturn, 1) := by decide +kernel
theorem dX5_takesManners_20 : decode cX5_takesManners 20 = .ok (.aload_n 0, 1) := by decide +kernel
theorem dX5_takesManners_21 : decode cX5_takesManners 21 = .ok (.getfield 12, 3) := by decide +kernel
theorem dX5_takesManners_24 : decode cX5_takesManners 24 = .ok (.getfield 91, 3) := by decide +kernel
theorem dX5_takesManners_27 : decode cX5_takesManners 27 = .ok (.aload_n 0, 1) := by decide +kernel
theorem dX5_takesManners_28 : decode cX5_takesManners 28 = .ok (.getfield 12, 3) := by decide +kernel
theorem dX5_takesManners_31 : decode cX5_takesManners 31 = .ok (.getfield 28, 3) := by decide +kernel
theorem dX5_takesManners_34 : decode cX5_takesManners 34 = .ok (.iload_n 1, 1) := by decide +kernel
theorem dX5_takesManners_35 : decode cX5_takesManners 35 = .ok (.iastore, 1) := by decide +kernel
theorem dX5_takesManners_36 : decode cX5_takesManners 36 = .ok (.aload_n 0, 1) := by decide +kernel
theorem dX5_takesManners_37 : decode cX5_takesManners 37 = .ok (.getfield 12, 3) := by decide +kernel
theorem dX5_takesManners_40 : decode cX5_takesManners 40 = .ok (.dup, 1) := by decide +kernel
theorem dX5_takesManners_41 : decode cX5_takesManners 41 = .ok (.getfield 28, 3) := by decide +kernel
theorem dX5_takesManners_44 : decode cX5_takesManners 44 = .ok (.iconst 1, 1) := by decide +kernel
theorem dX5_takesManners_45 : decode cX5_takesManners 45 = .ok (.iadd, 1) := by decide +kernel
theorem dX5_takesManners_46 : decode cX5_takesManners 46 = .ok (.putfield 28, 3) := by decide +kernel
theorem dX5_takesManners_49 : decode cX5_takesManners 49 = .ok (.aload_n 0, 1) := by decide +kernel
theorem dX5_takesManners_50 : decode cX5_takesManners 50 = .ok (.bipush 6, 2) := by decide +kernel
theorem dX5_takesManners_52 : decode cX5_takesManners 52 = .ok (.invokevirtual 57, 3) := by decide +kernel
theorem dX5_takesManners_55 : decode cX5_takesManners 55 = .ok (.ireturn, 1) := by decide +kernel
theorem dX5_kindOf_0 : decode cX5_kindOf 0 = .ok (.iload_n 0, 1) := by decide +kernel
theorem dX5_kindOf_1 : decode cX5_kindOf 1 = .ok (.lookupswitch 61 #[(97, 51), (102, 59), (108, 57), (114, 53), (115, 55)], 51) := by decide +kernel
theorem dX5_kindOf_52 : decode cX5_kindOf 52 = .ok (.iconst 0, 1) := by decide +kernel
theorem dX5_kindOf_53 : decode cX5_kindOf 53 = .ok (.ireturn, 1) := by decide +kernel
theorem dX5_kindOf_54 : decode cX5_kindOf 54 = .ok (.iconst 1, 1) := by decide +kernel
theorem dX5_kindOf_55 : decode cX5_kindOf 55 = .ok (.ireturn, 1) := by decide +kernel
theorem dX5_kindOf_56 : decode cX5_kindOf 56 = .ok (.iconst 2, 1) := by decide +kernel
theorem dX5_kindOf_57 : decode cX5_kindOf 57 = .ok (.ireturn, 1) := by decide +kernel
theorem dX5_kindOf_58 : decode cX5_kindOf 58 = .ok (.iconst 3, 1) := by decide +kernel
theorem dX5_kindOf_59 : decode cX5_kindOf 59 = .ok (.ireturn, 1) := by decide +kernel
theorem dX5_kindOf_60 : decode cX5_kindOf 60 = .ok (.iconst 4, 1) := by decide +kernel
theorem dX5_kindOf_61 : decode cX5_kindOf 61 = .ok (.ireturn, 1) := by decide +kernel
theorem dX5_kindOf_62 : decode cX5_kindOf 62 = .ok (.iconst (-1), 1) := by decide +kernel
theorem dX5_kindOf_63 : decode cX5_kindOf 63 = .ok (.ireturn, 1) := by decide +kernel
theorem dX6_init_0 : decode cX6_init 0 = .ok (.aload_n 0, 1) := by decide +kernel
theorem dX6_init_1 : decode cX6_init 1 = .ok (.invokespecial 3, 3) := by decide +kernel
theorem dX6_init_4 : decode cX6_init 4 = .ok (.aload_n 0, 1) := by decide +kernel
theorem dX6_init_5 : decode cX6_init 5 = .ok (.iconst 0, 1) := by decide +kernel
theorem dX6_init_6 : decode cX6_init 6 = .ok (.putfield 9, 3) := by decide +kernel
theorem dX6_init_9 : decode cX6_init 9 = .ok (.aload_n 0, 1) := by decide +kernel
theorem dX6_init_10 : decode cX6_init 10 = .ok (.iconst 0, 1) := by decide +kernel
theorem dX6_init_11 : decode cX6_init 11 = .ok (.putfield 15, 3) := by decide +kernel
theorem dX6_init_14 : decode cX6_init 14 = .ok (.aload_n 0, 1) := by decide +kernel
theorem dX6_init_15 : decode cX6_init 15 = .ok (.iconst 0, 1) := by decide +kernel
theorem dX6_init_16 : decode cX6_init 16 = .ok (.putfield 18, 3) := by decide +kernel
theorem dX6_init_19 : decode cX6_init 19 = .ok (.return_, 1) := by decide +kernel
theorem dX6_become_0 : decode cX6_become 0 = .ok (.aload_n 0, 1) := by decide +kernel
theorem dX6_become_1 : decode cX6_become 1 = .ok (.aload_n 1, 1) := by decide +kernel
theorem dX6_become_2 : decode cX6_become 2 = .ok (.getfield 9, 3) := by decide +kernel
theorem dX6_become_5 : decode cX6_become 5 = .ok (.putfield 9, 3) := by decide +kernel
theorem dX6_become_8 : decode cX6_become 8 = .ok (.aload_n 0, 1) := by decide +kernel
theorem dX6_become_9 : decode cX6_become 9 = .ok (.aload_n 1, 1) := by decide +kernel
theorem dX6_become_10 : decode cX6_become 10 = .ok (.getfield 15, 3) := by decide +kernel
theorem dX6_become_13 : decode cX6_become 13 = .ok (.putfield 15, 3) := by decide +kernel
theorem dX6_become_16 : decode cX6_become 16 = .ok (.aload_n 0, 1) := by decide +kernel
theorem dX6_become_17 : decode cX6_become 17 = .ok (.aload_n 1, 1) := by decide +kernel
theorem dX6_become_18 : decode cX6_become 18 = .ok (.getfield 18, 3) := by decide +kernel
theorem dX6_become_21 : decode cX6_become 21 = .ok (.putfield 18, 3) := by decide +kernel
theorem dX6_become_24 : decode cX6_become 24 = .ok (.return_, 1) := by decide +kernel
theorem dX6_code_0 : decode cX6_code 0 = .ok (.aload_n 0, 1) := by decide +kernel
theorem dX6_code_1 : decode cX6_code 1 = .ok (.getfield 9, 3) := by decide +kernel
theorem dX6_code_4 : decode cX6_code 4 = .ok (.bipush 10, 2) := by decide +kernel
theorem dX6_code_6 : decode cX6_code 6 = .ok (.imul, 1) := by decide +kernel
theorem dX6_code_7 : decode cX6_code 7 = .ok (.aload_n 0, 1) := by decide +kernel
theorem dX6_code_8 : decode cX6_code 8 = .ok (.getfield 15, 3) := by decide +kernel
theorem dX6_code_11 : decode cX6_code 11 = .ok (.iadd, 1) := by decide +kernel
theorem dX6_code_12 : decode cX6_code 12 = .ok (.iconst 2, 1) := by decide +kernel
theorem dX6_code_13 : decode cX6_code 13 = .ok (.imul, 1) := by decide +kernel
theorem dX6_code_14 : decode cX6_code 14 = .ok (.aload_n 0, 1) := by decide +kernel
theorem dX6_code_15 : decode cX6_code 15 = .ok (.getfield 18, 3) := by decide +kernel
theorem dX6_code_18 : decode cX6_code 18 = .ok (.ifCond .eq 7, 3) := by decide +kernel
theorem dX6_code_21 : decode cX6_code 21 = .ok (.iconst 1, 1) := by decide +kernel
theorem dX6_code_22 : decode cX6_code 22 = .ok (.goto 4, 3) := by decide +kernel
theorem dX6_code_25 : decode cX6_code 25 = .ok (.iconst 0, 1) := by decide +kernel
theorem dX6_code_26 : decode cX6_code 26 = .ok (.iadd, 1) := by decide +kernel
theorem dX6_code_27 : decode cX6_code 27 = .ok (.ireturn, 1) := by decide +kernel
theorem dX6_becomeCode_0 : decode cX6_becomeCode 0 = .ok (.iload_n 1, 1) := by decide +kernel
theorem dX6_becomeCode_1 : decode cX6_becomeCode 1 = .ok (.iconst 2, 1) := by decide +kernel
theorem dX6_becomeCode_2 : decode cX6_becomeCode 2 = .ok (.idiv, 1) := by decide +kernel
theorem dX6_becomeCode_3 : decode cX6_becomeCode 3 = .ok (.istore_n 2, 1) := by decide +kernel
theorem dX6_becomeCode_4 : decode cX6_becomeCode 4 = .ok (.aload_n 0, 1) := by decide +kernel
theorem dX6_becomeCode_5 : decode cX6_becomeCode 5 = .ok (.iload_n 2, 1) := by decide +kernel
theorem dX6_becomeCode_6 : decode cX6_becomeCode 6 = .ok (.bipush 10, 2) := by decide +kernel
theorem dX6_becomeCode_8 : decode cX6_becomeCode 8 = .ok (.idiv, 1) := by decide +kernel
theorem dX6_becomeCode_9 : decode cX6_becomeCode 9 = .ok (.putfield 9, 3) := by decide +kernel
theorem dX6_becomeCode_12 : decode cX6_becomeCode 12 = .ok (.aload_n 0, 1) := by decide +kernel
theorem dX6_becomeCode_13 : decode cX6_becomeCode 13 = .ok (.iload_n 2, 1) := by decide +kernel
theorem dX6_becomeCode_14 : decode cX6_becomeCode 14 = .ok (.bipush 10, 2) := by decide +kernel
theorem dX6_becomeCode_16 : decode cX6_becomeCode 16 = .ok (.irem, 1) := by decide +kernel
theorem dX6_becomeCode_17 : decode cX6_becomeCode 17 = .ok (.putfield 15, 3) := by decide +kernel
theorem dX6_becomeCode_20 : decode cX6_becomeCode 20 = .ok (.aload_n 0, 1) := by decide +kernel
theorem dX6_becomeCode_21 : decode cX6_becomeCode 21 = .ok (.iload_n 1, 1) := by decide +kernel
theorem dX6_becomeCode_22 : decode cX6_becomeCode 22 = .ok (.iconst 2, 1) := by decide +kernel
theorem dX6_becomeCode_23 : decode cX6_becomeCode 23 = .ok (.irem, 1) := by decide +kernel
theorem dX6_becomeCode_24 : decode cX6_becomeCode 24 = .ok (.iconst 1, 1) := by decide +kernel
theorem dX6_becomeCode_25 : decode cX6_becomeCode 25 = .ok (.if_icmp .ne 7, 3) := by decide +kernel
theorem dX6_becomeCode_28 : decode cX6_becomeCode 28 = .ok (.iconst 1, 1) := by decide +kernel
theorem dX6_becomeCode_29 : decode cX6_becomeCode 29 = .ok (.goto 4, 3) := by decide +kernel
theorem dX6_becomeCode_32 : decode cX6_becomeCode 32 = .ok (.iconst 0, 1) := by decide +kernel
theorem dX6_becomeCode_33 : decode cX6_becomeCode 33 = .ok (.putfield 18, 3) := by decide +kernel
theorem dX6_becomeCode_36 : decode cX6_becomeCode 36 = .ok (.return_, 1) := by decide +kernel
theorem dX6_hear_0 : decode cX6_hear 0 = .ok (.iconst 0, 1) := by decide +kernel
theorem dX6_hear_1 : decode cX6_hear 1 = .ok (.iload_n 2, 1) := by decide +kernel
theorem dX6_hear_2 : decode cX6_hear 2 = .ok (.aload_n 0, 1) := by decide +kernel
theorem dX6_hear_3 : decode cX6_hear 3 = .ok (.getfield 15, 3) := by decide +kernel
theorem dX6_hear_6 : decode cX6_hear 6 = .ok (.isub, 1) := by decide +kernel
theorem dX6_hear_7 : decode cX6_hear 7 = .ok (.invokestatic 22, 3) := by decide +kernel
theorem dX6_hear_10 : decode cX6_hear 10 = .ok (.istore_n 3, 1) := by decide +kernel
theorem dX6_hear_11 : decode cX6_hear 11 = .ok (.iconst 0, 1) := by decide +kernel
theorem dX6_hear_12 : decode cX6_hear 12 = .ok (.istore 4, 2) := by decide +kernel
theorem dX6_hear_14 : decode cX6_hear 14 = .ok (.iconst 0, 1) := by decide +kernel
theorem dX6_hear_15 : decode cX6_hear 15 = .ok (.istore 5, 2) := by decide +kernel
theorem dX6_hear_17 : decode cX6_hear 17 = .ok (.iload_n 1, 1) := by decide +kernel
theorem dX6_hear_18 : decode cX6_hear 18 = .ok (.tableswitch 66 1 4 #[30, 41, 52, 60], 30) := by decide +kernel
theorem dX6_hear_48 : decode cX6_hear 48 = .ok (.iload_n 3, 1) := by decide +kernel
theorem dX6_hear_49 : decode cX6_hear 49 = .ok (.iconst 3, 1) := by decide +kernel
theorem dX6_hear_50 : decode cX6_hear 50 = .ok (.idiv, 1) := by decide +kernel
theorem dX6_hear_51 : decode cX6_hear 51 = .ok (.istore 4, 2) := by decide +kernel
theorem dX6_hear_53 : decode cX6_hear 53 = .ok (.iconst 1, 1) := by decide +kernel
theorem dX6_hear_54 : decode cX6_hear 54 = .ok (.istore 5, 2) := by decide +kernel
theorem dX6_hear_56 : decode cX6_hear 56 = .ok (.goto 31, 3) := by decide +kernel
theorem dX6_hear_59 : decode cX6_hear 59 = .ok (.iconst 2, 1) := by decide +kernel
theorem dX6_hear_60 : decode cX6_hear 60 = .ok (.iload_n 3, 1) := by decide +kernel
theorem dX6_hear_61 : decode cX6_hear 61 = .ok (.imul, 1) := by decide +kernel
theorem dX6_hear_62 : decode cX6_hear 62 = .ok (.istore 4, 2) := by decide +kernel
theorem dX6_hear_64 : decode cX6_hear 64 = .ok (.iconst 1, 1) := by decide +kernel
theorem dX6_hear_65 : decode cX6_hear 65 = .ok (.istore 5, 2) := by decide +kernel
theorem dX6_hear_67 : decode cX6_hear 67 = .ok (.goto 20, 3) := by decide +kernel
theorem dX6_hear_70 : decode cX6_hear 70 = .ok (.aload_n 0, 1) := by decide +kernel
theorem dX6_hear_71 : decode cX6_hear 71 = .ok (.iconst 1, 1) := by decide +kernel
theorem dX6_hear_72 : decode cX6_hear 72 = .ok (.putfield 18, 3) := by decide +kernel
theorem dX6_hear_75 : decode cX6_hear 75 = .ok (.goto 12, 3) := by decide +kernel
theorem dX6_hear_78 : decode cX6_hear 78 = .ok (.iconst 2, 1) := by decide +kernel
theorem dX6_hear_79 : decode cX6_hear 79 = .ok (.istore 5, 2) := by decide +kernel
theorem dX6_hear_81 : decode cX6_hear 81 = .ok (.goto 6, 3) := by decide +kernel
theorem dX6_hear_84 : decode cX6_hear 84 = .ok (.iload_n 3, 1) := by decide +kernel
theorem dX6_hear_85 : decode cX6_hear 85 = .ok (.istore 4, 2) := by decide +kernel
theorem dX6_hear_87 : decode cX6_hear 87 = .ok (.aload_n 0, 1) := by decide +kernel
theorem dX6_hear_88 : decode cX6_hear 88 = .ok (.bipush 20, 2) := by decide +kernel
theorem dX6_hear_90 : decode cX6_hear 90 = .ok (.aload_n 0, 1) := by decide +kernel
theorem dX6_hear_91 : decode cX6_hear 91 = .ok (.getfield 9, 3) := by decide +kernel
theorem dX6_hear_94 : decode cX6_hear 94 = .ok (.iload 4, 2) := by decide +kernel
theorem dX6_hear_96 : decode cX6_hear 96 = .ok (.iadd, 1) := by decide +kernel
theorem dX6_hear_97 : decode cX6_hear 97 = .ok (.invokestatic 28, 3) := by decide +kernel
theorem dX6_hear_100 : decode cX6_hear 100 = .ok (.putfield 9, 3) := by decide +kernel
theorem dX6_hear_103 : decode cX6_hear 103 = .ok (.aload_n 0, 1) := by decide +kernel
theorem dX6_hear_104 : decode cX6_hear 104 = .ok (.bipush 9, 2) := by decide +kernel
theorem dX6_hear_106 : decode cX6_hear 106 = .ok (.aload_n 0, 1) := by decide +kernel
theorem dX6_hear_107 : decode cX6_hear 107 = .ok (.getfield 15, 3) := by decide +kernel
theorem dX6_hear_110 : decode cX6_hear 110 = .ok (.iload 5, 2) := by decide +kernel
theorem dX6_hear_112 : decode cX6_hear 112 = .ok (.iadd, 1) := by decide +kernel
theorem dX6_hear_113 : decode cX6_hear 113 = .ok (.invokestatic 28, 3) := by decide +kernel
theorem dX6_hear_116 : decode cX6_hear 116 = .ok (.putfield 15, 3) := by decide +kernel
theorem dX6_hear_119 : decode cX6_hear 119 = .ok (.return_, 1) := by decide +kernel
theorem dX6_hearThanks_0 : decode cX6_hearThanks 0 = .ok (.aload_n 0, 1) := by decide +kernel
theorem dX6_hearThanks_1 : decode cX6_hearThanks 1 = .ok (.getfield 18, 3) := by decide +kernel
theorem dX6_hearThanks_4 : decode cX6_hearThanks 4 = .ok (.ifCond .ne 17, 3) := by decide +kernel
theorem dX6_hearThanks_7 : decode cX6_hearThanks 7 = .ok (.aload_n 0, 1) := by decide +kernel
theorem dX6_hearThanks_8 : decode cX6_hearThanks 8 = .ok (.iconst 0, 1) := by decide +kernel
theorem dX6_hearThanks_9 : decode cX6_hearThanks 9 = .ok (.aload_n 0, 1) := by decide +kernel
theorem dX6_hearThanks_10 : decode cX6_hearThanks 10 = .ok (.getfield 9, 3) := by decide +kernel
theorem dX6_hearThanks_13 : decode cX6_hearThanks 13 = .ok (.iconst 3, 1) := by decide +kernel
theorem dX6_hearThanks_14 : decode cX6_hearThanks 14 = .ok (.isub, 1) := by decide +kernel
theorem dX6_hearThanks_15 : decode cX6_hearThanks 15 = .ok (.invokestatic 22, 3) := by decide +kernel
theorem dX6_hearThanks_18 : decode cX6_hearThanks 18 = .ok (.putfield 9, 3) := by decide +kernel
theorem dX6_hearThanks_21 : decode cX6_hearThanks 21 = .ok (.aload_n 0, 1) := by decide +kernel
theorem dX6_hearThanks_22 : decode cX6_hearThanks 22 = .ok (.iconst 0, 1) := by decide +kernel
theorem dX6_hearThanks_23 : decode cX6_hearThanks 23 = .ok (.putfield 18, 3) := by decide +kernel
theorem dX6_hearThanks_26 : decode cX6_hearThanks 26 = .ok (.aload_n 0, 1) := by decide +kernel
theorem dX6_hearThanks_27 : decode cX6_hearThanks 27 = .ok (.iconst 0, 1) := by decide +kernel
theorem dX6_hearThanks_28 : decode cX6_hearThanks 28 = .ok (.aload_n 0, 1) := by decide +kernel
theorem dX6_hearThanks_29 : decode cX6_hearThanks 29 = .ok (.getfield 15, 3) := by decide +kernel
theorem dX6_hearThanks_32 : decode cX6_hearThanks 32 = .ok (.iconst 1, 1) := by decide +kernel
theorem dX6_hearThanks_33 : decode cX6_hearThanks 33 = .ok (.isub, 1) := by decide +kernel
theorem dX6_hearThanks_34 : decode cX6_hearThanks 34 = .ok (.invokestatic 22, 3) := by decide +kernel
theorem dX6_hearThanks_37 : decode cX6_hearThanks 37 = .ok (.putfield 15, 3) := by decide +kernel
theorem dX6_hearThanks_40 : decode cX6_hearThanks 40 = .ok (.return_, 1) := by decide +kernel
theorem dX6_timesToMakeGood_0 : decode cX6_timesToMakeGood 0 = .ok (.aload_n 0, 1) := by decide +kernel
theorem dX6_timesToMakeGood_1 : decode cX6_timesToMakeGood 1 = .ok (.getfield 18, 3) := by decide +kernel
theorem dX6_timesToMakeGood_4 : decode cX6_timesToMakeGood 4 = .ok (.ifCond .eq 16, 3) := by decide +kernel
theorem dX6_timesToMakeGood_7 : decode cX6_timesToMakeGood 7 = .ok (.iconst 0, 1) := by decide +kernel
theorem dX6_timesToMakeGood_8 : decode cX6_timesToMakeGood 8 = .ok (.aload_n 0, 1) := by decide +kernel
theorem dX6_timesToMakeGood_9 : decode cX6_timesToMakeGood 9 = .ok (.getfield 15, 3) := by decide +kernel
theorem dX6_timesToMakeGood_12 : decode cX6_timesToMakeGood 12 = .ok (.iconst 1, 1) := by decide +kernel
theorem dX6_timesToMakeGood_13 : decode cX6_timesToMakeGood 13 = .ok (.isub, 1) := by decide +kernel
theorem dX6_timesToMakeGood_14 : decode cX6_timesToMakeGood 14 = .ok (.invokestatic 22, 3) := by decide +kernel
theorem dX6_timesToMakeGood_17 : decode cX6_timesToMakeGood 17 = .ok (.goto 7, 3) := by decide +kernel
theorem dX6_timesToMakeGood_20 : decode cX6_timesToMakeGood 20 = .ok (.aload_n 0, 1) := by decide +kernel
theorem dX6_timesToMakeGood_21 : decode cX6_timesToMakeGood 21 = .ok (.getfield 15, 3) := by decide +kernel
theorem dX6_timesToMakeGood_24 : decode cX6_timesToMakeGood 24 = .ok (.istore_n 1, 1) := by decide +kernel
theorem dX6_timesToMakeGood_25 : decode cX6_timesToMakeGood 25 = .ok (.aload_n 0, 1) := by decide +kernel
theorem dX6_timesToMakeGood_26 : decode cX6_timesToMakeGood 26 = .ok (.getfield 9, 3) := by decide +kernel
theorem dX6_timesToMakeGood_29 : decode cX6_timesToMakeGood 29 = .ok (.iload_n 1, 1) := by decide +kernel
theorem dX6_timesToMakeGood_30 : decode cX6_timesToMakeGood 30 = .ok (.iconst 3, 1) := by decide +kernel
theorem dX6_timesToMakeGood_31 : decode cX6_timesToMakeGood 31 = .ok (.imul, 1) := by decide +kernel
theorem dX6_timesToMakeGood_32 : decode cX6_timesToMakeGood 32 = .ok (.invokestatic 28, 3) := by decide +kernel
theorem dX6_timesToMakeGood_35 : decode cX6_timesToMakeGood 35 = .ok (.istore_n 2, 1) := by decide +kernel
theorem dX6_timesToMakeGood_36 : decode cX6_timesToMakeGood 36 = .ok (.iload_n 2, 1) := by decide +kernel
theorem dX6_timesToMakeGood_37 : decode cX6_timesToMakeGood 37 = .ok (.bipush 9, 2) := by decide +kernel
theorem dX6_timesToMakeGood_39 : decode cX6_timesToMakeGood 39 = .ok (.iadd, 1) := by decide +kernel
theorem dX6_timesToMakeGood_40 : decode cX6_timesToMakeGood 40 = .ok (.iconst 1, 1) := by decide +kernel
theorem dX6_timesToMakeGood_41 : decode cX6_timesToMakeGood 41 = .ok (.isub, 1) := by decide +kernel
theorem dX6_timesToMakeGood_42 : decode cX6_timesToMakeGood 42 = .ok (.bipush 9, 2) := by decide +kernel
theorem dX6_timesToMakeGood_44 : decode cX6_timesToMakeGood 44 = .ok (.idiv, 1) := by decide +kernel
theorem dX6_timesToMakeGood_45 : decode cX6_timesToMakeGood 45 = .ok (.istore_n 3, 1) := by decide +kernel
theorem dX6_timesToMakeGood_46 : decode cX6_timesToMakeGood 46 = .ok (.aload_n 0, 1) := by decide +kernel
theorem dX6_timesToMakeGood_47 : decode cX6_timesToMakeGood 47 = .ok (.getfield 15, 3) := by decide +kernel
theorem dX6_timesToMakeGood_50 : decode cX6_timesToMakeGood 50 = .ok (.iload_n 3, 1) := by decide +kernel
theorem dX6_timesToMakeGood_51 : decode cX6_timesToMakeGood 51 = .ok (.iadd, 1) := by decide +kernel
theorem dX6_timesToMakeGood_52 : decode cX6_timesToMakeGood 52 = .ok (.ireturn, 1) := by decide +kernel
theorem dX7_init_0 : decode cX7_init 0 = .ok (.aload_n 0, 1) := by decide +kernel
theorem dX7_init_1 : decode cX7_init 1 = .ok (.invokespecial 1, 3) := by decide +kernel
theorem dX7_init_4 : decode cX7_init 4 = .ok (.aload_n 0, 1) := by decide +kernel
theorem dX7_init_5 : decode cX7_init 5 = .ok (.new 7, 3) := by decide +kernel
theorem dX7_init_8 : decode cX7_init 8 = .ok (.dup, 1) := by decide +kernel
theorem dX7_init_9 : decode cX7_init 9 = .ok (.invokespecial 9, 3) := by decide +kernel
theorem dX7_init_12 : decode cX7_init 12 = .ok (.putfield 10, 3) := by decide +kernel
theorem dX7_init_15 : decode cX7_init 15 = .ok (.aload_n 0, 1) := by decide +kernel
theorem dX7_init_16 : decode cX7_init 16 = .ok (.iconst 0, 1) := by decide +kernel
theorem dX7_init_17 : decode cX7_init 17 = .ok (.putfield 16, 3) := by decide +kernel
theorem dX7_init_20 : decode cX7_init 20 = .ok (.aload_n 0, 1) := by decide +kernel
theorem dX7_init_21 : decode cX7_init 21 = .ok (.iconst 0, 1) := by decide +kernel
theorem dX7_init_22 : decode cX7_init 22 = .ok (.putfield 20, 3) := by decide +kernel
theorem dX7_init_25 : decode cX7_init 25 = .ok (.return_, 1) := by decide +kernel
theorem dX7_pass_0 : decode cX7_pass 0 = .ok (.aload_n 0, 1) := by decide +kernel
theorem dX7_pass_1 : decode cX7_pass 1 = .ok (.getfield 10, 3) := by decide +kernel
theorem dX7_pass_4 : decode cX7_pass 4 = .ok (.aload_n 1, 1) := by decide +kernel
theorem dX7_pass_5 : decode cX7_pass 5 = .ok (.getfield 23, 3) := by decide +kernel
theorem dX7_pass_8 : decode cX7_pass 8 = .ok (.invokevirtual 26, 3) := by decide +kernel
theorem dX7_pass_11 : decode cX7_pass 11 = .ok (.aload_n 0, 1) := by decide +kernel
theorem dX7_pass_12 : decode cX7_pass 12 = .ok (.iload_n 3, 1) := by decide +kernel
theorem dX7_pass_13 : decode cX7_pass 13 = .ok (.putfield 16, 3) := by decide +kernel
theorem dX7_pass_16 : decode cX7_pass 16 = .ok (.aload_n 0, 1) := by decide +kernel
theorem dX7_pass_17 : decode cX7_pass 17 = .ok (.iconst 0, 1) := by decide +kernel
theorem dX7_pass_18 : decode cX7_pass 18 = .ok (.putfield 20, 3) := by decide +kernel
theorem dX7_pass_21 : decode cX7_pass 21 = .ok (.iconst 0, 1) := by decide +kernel
theorem dX7_pass_22 : decode cX7_pass 22 = .ok (.istore 4, 2) := by decide +kernel
theorem dX7_pass_24 : decode cX7_pass 24 = .ok (.iload 4, 2) := by decide +kernel
theorem dX7_pass_26 : decode cX7_pass 26 = .ok (.iload_n 2, 1) := by decide +kernel
theorem dX7_pass_27 : decode cX7_pass 27 = .ok (.if_icmp .ge 63, 3) := by decide +kernel
theorem dX7_pass_30 : decode cX7_pass 30 = .ok (.aload_n 0, 1) := by decide +kernel
theorem dX7_pass_31 : decode cX7_pass 31 = .ok (.iconst 4, 1) := by decide +kernel
theorem dX7_pass_32 : decode cX7_pass 32 = .ok (.invokevirtual 30, 3) := by decide +kernel
theorem dX7_pass_35 : decode cX7_pass 35 = .ok (.ifCond .ne 13, 3) := by decide +kernel
theorem dX7_pass_38 : decode cX7_pass 38 = .ok (.aload_n 0, 1) := by decide +kernel
theorem dX7_pass_39 : decode cX7_pass 39 = .ok (.getfield 10, 3) := by decide +kernel
theorem dX7_pass_42 : decode cX7_pass 42 = .ok (.invokevirtual 34, 3) := by decide +kernel
theorem dX7_pass_45 : decode cX7_pass 45 = .ok (.goto 19, 3) := by decide +kernel
theorem dX7_pass_48 : decode cX7_pass 48 = .ok (.aload_n 1, 1) := by decide +kernel
theorem dX7_pass_49 : decode cX7_pass 49 = .ok (.aload_n 0, 1) := by decide +kernel
theorem dX7_pass_50 : decode cX7_pass 50 = .ok (.aload_n 1, 1) := by decide +kernel
theorem dX7_pass_51 : decode cX7_pass 51 = .ok (.getfield 37, 3) := by decide +kernel
theorem dX7_pass_54 : decode cX7_pass 54 = .ok (.invokevirtual 30, 3) := by decide +kernel
theorem dX7_pass_57 : decode cX7_pass 57 = .ok (.aload_n 0, 1) := by decide +kernel
theorem dX7_pass_58 : decode cX7_pass 58 = .ok (.getfield 10, 3) := by decide +kernel
theorem dX7_pass_61 : decode cX7_pass 61 = .ok (.invokevirtual 40, 3) := by decide +kernel
theorem dX7_pass_64 : decode cX7_pass 64 = .ok (.aload_n 0, 1) := by decide +kernel
theorem dX7_pass_65 : decode cX7_pass 65 = .ok (.dup, 1) := by decide +kernel
theorem dX7_pass_66 : decode cX7_pass 66 = .ok (.getfield 20, 3) := by decide +kernel
theorem dX7_pass_69 : decode cX7_pass 69 = .ok (.aload_n 1, 1) := by decide +kernel
theorem dX7_pass_70 : decode cX7_pass 70 = .ok (.aload_n 0, 1) := by decide +kernel
theorem dX7_pass_71 : decode cX7_pass 71 = .ok (.getfield 10, 3) := by decide +kernel
theorem dX7_pass_74 : decode cX7_pass 74 = .ok (.getfield 44, 3) := by decide +kernel
theorem dX7_pass_77 : decode cX7_pass 77 = .ok (.invokevirtual 47, 3) := by decide +kernel
theorem dX7_pass_80 : decode cX7_pass 80 = .ok (.iadd, 1) := by decide +kernel
theorem dX7_pass_81 : decode cX7_pass 81 = .ok (.putfield 20, 3) := by decide +kernel
theorem dX7_pass_84 : decode cX7_pass 84 = .ok (.iinc 4 1, 3) := by decide +kernel
theorem dX7_pass_87 : decode cX7_pass 87 = .ok (.goto (-63), 3) := by decide +kernel
theorem dX7_pass_90 : decode cX7_pass 90 = .ok (.return_, 1) := by decide +kernel
theorem dX7_next_0 : decode cX7_next 0 = .ok (.aload_n 0, 1) := by decide +kernel
theorem dX7_next_1 : decode cX7_next 1 = .ok (.ldc2_w 50, 3) := by decide +kernel
theorem dX7_next_4 : decode cX7_next 4 = .ok (.aload_n 0, 1) := by decide +kernel
theorem dX7_next_5 : decode cX7_next 5 = .ok (.getfield 16, 3) := by decide +kernel
theorem dX7_next_8 : decode cX7_next 8 = .ok (.i2l, 1) := by decide +kernel
theorem dX7_next_9 : decode cX7_next 9 = .ok (.lmul, 1) := by decide +kernel
theorem dX7_next_10 : decode cX7_next 10 = .ok (.ldc2_w 52, 3) := by decide +kernel
theorem dX7_next_13 : decode cX7_next 13 = .ok (.ladd, 1) := by decide +kernel
theorem dX7_next_14 : decode cX7_next 14 = .ok (.ldc2_w 54, 3) := by decide +kernel
theorem dX7_next_17 : decode cX7_next 17 = .ok (.land, 1) := by decide +kernel
theorem dX7_next_18 : decode cX7_next 18 = .ok (.l2i, 1) := by decide +kernel
theorem dX7_next_19 : decode cX7_next 19 = .ok (.putfield 16, 3) := by decide +kernel
theorem dX7_next_22 : decode cX7_next 22 = .ok (.iload_n 1, 1) := by decide +kernel
theorem dX7_next_23 : decode cX7_next 23 = .ok (.ifCond .le 15, 3) := by decide +kernel
theorem dX7_next_26 : decode cX7_next 26 = .ok (.aload_n 0, 1) := by decide +kernel
theorem dX7_next_27 : decode cX7_next 27 = .ok (.getfield 16, 3) := by decide +kernel
theorem dX7_next_30 : decode cX7_next 30 = .ok (.ldc 56, 2) := by decide +kernel
theorem dX7_next_32 : decode cX7_next 32 = .ok (.idiv, 1) := by decide +kernel
theorem dX7_next_33 : decode cX7_next 33 = .ok (.iload_n 1, 1) := by decide +kernel
theorem dX7_next_34 : decode cX7_next 34 = .ok (.irem, 1) := by decide +kernel
theorem dX7_next_35 : decode cX7_next 35 = .ok (.goto 4, 3) := by decide +kernel
