theorem dX10_oddsOf_20 : decode cX10_oddsOf 20 = .ok (.aload_n 0, 1) := by decide +kernel
theorem dX10_oddsOf_21 : decode cX10_oddsOf 21 = .ok (.getfield 96, 3) := by decide +kernel
theorem dX10_oddsOf_24 : decode cX10_oddsOf 24 = .ok (.ishl, 1) := by decide +kernel
theorem dX10_oddsOf_25 : decode cX10_oddsOf 25 = .ok (.if_icmp .ge 100, 3) := by decide +kernel
theorem dX10_oddsOf_28 : decode cX10_oddsOf 28 = .ok (.aload_n 0, 1) := by decide +kernel
theorem dX10_oddsOf_29 : decode cX10_oddsOf 29 = .ok (.invokevirtual 136, 3) := by decide +kernel
theorem dX10_oddsOf_32 : decode cX10_oddsOf 32 = .ok (.iconst 1, 1) := by decide +kernel
theorem dX10_oddsOf_33 : decode cX10_oddsOf 33 = .ok (.istore 7, 2) := by decide +kernel
theorem dX10_oddsOf_35 : decode cX10_oddsOf 35 = .ok (.iconst 0, 1) := by decide +kernel
theorem dX10_oddsOf_36 : decode cX10_oddsOf 36 = .ok (.istore 8, 2) := by decide +kernel
theorem dX10_oddsOf_38 : decode cX10_oddsOf 38 = .ok (.iload 8, 2) := by decide +kernel
theorem dX10_oddsOf_40 : decode cX10_oddsOf 40 = .ok (.aload_n 0, 1) := by decide +kernel
theorem dX10_oddsOf_41 : decode cX10_oddsOf 41 = .ok (.getfield 96, 3) := by decide +kernel
theorem dX10_oddsOf_44 : decode cX10_oddsOf 44 = .ok (.if_icmp .ge 56, 3) := by decide +kernel
theorem dX10_oddsOf_47 : decode cX10_oddsOf 47 = .ok (.iload 6, 2) := by decide +kernel
theorem dX10_oddsOf_49 : decode cX10_oddsOf 49 = .ok (.iload 8, 2) := by decide +kernel
theorem dX10_oddsOf_51 : decode cX10_oddsOf 51 = .ok (.ishr, 1) := by decide +kernel
theorem dX10_oddsOf_52 : decode cX10_oddsOf 52 = .ok (.iconst 1, 1) := by decide +kernel
theorem dX10_oddsOf_53 : decode cX10_oddsOf 53 = .ok (.iand, 1) := by decide +kernel
theorem dX10_oddsOf_54 : decode cX10_oddsOf 54 = .ok (.iconst 1, 1) := by decide +kernel
theorem dX10_oddsOf_55 : decode cX10_oddsOf 55 = .ok (.if_icmp .ne 7, 3) := by decide +kernel
theorem dX10_oddsOf_58 : decode cX10_oddsOf 58 = .ok (.iconst 1, 1) := by decide +kernel
theorem dX10_oddsOf_59 : decode cX10_oddsOf 59 = .ok (.goto 4, 3) := by decide +kernel
theorem dX10_oddsOf_62 : decode cX10_oddsOf 62 = .ok (.iconst 0, 1) := by decide +kernel
theorem dX10_oddsOf_63 : decode cX10_oddsOf 63 = .ok (.istore 9, 2) := by decide +kernel
theorem dX10_oddsOf_65 : decode cX10_oddsOf 65 = .ok (.iload 7, 2) := by decide +kernel
theorem dX10_oddsOf_67 : decode cX10_oddsOf 67 = .ok (.iload 9, 2) := by decide +kernel
theorem dX10_oddsOf_69 : decode cX10_oddsOf 69 = .ok (.ifCond .eq 7, 3) := by decide +kernel
theorem dX10_oddsOf_72 : decode cX10_oddsOf 72 = .ok (.iload_n 2, 1) := by decide +kernel
theorem dX10_oddsOf_73 : decode cX10_oddsOf 73 = .ok (.goto 7, 3) := by decide +kernel
theorem dX10_oddsOf_76 : decode cX10_oddsOf 76 = .ok (.bipush 10, 2) := by decide +kernel
theorem dX10_oddsOf_78 : decode cX10_oddsOf 78 = .ok (.iload_n 2, 1) := by decide +kernel
theorem dX10_oddsOf_79 : decode cX10_oddsOf 79 = .ok (.isub, 1) := by decide +kernel
theorem dX10_oddsOf_80 : decode cX10_oddsOf 80 = .ok (.imul, 1) := by decide +kernel
theorem dX10_oddsOf_81 : decode cX10_oddsOf 81 = .ok (.istore 7, 2) := by decide +kernel
theorem dX10_oddsOf_83 : decode cX10_oddsOf 83 = .ok (.iload 9, 2) := by decide +kernel
theorem dX10_oddsOf_85 : decode cX10_oddsOf 85 = .ok (.ifCond .eq 9, 3) := by decide +kernel
theorem dX10_oddsOf_88 : decode cX10_oddsOf 88 = .ok (.aload_n 0, 1) := by decide +kernel
theorem dX10_oddsOf_89 : decode cX10_oddsOf 89 = .ok (.iload 8, 2) := by decide +kernel
theorem dX10_oddsOf_91 : decode cX10_oddsOf 91 = .ok (.invokevirtual 158, 3) := by decide +kernel
theorem dX10_oddsOf_94 : decode cX10_oddsOf 94 = .ok (.iinc 8 1, 3) := by decide +kernel
theorem dX10_oddsOf_97 : decode cX10_oddsOf 97 = .ok (.goto (-59), 3) := by decide +kernel
theorem dX10_oddsOf_100 : decode cX10_oddsOf 100 = .ok (.iload 5, 2) := by decide +kernel
theorem dX10_oddsOf_102 : decode cX10_oddsOf 102 = .ok (.aload_n 0, 1) := by decide +kernel
theorem dX10_oddsOf_103 : decode cX10_oddsOf 103 = .ok (.iload_n 1, 1) := by decide +kernel
theorem dX10_oddsOf_104 : decode cX10_oddsOf 104 = .ok (.invokevirtual 133, 3) := by decide +kernel
theorem dX10_oddsOf_107 : decode cX10_oddsOf 107 = .ok (.ifCond .eq 8, 3) := by decide +kernel
theorem dX10_oddsOf_110 : decode cX10_oddsOf 110 = .ok (.iload 7, 2) := by decide +kernel
theorem dX10_oddsOf_112 : decode cX10_oddsOf 112 = .ok (.goto 4, 3) := by decide +kernel
theorem dX10_oddsOf_115 : decode cX10_oddsOf 115 = .ok (.iconst 0, 1) := by decide +kernel
theorem dX10_oddsOf_116 : decode cX10_oddsOf 116 = .ok (.iadd, 1) := by decide +kernel
theorem dX10_oddsOf_117 : decode cX10_oddsOf 117 = .ok (.istore 5, 2) := by decide +kernel
theorem dX10_oddsOf_119 : decode cX10_oddsOf 119 = .ok (.iinc 6 1, 3) := by decide +kernel
theorem dX10_oddsOf_122 : decode cX10_oddsOf 122 = .ok (.goto (-105), 3) := by decide +kernel
theorem dX10_oddsOf_125 : decode cX10_oddsOf 125 = .ok (.iload 4, 2) := by decide +kernel
theorem dX10_oddsOf_127 : decode cX10_oddsOf 127 = .ok (.istore 6, 2) := by decide +kernel
theorem dX10_oddsOf_129 : decode cX10_oddsOf 129 = .ok (.iload 5, 2) := by decide +kernel
theorem dX10_oddsOf_131 : decode cX10_oddsOf 131 = .ok (.istore 7, 2) := by decide +kernel
theorem dX10_oddsOf_133 : decode cX10_oddsOf 133 = .ok (.iload 7, 2) := by decide +kernel
theorem dX10_oddsOf_135 : decode cX10_oddsOf 135 = .ok (.ifCond .le 21, 3) := by decide +kernel
theorem dX10_oddsOf_138 : decode cX10_oddsOf 138 = .ok (.iload 6, 2) := by decide +kernel
theorem dX10_oddsOf_140 : decode cX10_oddsOf 140 = .ok (.iload 7, 2) := by decide +kernel
theorem dX10_oddsOf_142 : decode cX10_oddsOf 142 = .ok (.irem, 1) := by decide +kernel
theorem dX10_oddsOf_143 : decode cX10_oddsOf 143 = .ok (.istore 8, 2) := by decide +kernel
theorem dX10_oddsOf_145 : decode cX10_oddsOf 145 = .ok (.iload 7, 2) := by decide +kernel
theorem dX10_oddsOf_147 : decode cX10_oddsOf 147 = .ok (.istore 6, 2) := by decide +kernel
theorem dX10_oddsOf_149 : decode cX10_oddsOf 149 = .ok (.iload 8, 2) := by decide +kernel
theorem dX10_oddsOf_151 : decode cX10_oddsOf 151 = .ok (.istore 7, 2) := by decide +kernel
theorem dX10_oddsOf_153 : decode cX10_oddsOf 153 = .ok (.goto (-20), 3) := by decide +kernel
theorem dX10_oddsOf_156 : decode cX10_oddsOf 156 = .ok (.iload_n 3, 1) := by decide +kernel
theorem dX10_oddsOf_157 : decode cX10_oddsOf 157 = .ok (.ifCond .ne 11, 3) := by decide +kernel
theorem dX10_oddsOf_160 : decode cX10_oddsOf 160 = .ok (.iload 5, 2) := by decide +kernel
theorem dX10_oddsOf_162 : decode cX10_oddsOf 162 = .ok (.iload 6, 2) := by decide +kernel
theorem dX10_oddsOf_164 : decode cX10_oddsOf 164 = .ok (.idiv, 1) := by decide +kernel
theorem dX10_oddsOf_165 : decode cX10_oddsOf 165 = .ok (.goto 8, 3) := by decide +kernel
theorem dX10_oddsOf_168 : decode cX10_oddsOf 168 = .ok (.iload 4, 2) := by decide +kernel
theorem dX10_oddsOf_170 : decode cX10_oddsOf 170 = .ok (.iload 6, 2) := by decide +kernel
theorem dX10_oddsOf_172 : decode cX10_oddsOf 172 = .ok (.idiv, 1) := by decide +kernel
theorem dX10_oddsOf_173 : decode cX10_oddsOf 173 = .ok (.ireturn, 1) := by decide +kernel
theorem dX10_odds_0 : decode cX10_odds 0 = .ok (.aload_n 0, 1) := by decide +kernel
theorem dX10_odds_1 : decode cX10_odds 1 = .ok (.iload_n 1, 1) := by decide +kernel
theorem dX10_odds_2 : decode cX10_odds 2 = .ok (.invokevirtual 152, 3) := by decide +kernel
theorem dX10_odds_5 : decode cX10_odds 5 = .ok (.ifCond .ne 6, 3) := by decide +kernel
theorem dX10_odds_8 : decode cX10_odds 8 = .ok (.bipush (-101), 2) := by decide +kernel
theorem dX10_odds_10 : decode cX10_odds 10 = .ok (.ireturn, 1) := by decide +kernel
theorem dX10_odds_11 : decode cX10_odds 11 = .ok (.iload_n 2, 1) := by decide +kernel
theorem dX10_odds_12 : decode cX10_odds 12 = .ok (.i2l, 1) := by decide +kernel
theorem dX10_odds_13 : decode cX10_odds 13 = .ok (.lconst 0, 1) := by decide +kernel
theorem dX10_odds_14 : decode cX10_odds 14 = .ok (.ldc2_w 203, 3) := by decide +kernel
theorem dX10_odds_17 : decode cX10_odds 17 = .ok (.invokestatic 52, 3) := by decide +kernel
theorem dX10_odds_20 : decode cX10_odds 20 = .ok (.ifCond .eq 23, 3) := by decide +kernel
theorem dX10_odds_23 : decode cX10_odds 23 = .ok (.iload_n 3, 1) := by decide +kernel
theorem dX10_odds_24 : decode cX10_odds 24 = .ok (.i2l, 1) := by decide +kernel
theorem dX10_odds_25 : decode cX10_odds 25 = .ok (.lconst 0, 1) := by decide +kernel
theorem dX10_odds_26 : decode cX10_odds 26 = .ok (.lconst 1, 1) := by decide +kernel
theorem dX10_odds_27 : decode cX10_odds 27 = .ok (.invokestatic 52, 3) := by decide +kernel
theorem dX10_odds_30 : decode cX10_odds 30 = .ok (.ifCond .eq 13, 3) := by decide +kernel
theorem dX10_odds_33 : decode cX10_odds 33 = .ok (.aload_n 0, 1) := by decide +kernel
theorem dX10_odds_34 : decode cX10_odds 34 = .ok (.iload_n 1, 1) := by decide +kernel
theorem dX10_odds_35 : decode cX10_odds 35 = .ok (.iload_n 2, 1) := by decide +kernel
theorem dX10_odds_36 : decode cX10_odds 36 = .ok (.iload_n 3, 1) := by decide +kernel
theorem dX10_odds_37 : decode cX10_odds 37 = .ok (.invokevirtual 223, 3) := by decide +kernel
theorem dX10_odds_40 : decode cX10_odds 40 = .ok (.goto 5, 3) := by decide +kernel
theorem dX10_odds_43 : decode cX10_odds 43 = .ok (.bipush (-102), 2) := by decide +kernel
theorem dX10_odds_45 : decode cX10_odds 45 = .ok (.ireturn, 1) := by decide +kernel
theorem dX10_see_0 : decode cX10_see 0 = .ok (.aload_n 0, 1) := by decide +kernel
theorem dX10_see_1 : decode cX10_see 1 = .ok (.iload_n 1, 1) := by decide +kernel
theorem dX10_see_2 : decode cX10_see 2 = .ok (.invokevirtual 168, 3) := by decide +kernel
theorem dX10_see_5 : decode cX10_see 5 = .ok (.ifCond .ne 6, 3) := by decide +kernel
theorem dX10_see_8 : decode cX10_see 8 = .ok (.bipush (-101), 2) := by decide +kernel
theorem dX10_see_10 : decode cX10_see 10 = .ok (.ireturn, 1) := by decide +kernel
theorem dX10_see_11 : decode cX10_see 11 = .ok (.iload_n 2, 1) := by decide +kernel
theorem dX10_see_12 : decode cX10_see 12 = .ok (.i2l, 1) := by decide +kernel
theorem dX10_see_13 : decode cX10_see 13 = .ok (.lconst 0, 1) := by decide +kernel
theorem dX10_see_14 : decode cX10_see 14 = .ok (.ldc2_w 227, 3) := by decide +kernel
theorem dX10_see_17 : decode cX10_see 17 = .ok (.invokestatic 52, 3) := by decide +kernel
theorem dX10_see_20 : decode cX10_see 20 = .ok (.ifCond .ne 6, 3) := by decide +kernel
theorem dX10_see_23 : decode cX10_see 23 = .ok (.bipush (-102), 2) := by decide +kernel
theorem dX10_see_25 : decode cX10_see 25 = .ok (.ireturn, 1) := by decide +kernel
theorem dX10_see_26 : decode cX10_see 26 = .ok (.aload_n 0, 1) := by decide +kernel
theorem dX10_see_27 : decode cX10_see 27 = .ok (.getfield 111, 3) := by decide +kernel
theorem dX10_see_30 : decode cX10_see 30 = .ok (.bipush 6, 2) := by decide +kernel
theorem dX10_see_32 : decode cX10_see 32 = .ok (.if_icmp .ne 6, 3) := by decide +kernel
theorem dX10_see_35 : decode cX10_see 35 = .ok (.bipush (-104), 2) := by decide +kernel
theorem dX10_see_37 : decode cX10_see 37 = .ok (.ireturn, 1) := by decide +kernel
theorem dX10_see_38 : decode cX10_see 38 = .ok (.aload_n 0, 1) := by decide +kernel
theorem dX10_see_39 : decode cX10_see 39 = .ok (.getfield 28, 3) := by decide +kernel
theorem dX10_see_42 : decode cX10_see 42 = .ok (.iconst 2, 1) := by decide +kernel
theorem dX10_see_43 : decode cX10_see 43 = .ok (.aload_n 0, 1) := by decide +kernel
theorem dX10_see_44 : decode cX10_see 44 = .ok (.getfield 111, 3) := by decide +kernel
theorem dX10_see_47 : decode cX10_see 47 = .ok (.imul, 1) := by decide +kernel
theorem dX10_see_48 : decode cX10_see 48 = .ok (.iload_n 1, 1) := by decide +kernel
theorem dX10_see_49 : decode cX10_see 49 = .ok (.iastore, 1) := by decide +kernel
theorem dX10_see_50 : decode cX10_see 50 = .ok (.aload_n 0, 1) := by decide +kernel
theorem dX10_see_51 : decode cX10_see 51 = .ok (.getfield 28, 3) := by decide +kernel
theorem dX10_see_54 : decode cX10_see 54 = .ok (.iconst 2, 1) := by decide +kernel
theorem dX10_see_55 : decode cX10_see 55 = .ok (.aload_n 0, 1) := by decide +kernel
theorem dX10_see_56 : decode cX10_see 56 = .ok (.getfield 111, 3) := by decide +kernel
theorem dX10_see_59 : decode cX10_see 59 = .ok (.imul, 1) := by decide +kernel
theorem dX10_see_60 : decode cX10_see 60 = .ok (.iconst 1, 1) := by decide +kernel
theorem dX10_see_61 : decode cX10_see 61 = .ok (.iadd, 1) := by decide +kernel
theorem dX10_see_62 : decode cX10_see 62 = .ok (.iload_n 2, 1) := by decide +kernel
theorem dX10_see_63 : decode cX10_see 63 = .ok (.iastore, 1) := by decide +kernel
theorem dX10_see_64 : decode cX10_see 64 = .ok (.aload_n 0, 1) := by decide +kernel
theorem dX10_see_65 : decode cX10_see 65 = .ok (.dup, 1) := by decide +kernel
theorem dX10_see_66 : decode cX10_see 66 = .ok (.getfield 111, 3) := by decide +kernel
theorem dX10_see_69 : decode cX10_see 69 = .ok (.iconst 1, 1) := by decide +kernel
theorem dX10_see_70 : decode cX10_see 70 = .ok (.iadd, 1) := by decide +kernel
theorem dX10_see_71 : decode cX10_see 71 = .ok (.putfield 111, 3) := by decide +kernel
theorem dX10_see_74 : decode cX10_see 74 = .ok (.aload_n 0, 1) := by decide +kernel
theorem dX10_see_75 : decode cX10_see 75 = .ok (.getfield 111, 3) := by decide +kernel
theorem dX10_see_78 : decode cX10_see 78 = .ok (.ireturn, 1) := by decide +kernel
theorem dX10_forget_0 : decode cX10_forget 0 = .ok (.aload_n 0, 1) := by decide +kernel
theorem dX10_forget_1 : decode cX10_forget 1 = .ok (.getfield 111, 3) := by decide +kernel
theorem dX10_forget_4 : decode cX10_forget 4 = .ok (.istore_n 1, 1) := by decide +kernel
theorem dX10_forget_5 : decode cX10_forget 5 = .ok (.aload_n 0, 1) := by decide +kernel
theorem dX10_forget_6 : decode cX10_forget 6 = .ok (.iconst 0, 1) := by decide +kernel
theorem dX10_forget_7 : decode cX10_forget 7 = .ok (.putfield 111, 3) := by decide +kernel
theorem dX10_forget_10 : decode cX10_forget 10 = .ok (.iload_n 1, 1) := by decide +kernel
theorem dX10_forget_11 : decode cX10_forget 11 = .ok (.ireturn, 1) := by decide +kernel
theorem dX10_tideIf_0 : decode cX10_tideIf 0 = .ok (.aload_n 0, 1) := by decide +kernel
theorem dX10_tideIf_1 : decode cX10_tideIf 1 = .ok (.invokevirtual 136, 3) := by decide +kernel
theorem dX10_tideIf_4 : decode cX10_tideIf 4 = .ok (.aload_n 0, 1) := by decide +kernel
theorem dX10_tideIf_5 : decode cX10_tideIf 5 = .ok (.aload_n 0, 1) := by decide +kernel
theorem dX10_tideIf_6 : decode cX10_tideIf 6 = .ok (.getfield 22, 3) := by decide +kernel
theorem dX10_tideIf_9 : decode cX10_tideIf 9 = .ok (.iload_n 1, 1) := by decide +kernel
theorem dX10_tideIf_10 : decode cX10_tideIf 10 = .ok (.iaload, 1) := by decide +kernel
theorem dX10_tideIf_11 : decode cX10_tideIf 11 = .ok (.iload_n 2, 1) := by decide +kernel
theorem dX10_tideIf_12 : decode cX10_tideIf 12 = .ok (.invokevirtual 126, 3) := by decide +kernel
theorem dX10_tideIf_15 : decode cX10_tideIf 15 = .ok (.aload_n 0, 1) := by decide +kernel
theorem dX10_tideIf_16 : decode cX10_tideIf 16 = .ok (.getfield 117, 3) := by decide +kernel
theorem dX10_tideIf_19 : decode cX10_tideIf 19 = .ok (.ireturn, 1) := by decide +kernel
theorem dX10_mannersOf_0 : decode cX10_mannersOf 0 = .ok (.iconst 0, 1) := by decide +kernel
theorem dX10_mannersOf_1 : decode cX10_mannersOf 1 = .ok (.istore_n 2, 1) := by decide +kernel
theorem dX10_mannersOf_2 : decode cX10_mannersOf 2 = .ok (.iconst 0, 1) := by decide +kernel
theorem dX10_mannersOf_3 : decode cX10_mannersOf 3 = .ok (.istore_n 3, 1) := by decide +kernel
theorem dX10_mannersOf_4 : decode cX10_mannersOf 4 = .ok (.iload_n 3, 1) := by decide +kernel
theorem dX10_mannersOf_5 : decode cX10_mannersOf 5 = .ok (.bipush 10, 2) := by decide +kernel
theorem dX10_mannersOf_7 : decode cX10_mannersOf 7 = .ok (.if_icmp .ge 88, 3) := by decide +kernel
theorem dX10_mannersOf_10 : decode cX10_mannersOf 10 = .ok (.iconst 1, 1) := by decide +kernel
theorem dX10_mannersOf_11 : decode cX10_mannersOf 11 = .ok (.istore 4, 2) := by decide +kernel
theorem dX10_mannersOf_13 : decode cX10_mannersOf 13 = .ok (.iconst 0, 1) := by decide +kernel
theorem dX10_mannersOf_14 : decode cX10_mannersOf 14 = .ok (.istore 5, 2) := by decide +kernel
theorem dX10_mannersOf_16 : decode cX10_mannersOf 16 = .ok (.iload 5, 2) := by decide +kernel
theorem dX10_mannersOf_18 : decode cX10_mannersOf 18 = .ok (.iconst 2, 1) := by decide +kernel
theorem dX10_mannersOf_19 : decode cX10_mannersOf 19 = .ok (.aload_n 0, 1) := by decide +kernel
theorem dX10_mannersOf_20 : decode cX10_mannersOf 20 = .ok (.getfield 111, 3) := by decide +kernel
theorem dX10_mannersOf_23 : decode cX10_mannersOf 23 = .ok (.imul, 1) := by decide +kernel
theorem dX10_mannersOf_24 : decode cX10_mannersOf 24 = .ok (.if_icmp .ge 50, 3) := by decide +kernel
theorem dX10_mannersOf_27 : decode cX10_mannersOf 27 = .ok (.iload 4, 2) := by decide +kernel
theorem dX10_mannersOf_29 : decode cX10_mannersOf 29 = .ok (.ifCond .eq 36, 3) := by decide +kernel
theorem dX10_mannersOf_32 : decode cX10_mannersOf 32 = .ok (.aload_n 0, 1) := by decide +kernel
theorem dX10_mannersOf_33 : decode cX10_mannersOf 33 = .ok (.getfield 28, 3) := by decide +kernel
theorem dX10_mannersOf_36 : decode cX10_mannersOf 36 = .ok (.iload 5, 2) := by decide +kernel
theorem dX10_mannersOf_38 : decode cX10_mannersOf 38 = .ok (.iaload, 1) := by decide +kernel
theorem dX10_mannersOf_39 : decode cX10_mannersOf 39 = .ok (.iload_n 1, 1) := by decide +kernel
theorem dX10_mannersOf_40 : decode cX10_mannersOf 40 = .ok (.if_icmp .ne 21, 3) := by decide +kernel
theorem dX10_mannersOf_43 : decode cX10_mannersOf 43 = .ok (.aload_n 0, 1) := by decide +kernel
theorem dX10_mannersOf_44 : decode cX10_mannersOf 44 = .ok (.iload_n 1, 1) := by decide +kernel
theorem dX10_mannersOf_45 : decode cX10_mannersOf 45 = .ok (.iload_n 3, 1) := by decide +kernel
theorem dX10_mannersOf_46 : decode cX10_mannersOf 46 = .ok (.invokevirtual 229, 3) := by decide +kernel
theorem dX10_mannersOf_49 : decode cX10_mannersOf 49 = .ok (.aload_n 0, 1) := by decide +kernel
theorem dX10_mannersOf_50 : decode cX10_mannersOf 50 = .ok (.getfield 28, 3) := by decide +kernel
theorem dX10_mannersOf_53 : decode cX10_mannersOf 53 = .ok (.iload 5, 2) := by decide +kernel
theorem dX10_mannersOf_55 : decode cX10_mannersOf 55 = .ok (.iconst 1, 1) := by decide +kernel
theorem dX10_mannersOf_56 : decode cX10_mannersOf 56 = .ok (.iadd, 1) := by decide +kernel
theorem dX10_mannersOf_57 : decode cX10_mannersOf 57 = .ok (.iaload, 1) := by decide +kernel
theorem dX10_mannersOf_58 : decode cX10_mannersOf 58 = .ok (.if_icmp .ne 7, 3) := by decide +kernel
theorem dX10_mannersOf_61 : decode cX10_mannersOf 61 = .ok (.iconst 1, 1) := by decide +kernel
theorem dX10_mannersOf_62 : decode cX10_mannersOf 62 = .ok (.goto 4, 3) := by decide +kernel
theorem dX10_mannersOf_65 : decode cX10_mannersOf 65 = .ok (.iconst 0, 1) := by decide +kernel
theorem dX10_mannersOf_66 : decode cX10_mannersOf 66 = .ok (.istore 4, 2) := by decide +kernel
theorem dX10_mannersOf_68 : decode cX10_mannersOf 68 = .ok (.iinc 5 2, 3) := by decide +kernel
theorem dX10_mannersOf_71 : decode cX10_mannersOf 71 = .ok (.goto (-55), 3) := by decide +kernel
theorem dX10_mannersOf_74 : decode cX10_mannersOf 74 = .ok (.iload_n 2, 1) := by decide +kernel
theorem dX10_mannersOf_75 : decode cX10_mannersOf 75 = .ok (.iload 4, 2) := by decide +kernel
theorem dX10_mannersOf_77 : decode cX10_mannersOf 77 = .ok (.ifCond .eq 9, 3) := by decide +kernel
theorem dX10_mannersOf_80 : decode cX10_mannersOf 80 = .ok (.iconst 1, 1) := by decide +kernel
theorem dX10_mannersOf_81 : decode cX10_mannersOf 81 = .ok (.iload_n 3, 1) := by decide +kernel
theorem dX10_mannersOf_82 : decode cX10_mannersOf 82 = .ok (.ishl, 1) := by decide +kernel
theorem dX10_mannersOf_83 : decode cX10_mannersOf 83 = .ok (.goto 4, 3) := by decide +kernel
theorem dX10_mannersOf_86 : decode cX10_mannersOf 86 = .ok (.iconst 0, 1) := by decide +kernel
theorem dX10_mannersOf_87 : decode cX10_mannersOf 87 = .ok (.ior, 1) := by decide +kernel
theorem dX10_mannersOf_88 : decode cX10_mannersOf 88 = .ok (.istore_n 2, 1) := by decide +kernel
theorem dX10_mannersOf_89 : decode cX10_mannersOf 89 = .ok (.iinc 3 1, 3) := by decide +kernel
theorem dX10_mannersOf_92 : decode cX10_mannersOf 92 = .ok (.goto (-88), 3) := by decide +kernel
theorem dX10_mannersOf_95 : decode cX10_mannersOf 95 = .ok (.iload_n 2, 1) := by decide +kernel
theorem dX10_mannersOf_96 : decode cX10_mannersOf 96 = .ok (.ireturn, 1) := by decide +kernel
theorem dX10_manyBy_0 : decode cX10_manyBy 0 = .ok (.iconst 0, 1) := by decide +kernel
theorem dX10_manyBy_1 : decode cX10_manyBy 1 = .ok (.istore 4, 2) := by decide +kernel
theorem dX10_manyBy_3 : decode cX10_manyBy 3 = .ok (.iconst 0, 1) := by decide +kernel
theorem dX10_manyBy_4 : decode cX10_manyBy 4 = .ok (.istore 5, 2) := by decide +kernel
theorem dX10_manyBy_6 : decode cX10_manyBy 6 = .ok (.iload 5, 2) := by decide +kernel
theorem dX10_manyBy_8 : decode cX10_manyBy 8 = .ok (.bipush 10, 2) := by decide +kernel
theorem dX10_manyBy_10 : decode cX10_manyBy 10 = .ok (.if_icmp .ge 35, 3) := by decide +kernel
theorem dX10_manyBy_13 : decode cX10_manyBy 13 = .ok (.iload 4, 2) := by decide +kernel
theorem dX10_manyBy_15 : decode cX10_manyBy 15 = .ok (.aload_n 0, 1) := by decide +kernel
theorem dX10_manyBy_16 : decode cX10_manyBy 16 = .ok (.iload_n 1, 1) := by decide +kernel
theorem dX10_manyBy_17 : decode cX10_manyBy 17 = .ok (.iload 5, 2) := by decide +kernel
theorem dX10_manyBy_19 : decode cX10_manyBy 19 = .ok (.invokevirtual 229, 3) := by decide +kernel
theorem dX10_manyBy_22 : decode cX10_manyBy 22 = .ok (.iload_n 3, 1) := by decide +kernel
theorem dX10_manyBy_23 : decode cX10_manyBy 23 = .ok (.if_icmp .ne 12, 3) := by decide +kernel
theorem dX10_manyBy_26 : decode cX10_manyBy 26 = .ok (.iload_n 2, 1) := by decide +kernel
theorem dX10_manyBy_27 : decode cX10_manyBy 27 = .ok (.iload 5, 2) := by decide +kernel
theorem dX10_manyBy_29 : decode cX10_manyBy 29 = .ok (.ishr, 1) := by decide +kernel
theorem dX10_manyBy_30 : decode cX10_manyBy 30 = .ok (.iconst 1, 1) := by decide +kernel
theorem dX10_manyBy_31 : decode cX10_manyBy 31 = .ok (.iand, 1) := by decide +kernel
theorem dX10_manyBy_32 : decode cX10_manyBy 32 = .ok (.goto 4, 3) := by decide +kernel
theorem dX10_manyBy_35 : decode cX10_manyBy 35 = .ok (.iconst 0, 1) := by decide +kernel
theorem dX10_manyBy_36 : decode cX10_manyBy 36 = .ok (.iadd, 1) := by decide +kernel
theorem dX10_manyBy_37 : decode cX10_manyBy 37 = .ok (.istore 4, 2) := by decide +kernel
theorem dX10_manyBy_39 : decode cX10_manyBy 39 = .ok (.iinc 5 1, 3) := by decide +kernel
theorem dX10_manyBy_42 : decode cX10_manyBy 42 = .ok (.goto (-36), 3) := by decide +kernel
theorem dX10_manyBy_45 : decode cX10_manyBy 45 = .ok (.iload 4, 2) := by decide +kernel
theorem dX10_manyBy_47 : decode cX10_manyBy 47 = .ok (.ireturn, 1) := by decide +kernel
theorem dX10_gainOf_0 : decode cX10_gainOf 0 = .ok (.aload_n 0, 1) := by decide +kernel
theorem dX10_gainOf_1 : decode cX10_gainOf 1 = .ok (.iload_n 1, 1) := by decide +kernel
theorem dX10_gainOf_2 : decode cX10_gainOf 2 = .ok (.invokevirtual 162, 3) := by decide +kernel
theorem dX10_gainOf_5 : decode cX10_gainOf 5 = .ok (.istore_n 2, 1) := by decide +kernel
theorem dX10_gainOf_6 : decode cX10_gainOf 6 = .ok (.iconst 0, 1) := by decide +kernel
theorem dX10_gainOf_7 : decode cX10_gainOf 7 = .ok (.istore_n 3, 1) := by decide +kernel
theorem dX10_gainOf_8 : decode cX10_gainOf 8 = .ok (.iconst 0, 1) := by decide +kernel
theorem dX10_gainOf_9 : decode cX10_gainOf 9 = .ok (.istore 4, 2) := by decide +kernel
theorem dX10_gainOf_11 : decode cX10_gainOf 11 = .ok (.iload 4, 2) := by decide +kernel
theorem dX10_gainOf_13 : decode cX10_gainOf 13 = .ok (.bipush 21, 2) := by decide +kernel
theorem dX10_gainOf_15 : decode cX10_gainOf 15 = .ok (.if_icmp .ge 28, 3) := by decide +kernel
theorem dX10_gainOf_18 : decode cX10_gainOf 18 = .ok (.iload_n 3, 1) := by decide +kernel
theorem dX10_gainOf_19 : decode cX10_gainOf 19 = .ok (.aload_n 0, 1) := by decide +kernel
theorem dX10_gainOf_20 : decode cX10_gainOf 20 = .ok (.iload_n 1, 1) := by decide +kernel
theorem dX10_gainOf_21 : decode cX10_gainOf 21 = .ok (.iload_n 2, 1) := by decide +kernel
theorem dX10_gainOf_22 : decode cX10_gainOf 22 = .ok (.iload 4, 2) := by decide +kernel
theorem dX10_gainOf_24 : decode cX10_gainOf 24 = .ok (.invokevirtual 232, 3) := by decide +kernel
theorem dX10_gainOf_27 : decode cX10_gainOf 27 = .ok (.ifCond .le 7, 3) := by decide +kernel
theorem dX10_gainOf_30 : decode cX10_gainOf 30 = .ok (.iconst 1, 1) := by decide +kernel
theorem dX10_gainOf_31 : decode cX10_gainOf 31 = .ok (.goto 4, 3) := by decide +kernel
theorem dX10_gainOf_34 : decode cX10_gainOf 34 = .ok (.iconst 0, 1) := by decide +kernel
theorem dX10_gainOf_35 : decode cX10_gainOf 35 = .ok (.iadd, 1) := by decide +kernel
theorem dX10_gainOf_36 : decode cX10_gainOf 36 = .ok (.istore_n 3, 1) := by decide +kernel
theorem dX10_gainOf_37 : decode cX10_gainOf 37 = .ok (.iinc 4 1, 3) := by decide +kernel
theorem dX10_gainOf_40 : decode cX10_gainOf 40 = .ok (.goto (-29), 3) := by decide +kernel
theorem dX10_gainOf_43 : decode cX10_gainOf 43 = .ok (.iload_n 3, 1) := by decide +kernel
theorem dX10_gainOf_44 : decode cX10_gainOf 44 = .ok (.ireturn, 1) := by decide +kernel
theorem dX10_sendOf_0 : decode cX10_sendOf 0 = .ok (.iconst (-1), 1) := by decide +kernel
theorem dX10_sendOf_1 : decode cX10_sendOf 1 = .ok (.istore_n 1, 1) := by decide +kernel
theorem dX10_sendOf_2 : decode cX10_sendOf 2 = .ok (.bipush 11, 2) := by decide +kernel
theorem dX10_sendOf_4 : decode cX10_sendOf 4 = .ok (.istore_n 2, 1) := by decide +kernel
theorem dX10_sendOf_5 : decode cX10_sendOf 5 = .ok (.iconst 0, 1) := by decide +kernel
theorem dX10_sendOf_6 : decode cX10_sendOf 6 = .ok (.istore_n 3, 1) := by decide +kernel
theorem dX10_sendOf_7 : decode cX10_sendOf 7 = .ok (.iload_n 3, 1) := by decide +kernel
theorem dX10_sendOf_8 : decode cX10_sendOf 8 = .ok (.aload_n 0, 1) := by decide +kernel
theorem dX10_sendOf_9 : decode cX10_sendOf 9 = .ok (.getfield 96, 3) := by decide +kernel
theorem dX10_sendOf_12 : decode cX10_sendOf 12 = .ok (.if_icmp .ge 78, 3) := by decide +kernel
theorem dX10_sendOf_15 : decode cX10_sendOf 15 = .ok (.aload_n 0, 1) := by decide +kernel
theorem dX10_sendOf_16 : decode cX10_sendOf 16 = .ok (.iload_n 3, 1) := by decide +kernel
theorem dX10_sendOf_17 : decode cX10_sendOf 17 = .ok (.invokevirtual 162, 3) := by decide +kernel
theorem dX10_sendOf_20 : decode cX10_sendOf 20 = .ok (.istore 4, 2) := by decide +kernel
theorem dX10_sendOf_22 : decode cX10_sendOf 22 = .ok (.iconst 0, 1) := by decide +kernel
theorem dX10_sendOf_23 : decode cX10_sendOf 23 = .ok (.istore 5, 2) := by decide +kernel
theorem dX10_sendOf_25 : decode cX10_sendOf 25 = .ok (.iconst 0, 1) := by decide +kernel
theorem dX10_sendOf_26 : decode cX10_sendOf 26 = .ok (.istore 6, 2) := by decide +kernel
theorem dX10_sendOf_28 : decode cX10_sendOf 28 = .ok (.iload 6, 2) := by decide +kernel
theorem dX10_sendOf_30 : decode cX10_sendOf 30 = .ok (.bipush 21, 2) := by decide +kernel
theorem dX10_sendOf_32 : decode cX10_sendOf 32 = .ok (.if_icmp .ge 36, 3) := by decide +kernel
theorem dX10_sendOf_35 : decode cX10_sendOf 35 = .ok (.aload_n 0, 1) := by decide +kernel
theorem dX10_sendOf_36 : decode cX10_sendOf 36 = .ok (.iload_n 3, 1) := by decide +kernel
theorem dX10_sendOf_37 : decode cX10_sendOf 37 = .ok (.iload 4, 2) := by decide +kernel
theorem dX10_sendOf_39 : decode cX10_sendOf 39 = .ok (.iload 6, 2) := by decide +kernel
theorem dX10_sendOf_41 : decode cX10_sendOf 41 = .ok (.invokevirtual 232, 3) := by decide +kernel
theorem dX10_sendOf_44 : decode cX10_sendOf 44 = .ok (.istore 7, 2) := by decide +kernel
theorem dX10_sendOf_46 : decode cX10_sendOf 46 = .ok (.iload 7, 2) := by decide +kernel
theorem dX10_sendOf_48 : decode cX10_sendOf 48 = .ok (.iload 5, 2) := by decide +kernel
theorem dX10_sendOf_50 : decode cX10_sendOf 50 = .ok (.if_icmp .le 8, 3) := by decide +kernel
theorem dX10_sendOf_53 : decode cX10_sendOf 53 = .ok (.iload 7, 2) := by decide +kernel
theorem dX10_sendOf_55 : decode cX10_sendOf 55 = .ok (.goto 5, 3) := by decide +kernel
theorem dX10_sendOf_58 : decode cX10_sendOf 58 = .ok (.iload 5, 2) := by decide +kernel
theorem dX10_sendOf_60 : decode cX10_sendOf 60 = .ok (.istore 5, 2) := by decide +kernel
theorem dX10_sendOf_62 : decode cX10_sendOf 62 = .ok (.iinc 6 1, 3) := by decide +kernel
theorem dX10_sendOf_65 : decode cX10_sendOf 65 = .ok (.goto (-37), 3) := by decide +kernel
theorem dX10_sendOf_68 : decode cX10_sendOf 68 = .ok (.iload 4, 2) := by decide +kernel
theorem dX10_sendOf_70 : decode cX10_sendOf 70 = .ok (.ifCond .eq 14, 3) := by decide +kernel
theorem dX10_sendOf_73 : decode cX10_sendOf 73 = .ok (.iload 5, 2) := by decide +kernel
theorem dX10_sendOf_75 : decode cX10_sendOf 75 = .ok (.iload_n 2, 1) := by decide +kernel
theorem dX10_sendOf_76 : decode cX10_sendOf 76 = .ok (.if_icmp .ge 8, 3) := by decide +kernel
theorem dX10_sendOf_79 : decode cX10_sendOf 79 = .ok (.iload_n 3, 1) := by decide +kernel
theorem dX10_sendOf_80 : decode cX10_sendOf 80 = .ok (.istore_n 1, 1) := by decide +kernel
theorem dX10_sendOf_81 : decode cX10_sendOf 81 = .ok (.iload 5, 2) := by decide +kernel
theorem dX10_sendOf_83 : decode cX10_sendOf 83 = .ok (.istore_n 2, 1) := by decide +kernel
theorem dX10_sendOf_84 : decode cX10_sendOf 84 = .ok (.iinc 3 1, 3) := by decide +kernel
theorem dX10_sendOf_87 : decode cX10_sendOf 87 = .ok (.goto (-80), 3) := by decide +kernel
theorem dX10_sendOf_90 : decode cX10_sendOf 90 = .ok (.iload_n 1, 1) := by decide +kernel
theorem dX10_sendOf_91 : decode cX10_sendOf 91 = .ok (.ireturn, 1) := by decide +kernel
theorem dX10_send_0 : decode cX10_send 0 = .ok (.aload_n 0, 1) := by decide +kernel
theorem dX10_send_1 : decode cX10_send 1 = .ok (.invokevirtual 179, 3) := by decide +kernel
theorem dX10_send_4 : decode cX10_send 4 = .ok (.ifCond .eq 8, 3) := by decide +kernel
theorem dX10_send_7 : decode cX10_send 7 = .ok (.bipush (-103), 2) := by decide +kernel
theorem dX10_send_9 : decode cX10_send 9 = .ok (.goto 7, 3) := by decide +kernel
theorem dX10_send_12 : decode cX10_send 12 = .ok (.aload_n 0, 1) := by decide +kernel
theorem dX10_send_13 : decode cX10_send 13 = .ok (.invokevirtual 235, 3) := by decide +kernel
theorem dX10_send_16 : decode cX10_send 16 = .ok (.ireturn, 1) := by decide +kernel
theorem dX10_drawOf_0 : decode cX10_drawOf 0 = .ok (.aload_n 0, 1) := by decide +kernel
theorem dX10_drawOf_1 : decode cX10_drawOf 1 = .ok (.ldc2_w 238, 3) := by decide +kernel
theorem dX10_drawOf_4 : decode cX10_drawOf 4 = .ok (.aload_n 0, 1) := by decide +kernel
theorem dX10_drawOf_5 : decode cX10_drawOf 5 = .ok (.getfield 240, 3) := by decide +kernel
theorem dX10_drawOf_8 : decode cX10_drawOf 8 = .ok (.i2l, 1) := by decide +kernel
theorem dX10_drawOf_9 : decode cX10_drawOf 9 = .ok (.lmul, 1) := by decide +kernel
theorem dX10_drawOf_10 : decode cX10_drawOf 10 = .ok (.ldc2_w 243, 3) := by decide +kernel
theorem dX10_drawOf_13 : decode cX10_drawOf 13 = .ok (.ladd, 1) := by decide +kernel
theorem dX10_drawOf_14 : decode cX10_drawOf 14 = .ok (.ldc2_w 245, 3) := by decide +kernel
theorem dX10_drawOf_17 : decode cX10_drawOf 17 = .ok (.land, 1) := by decide +kernel
theorem dX10_drawOf_18 : decode cX10_drawOf 18 = .ok (.l2i, 1) := by decide +kernel
theorem dX10_drawOf_19 : decode cX10_drawOf 19 = .ok (.putfield 240, 3) := by decide +kernel
theorem dX10_drawOf_22 : decode cX10_drawOf 22 = .ok (.aload_n 0, 1) := by decide +kernel
theorem dX10_drawOf_23 : decode cX10_drawOf 23 = .ok (.getfield 240, 3) := by decide +kernel
theorem dX10_drawOf_26 : decode cX10_drawOf 26 = .ok (.ldc 247, 2) := by decide +kernel
theorem dX10_drawOf_28 : decode cX10_drawOf 28 = .ok (.idiv, 1) := by decide +kernel
theorem dX10_drawOf_29 : decode cX10_drawOf 29 = .ok (.iload_n 1, 1) := by decide +kernel
theorem dX10_drawOf_30 : decode cX10_drawOf 30 = .ok (.irem, 1) := by decide +kernel
theorem dX10_drawOf_31 : decode cX10_drawOf 31 = .ok (.ireturn, 1) := by decide +kernel
theorem dX10_seasons_0 : decode cX10_seasons 0 = .ok (.iload_n 1, 1) := by decide +kernel
theorem dX10_seasons_1 : decode cX10_seasons 1 = .ok (.i2l, 1) := by decide +kernel
theorem dX10_seasons_2 : decode cX10_seasons 2 = .ok (.lconst 1, 1) := by decide +kernel
theorem dX10_seasons_3 : decode cX10_seasons 3 = .ok (.ldc2_w 248, 3) := by decide +kernel
theorem dX10_seasons_6 : decode cX10_seasons 6 = .ok (.invokestatic 52, 3) := by decide +kernel
theorem dX10_seasons_9 : decode cX10_seasons 9 = .ok (.ifCond .eq 19, 3) := by decide +kernel
theorem dX10_seasons_12 : decode cX10_seasons 12 = .ok (.iload_n 2, 1) := by decide +kernel
theorem dX10_seasons_13 : decode cX10_seasons 13 = .ok (.ifCond .lt 15, 3) := by decide +kernel
theorem dX10_seasons_16 : decode cX10_seasons 16 = .ok (.iload_n 3, 1) := by decide +kernel
theorem dX10_seasons_17 : decode cX10_seasons 17 = .ok (.i2l, 1) := by decide +kernel
theorem dX10_seasons_18 : decode cX10_seasons 18 = .ok (.lconst 0, 1) := by decide +kernel
theorem dX10_seasons_19 : decode cX10_seasons 19 = .ok (.ldc2_w 201, 3) := by decide +kernel
theorem dX10_seasons_22 : decode cX10_seasons 22 = .ok (.invokestatic 52, 3) := by decide +kernel
theorem dX10_seasons_25 : decode cX10_seasons 25 = .ok (.ifCond .ne 6, 3) := by decide +kernel
theorem dX10_seasons_28 : decode cX10_seasons 28 = .ok (.bipush (-102), 2) := by decide +kernel
theorem dX10_seasons_30 : decode cX10_seasons 30 = .ok (.ireturn, 1) := by decide +kernel
theorem dX10_seasons_31 : decode cX10_seasons 31 = .ok (.aload_n 0, 1) := by decide +kernel
theorem dX10_seasons_32 : decode cX10_seasons 32 = .ok (.invokevirtual 179, 3) := by decide +kernel
theorem dX10_seasons_35 : decode cX10_seasons 35 = .ok (.ifCond .eq 6, 3) := by decide +kernel
theorem dX10_seasons_38 : decode cX10_seasons 38 = .ok (.bipush (-103), 2) := by decide +kernel
theorem dX10_seasons_40 : decode cX10_seasons 40 = .ok (.ireturn, 1) := by decide +kernel
theorem dX10_seasons_41 : decode cX10_seasons 41 = .ok (.aload_n 0, 1) := by decide +kernel
theorem dX10_seasons_42 : decode cX10_seasons 42 = .ok (.iload_n 2, 1) := by decide +kernel
theorem dX10_seasons_43 : decode cX10_seasons 43 = .ok (.putfield 240, 3) := by decide +kernel
theorem dX10_seasons_46 : decode cX10_seasons 46 = .ok (.aload_n 0, 1) := by decide +kernel
theorem dX10_seasons_47 : decode cX10_seasons 47 = .ok (.invokevirtual 136, 3) := by decide +kernel
theorem dX10_seasons_50 : decode cX10_seasons 50 = .ok (.iconst 0, 1) := by decide +kernel
theorem dX10_seasons_51 : decode cX10_seasons 51 = .ok (.istore 4, 2) := by decide +kernel
theorem dX10_seasons_53 : decode cX10_seasons 53 = .ok (.iconst 0, 1) := by decide +kernel
theorem dX10_seasons_54 : decode cX10_seasons 54 = .ok (.istore 5, 2) := by decide +kernel
theorem dX10_seasons_56 : decode cX10_seasons 56 = .ok (.iload 5, 2) := by decide +kernel
theorem dX10_seasons_58 : decode cX10_seasons 58 = .ok (.iload_n 1, 1) := by decide +kernel
theorem dX10_seasons_59 : decode cX10_seasons 59 = .ok (.if_icmp .ge 45, 3) := by decide +kernel
theorem dX10_seasons_62 : decode cX10_seasons 62 = .ok (.aload_n 0, 1) := by decide +kernel
theorem dX10_seasons_63 : decode cX10_seasons 63 = .ok (.iconst 4, 1) := by decide +kernel
theorem dX10_seasons_64 : decode cX10_seasons 64 = .ok (.invokevirtual 250, 3) := by decide +kernel
theorem dX10_seasons_67 : decode cX10_seasons 67 = .ok (.ifCond .ne 10, 3) := by decide +kernel
theorem dX10_seasons_70 : decode cX10_seasons 70 = .ok (.aload_n 0, 1) := by decide +kernel
theorem dX10_seasons_71 : decode cX10_seasons 71 = .ok (.invokevirtual 183, 3) := by decide +kernel
theorem dX10_seasons_74 : decode cX10_seasons 74 = .ok (.goto 15, 3) := by decide +kernel
theorem dX10_seasons_77 : decode cX10_seasons 77 = .ok (.aload_n 0, 1) := by decide +kernel
theorem dX10_seasons_78 : decode cX10_seasons 78 = .ok (.aload_n 0, 1) := by decide +kernel
theorem dX10_seasons_79 : decode cX10_seasons 79 = .ok (.aload_n 0, 1) := by decide +kernel
theorem dX10_seasons_80 : decode cX10_seasons 80 = .ok (.getfield 96, 3) := by decide +kernel
theorem dX10_seasons_83 : decode cX10_seasons 83 = .ok (.invokevirtual 250, 3) := by decide +kernel
theorem dX10_seasons_86 : decode cX10_seasons 86 = .ok (.invokevirtual 158, 3) := by decide +kernel
theorem dX10_seasons_89 : decode cX10_seasons 89 = .ok (.iload 4, 2) := by decide +kernel
theorem dX10_seasons_91 : decode cX10_seasons 91 = .ok (.aload_n 0, 1) := by decide +kernel
theorem dX10_seasons_92 : decode cX10_seasons 92 = .ok (.invokevirtual 192, 3) := by decide +kernel
theorem dX10_seasons_95 : decode cX10_seasons 95 = .ok (.iadd, 1) := by decide +kernel
theorem dX10_seasons_96 : decode cX10_seasons 96 = .ok (.istore 4, 2) := by decide +kernel
theorem dX10_seasons_98 : decode cX10_seasons 98 = .ok (.iinc 5 1, 3) := by decide +kernel
theorem dX10_seasons_101 : decode cX10_seasons 101 = .ok (.goto (-45), 3) := by decide +kernel
theorem dX10_seasons_104 : decode cX10_seasons 104 = .ok (.iload_n 3, 1) := by decide +kernel
theorem dX10_seasons_105 : decode cX10_seasons 105 = .ok (.ifCond .ne 8, 3) := by decide +kernel
theorem dX10_seasons_108 : decode cX10_seasons 108 = .ok (.iload 4, 2) := by decide +kernel
theorem dX10_seasons_110 : decode cX10_seasons 110 = .ok (.goto 19, 3) := by decide +kernel
theorem dX10_seasons_113 : decode cX10_seasons 113 = .ok (.iload_n 3, 1) := by decide +kernel
theorem dX10_seasons_114 : decode cX10_seasons 114 = .ok (.iconst 1, 1) := by decide +kernel
theorem dX10_seasons_115 : decode cX10_seasons 115 = .ok (.if_icmp .ne 10, 3) := by decide +kernel
theorem dX10_seasons_118 : decode cX10_seasons 118 = .ok (.aload_n 0, 1) := by decide +kernel
theorem dX10_seasons_119 : decode cX10_seasons 119 = .ok (.getfield 117, 3) := by decide +kernel
theorem dX10_seasons_122 : decode cX10_seasons 122 = .ok (.goto 7, 3) := by decide +kernel
theorem dX10_seasons_125 : decode cX10_seasons 125 = .ok (.aload_n 0, 1) := by decide +kernel
theorem dX10_seasons_126 : decode cX10_seasons 126 = .ok (.getfield 240, 3) := by decide +kernel
theorem dX10_seasons_129 : decode cX10_seasons 129 = .ok (.ireturn, 1) := by decide +kernel
theorem dX10_image_0 : decode cX10_image 0 = .ok (.aload_n 0, 1) := by decide +kernel
theorem dX10_image_1 : decode cX10_image 1 = .ok (.invokevirtual 179, 3) := by decide +kernel
theorem dX10_image_4 : decode cX10_image 4 = .ok (.ifCond .eq 6, 3) := by decide +kernel
theorem dX10_image_7 : decode cX10_image 7 = .ok (.bipush (-103), 2) := by decide +kernel
theorem dX10_image_9 : decode cX10_image 9 = .ok (.ireturn, 1) := by decide +kernel
theorem dX10_image_10 : decode cX10_image 10 = .ok (.aload_n 0, 1) := by decide +kernel
theorem dX10_image_11 : decode cX10_image 11 = .ok (.getfield 13, 3) := by decide +kernel
theorem dX10_image_14 : decode cX10_image 14 = .ok (.aload_n 0, 1) := by decide +kernel
theorem dX10_image_15 : decode cX10_image 15 = .ok (.getfield 31, 3) := by decide +kernel
theorem dX10_image_18 : decode cX10_image 18 = .ok (.invokestatic 253, 3) := by decide +kernel
theorem dX10_image_21 : decode cX10_image 21 = .ok (.aload_n 0, 1) := by decide +kernel
theorem dX10_image_22 : decode cX10_image 22 = .ok (.getfield 16, 3) := by decide +kernel
theorem dX10_image_25 : decode cX10_image 25 = .ok (.aload_n 0, 1) := by decide +kernel
theorem dX10_image_26 : decode cX10_image 26 = .ok (.getfield 34, 3) := by decide +kernel
theorem dX10_image_29 : decode cX10_image 29 = .ok (.invokestatic 253, 3) := by decide +kernel
theorem dX10_image_32 : decode cX10_image 32 = .ok (.aload_n 0, 1) := by decide +kernel
theorem dX10_image_33 : decode cX10_image 33 = .ok (.getfield 22, 3) := by decide +kernel
theorem dX10_image_36 : decode cX10_image 36 = .ok (.aload_n 0, 1) := by decide +kernel
theorem dX10_image_37 : decode cX10_image 37 = .ok (.getfield 37, 3) := by decide +kernel
theorem dX10_image_40 : decode cX10_image 40 = .ok (.invokestatic 253, 3) := by decide +kernel
theorem dX10_image_43 : decode cX10_image 43 = .ok (.aload_n 0, 1) := by decide +kernel
theorem dX10_image_44 : decode cX10_image 44 = .ok (.getfield 25, 3) := by decide +kernel
theorem dX10_image_47 : decode cX10_image 47 = .ok (.aload_n 0, 1) := by decide +kernel
theorem dX10_image_48 : decode cX10_image 48 = .ok (.getfield 40, 3) := by decide +kernel
theorem dX10_image_51 : decode cX10_image 51 = .ok (.invokestatic 253, 3) := by decide +kernel
theorem dX10_image_54 : decode cX10_image 54 = .ok (.aload_n 0, 1) := by decide +kernel
theorem dX10_image_55 : decode cX10_image 55 = .ok (.getfield 28, 3) := by decide +kernel
theorem dX10_image_58 : decode cX10_image 58 = .ok (.aload_n 0, 1) := by decide +kernel
theorem dX10_image_59 : decode cX10_image 59 = .ok (.getfield 43, 3) := by decide +kernel
theorem dX10_image_62 : decode cX10_image 62 = .ok (.invokestatic 253, 3) := by decide +kernel
theorem dX10_image_65 : decode cX10_image 65 = .ok (.aload_n 0, 1) := by decide +kernel
theorem dX10_image_66 : decode cX10_image 66 = .ok (.aload_n 0, 1) := by decide +kernel
theorem dX10_image_67 : decode cX10_image 67 = .ok (.getfield 99, 3) := by decide +kernel
theorem dX10_image_70 : decode cX10_image 70 = .ok (.putfield 257, 3) := by decide +kernel
theorem dX10_image_73 : decode cX10_image 73 = .ok (.aload_n 0, 1) := by decide +kernel
theorem dX10_image_74 : decode cX10_image 74 = .ok (.aload_n 0, 1) := by decide +kernel
theorem dX10_image_75 : decode cX10_image 75 = .ok (.getfield 102, 3) := by decide +kernel
theorem dX10_image_78 : decode cX10_image 78 = .ok (.putfield 260, 3) := by decide +kernel
theorem dX10_image_81 : decode cX10_image 81 = .ok (.aload_n 0, 1) := by decide +kernel
theorem dX10_image_82 : decode cX10_image 82 = .ok (.aload_n 0, 1) := by decide +kernel
theorem dX10_image_83 : decode cX10_image 83 = .ok (.getfield 105, 3) := by decide +kernel
theorem dX10_image_86 : decode cX10_image 86 = .ok (.putfield 263, 3) := by decide +kernel
theorem dX10_image_89 : decode cX10_image 89 = .ok (.aload_n 0, 1) := by decide +kernel
theorem dX10_image_90 : decode cX10_image 90 = .ok (.aload_n 0, 1) := by decide +kernel
theorem dX10_image_91 : decode cX10_image 91 = .ok (.getfield 108, 3) := by decide +kernel
theorem dX10_image_94 : decode cX10_image 94 = .ok (.putfield 266, 3) := by decide +kernel
theorem dX10_image_97 : decode cX10_image 97 = .ok (.aload_n 0, 1) := by decide +kernel
theorem dX10_image_98 : decode cX10_image 98 = .ok (.aload_n 0, 1) := by decide +kernel
theorem dX10_image_99 : decode cX10_image 99 = .ok (.getfield 111, 3) := by decide +kernel
theorem dX10_image_102 : decode cX10_image 102 = .ok (.putfield 269, 3) := by decide +kernel
theorem dX10_image_105 : decode cX10_image 105 = .ok (.aload_n 0, 1) := by decide +kernel
theorem dX10_image_106 : decode cX10_image 106 = .ok (.aload_n 0, 1) := by decide +kernel
theorem dX10_image_107 : decode cX10_image 107 = .ok (.getfield 114, 3) := by decide +kernel
theorem dX10_image_110 : decode cX10_image 110 = .ok (.putfield 46, 3) := by decide +kernel
theorem dX10_image_113 : decode cX10_image 113 = .ok (.aload_n 0, 1) := by decide +kernel
theorem dX10_image_114 : decode cX10_image 114 = .ok (.getfield 108, 3) := by decide +kernel
theorem dX10_image_117 : decode cX10_image 117 = .ok (.ireturn, 1) := by decide +kernel
theorem dX10_restore_0 : decode cX10_restore 0 = .ok (.aload_n 0, 1) := by decide +kernel
theorem dX10_restore_1 : decode cX10_restore 1 = .ok (.getfield 46, 3) := by decide +kernel
theorem dX10_restore_4 : decode cX10_restore 4 = .ok (.aload_n 0, 1) := by decide +kernel
theorem dX10_restore_5 : decode cX10_restore 5 = .ok (.getfield 114, 3) := by decide +kernel
theorem dX10_restore_8 : decode cX10_restore 8 = .ok (.if_icmp .eq 6, 3) := by decide +kernel
theorem dX10_restore_11 : decode cX10_restore 11 = .ok (.bipush (-103), 2) := by decide +kernel
theorem dX10_restore_13 : decode cX10_restore 13 = .ok (.ireturn, 1) := by decide +kernel
theorem dX10_restore_14 : decode cX10_restore 14 = .ok (.aload_n 0, 1) := by decide +kernel
theorem dX10_restore_15 : decode cX10_restore 15 = .ok (.getfield 31, 3) := by decide +kernel
theorem dX10_restore_18 : decode cX10_restore 18 = .ok (.aload_n 0, 1) := by decide +kernel
theorem dX10_restore_19 : decode cX10_restore 19 = .ok (.getfield 13, 3) := by decide +kernel
theorem dX10_restore_22 : decode cX10_restore 22 = .ok (.invokestatic 253, 3) := by decide +kernel
theorem dX10_restore_25 : decode cX10_restore 25 = .ok (.aload_n 0, 1) := by decide +kernel
theorem dX10_restore_26 : decode cX10_restore 26 = .ok (.getfield 34, 3) := by decide +kernel
theorem dX10_restore_29 : decode cX10_restore 29 = .ok (.aload_n 0, 1) := by decide +kernel
theorem dX10_restore_30 : decode cX10_restore 30 = .ok (.getfield 16, 3) := by decide +kernel
theorem dX10_restore_33 : decode cX10_restore 33 = .ok (.invokestatic 253, 3) := by decide +kernel
theorem dX10_restore_36 : decode cX10_restore 36 = .ok (.aload_n 0, 1) := by decide +kernel
theorem dX10_restore_37 : decode cX10_restore 37 = .ok (.getfield 37, 3) := by decide +kernel
theorem dX10_restore_40 : decode cX10_restore 40 = .ok (.aload_n 0, 1) := by decide +kernel
theorem dX10_restore_41 : decode cX10_restore 41 = .ok (.getfield 22, 3) := by decide +kernel
theorem dX10_restore_44 : decode cX10_restore 44 = .ok (.invokestatic 253, 3) := by decide +kernel
theorem dX10_restore_47 : decode cX10_restore 47 = .ok (.aload_n 0, 1) := by decide +kernel
theorem dX10_restore_48 : decode cX10_restore 48 = .ok (.getfield 40, 3) := by decide +kernel
theorem dX10_restore_51 : decode cX10_restore 51 = .ok (.aload_n 0, 1) := by decide +kernel
theorem dX10_restore_52 : decode cX10_restore 52 = .ok (.getfield 25, 3) := by decide +kernel
theorem dX10_restore_55 : decode cX10_restore 55 = .ok (.invokestatic 253, 3) := by decide +kernel
theorem dX10_restore_58 : decode cX10_restore 58 = .ok (.aload_n 0, 1) := by decide +kernel
theorem dX10_restore_59 : decode cX10_restore 59 = .ok (.getfield 43, 3) := by decide +kernel
theorem dX10_restore_62 : decode cX10_restore 62 = .ok (.aload_n 0, 1) := by decide +kernel
theorem dX10_restore_63 : decode cX10_restore 63 = .ok (.getfield 28, 3) := by decide +kernel
theorem dX10_restore_66 : decode cX10_restore 66 = .ok (.invokestatic 253, 3) := by decide +kernel
theorem dX10_restore_69 : decode cX10_restore 69 = .ok (.aload_n 0, 1) := by decide +kernel
theorem dX10_restore_70 : decode cX10_restore 70 = .ok (.aload_n 0, 1) := by decide +kernel
theorem dX10_restore_71 : decode cX10_restore 71 = .ok (.getfield 257, 3) := by decide +kernel
theorem dX10_restore_74 : decode cX10_restore 74 = .ok (.putfield 99, 3) := by decide +kernel
theorem dX10_restore_77 : decode cX10_restore 77 = .ok (.aload_n 0, 1) := by decide +kernel
theorem dX10_restore_78 : decode cX10_restore 78 = .ok (.aload_n 0, 1) := by decide +kernel
theorem dX10_restore_79 : decode cX10_restore 79 = .ok (.getfield 260, 3) := by decide +kernel
theorem dX10_restore_82 : decode cX10_restore 82 = .ok (.putfield 102, 3) := by decide +kernel
theorem dX10_restore_85 : decode cX10_restore 85 = .ok (.aload_n 0, 1) := by decide +kernel
theorem dX10_restore_86 : decode cX10_restore 86 = .ok (.aload_n 0, 1) := by decide +kernel
theorem dX10_restore_87 : decode cX10_restore 87 = .ok (.getfield 263, 3) := by decide +kernel
theorem dX10_restore_90 : decode cX10_restore 90 = .ok (.putfield 105, 3) := by decide +kernel
theorem dX10_restore_93 : decode cX10_restore 93 = .ok (.aload_n 0, 1) := by decide +kernel
theorem dX10_restore_94 : decode cX10_restore 94 = .ok (.aload_n 0, 1) := by decide +kernel
theorem dX10_restore_95 : decode cX10_restore 95 = .ok (.getfield 266, 3) := by decide +kernel
theorem dX10_restore_98 : decode cX10_restore 98 = .ok (.putfield 108, 3) := by decide +kernel
theorem dX10_restore_101 : decode cX10_restore 101 = .ok (.aload_n 0, 1) := by decide +kernel
theorem dX10_restore_102 : decode cX10_restore 102 = .ok (.aload_n 0, 1) := by decide +kernel
theorem dX10_restore_103 : decode cX10_restore 103 = .ok (.getfield 269, 3) := by decide +kernel
theorem dX10_restore_106 : decode cX10_restore 106 = .ok (.putfield 111, 3) := by decide +kernel
theorem dX10_restore_109 : decode cX10_restore 109 = .ok (.aload_n 0, 1) := by decide +kernel
theorem dX10_restore_110 : decode cX10_restore 110 = .ok (.getfield 108, 3) := by decide +kernel
theorem dX10_restore_113 : decode cX10_restore 113 = .ok (.ireturn, 1) := by decide +kernel
theorem dX10_countOf_0 : decode cX10_countOf 0 = .ok (.aload_n 0, 1) := by decide +kernel
theorem dX10_countOf_1 : decode cX10_countOf 1 = .ok (.invokevirtual 136, 3) := by decide +kernel
theorem dX10_countOf_4 : decode cX10_countOf 4 = .ok (.iload_n 1, 1) := by decide +kernel
theorem dX10_countOf_5 : decode cX10_countOf 5 = .ok (.tableswitch 132 0 12 #[67, 72, 77, 82, 87, 92, 97, 102, 107, 112, 117, 122, 127], 67) := by decide +kernel
theorem dX10_countOf_72 : decode cX10_countOf 72 = .ok (.aload_n 0, 1) := by decide +kernel
theorem dX10_countOf_73 : decode cX10_countOf 73 = .ok (.getfield 90, 3) := by decide +kernel
theorem dX10_countOf_76 : decode cX10_countOf 76 = .ok (.ireturn, 1) := by decide +kernel
theorem dX10_countOf_77 : decode cX10_countOf 77 = .ok (.aload_n 0, 1) := by decide +kernel
theorem dX10_countOf_78 : decode cX10_countOf 78 = .ok (.getfield 93, 3) := by decide +kernel
theorem dX10_countOf_81 : decode cX10_countOf 81 = .ok (.ireturn, 1) := by decide +kernel
theorem dX10_countOf_82 : decode cX10_countOf 82 = .ok (.aload_n 0, 1) := by decide +kernel
theorem dX10_countOf_83 : decode cX10_countOf 83 = .ok (.getfield 96, 3) := by decide +kernel
theorem dX10_countOf_86 : decode cX10_countOf 86 = .ok (.ireturn, 1) := by decide +kernel
theorem dX10_countOf_87 : decode cX10_countOf 87 = .ok (.aload_n 0, 1) := by decide +kernel
theorem dX10_countOf_88 : decode cX10_countOf 88 = .ok (.getfield 99, 3) := by decide +kernel
theorem dX10_countOf_91 : decode cX10_countOf 91 = .ok (.ireturn, 1) := by decide +kernel
theorem dX10_countOf_92 : decode cX10_countOf 92 = .ok (.aload_n 0, 1) := by decide +kernel
theorem dX10_countOf_93 : decode cX10_countOf 93 = .ok (.getfield 102, 3) := by decide +kernel
theorem dX10_countOf_96 : decode cX10_countOf 96 = .ok (.ireturn, 1) := by decide +kernel
theorem dX10_countOf_97 : decode cX10_countOf 97 = .ok (.aload_n 0, 1) := by decide +kernel
theorem dX10_countOf_98 : decode cX10_countOf 98 = .ok (.getfield 105, 3) := by decide +kernel
theorem dX10_countOf_101 : decode cX10_countOf 101 = .ok (.ireturn, 1) := by decide +kernel
theorem dX10_countOf_102 : decode cX10_countOf 102 = .ok (.aload_n 0, 1) := by decide +kernel
theorem dX10_countOf_103 : decode cX10_countOf 103 = .ok (.invokevirtual 192, 3) := by decide +kernel
theorem dX10_countOf_106 : decode cX10_countOf 106 = .ok (.ireturn, 1) := by decide +kernel
theorem dX10_countOf_107 : decode cX10_countOf 107 = .ok (.aload_n 0, 1) := by decide +kernel
theorem dX10_countOf_108 : decode cX10_countOf 108 = .ok (.invokevirtual 272, 3) := by decide +kernel
theorem dX10_countOf_111 : decode cX10_countOf 111 = .ok (.ireturn, 1) := by decide +kernel
theorem dX10_countOf_112 : decode cX10_countOf 112 = .ok (.aload_n 0, 1) := by decide +kernel
theorem dX10_countOf_113 : decode cX10_countOf 113 = .ok (.getfield 108, 3) := by decide +kernel
theorem dX10_countOf_116 : decode cX10_countOf 116 = .ok (.ireturn, 1) := by decide +kernel
theorem dX10_countOf_117 : decode cX10_countOf 117 = .ok (.aload_n 0, 1) := by decide +kernel
theorem dX10_countOf_118 : decode cX10_countOf 118 = .ok (.getfield 111, 3) := by decide +kernel
theorem dX10_countOf_121 : decode cX10_countOf 121 = .ok (.ireturn, 1) := by decide +kernel
theorem dX10_countOf_122 : decode cX10_countOf 122 = .ok (.aload_n 0, 1) := by decide +kernel
theorem dX10_countOf_123 : decode cX10_countOf 123 = .ok (.getfield 56, 3) := by decide +kernel
theorem dX10_countOf_126 : decode cX10_countOf 126 = .ok (.ireturn, 1) := by decide +kernel
theorem dX10_countOf_127 : decode cX10_countOf 127 = .ok (.aload_n 0, 1) := by decide +kernel
theorem dX10_countOf_128 : decode cX10_countOf 128 = .ok (.getfield 114, 3) := by decide +kernel
theorem dX10_countOf_131 : decode cX10_countOf 131 = .ok (.ireturn, 1) := by decide +kernel
theorem dX10_countOf_132 : decode cX10_countOf 132 = .ok (.aload_n 0, 1) := by decide +kernel
theorem dX10_countOf_133 : decode cX10_countOf 133 = .ok (.getfield 214, 3) := by decide +kernel
theorem dX10_countOf_136 : decode cX10_countOf 136 = .ok (.ireturn, 1) := by decide +kernel
theorem dX10_countOf_137 : decode cX10_countOf 137 = .ok (.bipush (-102), 2) := by decide +kernel
theorem dX10_countOf_139 : decode cX10_countOf 139 = .ok (.ireturn, 1) := by decide +kernel
theorem dX10_count_0 : decode cX10_count 0 = .ok (.aload_n 0, 1) := by decide +kernel
theorem dX10_count_1 : decode cX10_count 1 = .ok (.iload_n 1, 1) := by decide +kernel
theorem dX10_count_2 : decode cX10_count 2 = .ok (.invokevirtual 275, 3) := by decide +kernel
theorem dX10_count_5 : decode cX10_count 5 = .ok (.ireturn, 1) := by decide +kernel
theorem dX10_say_0 : decode cX10_say 0 = .ok (.aload_n 0, 1) := by decide +kernel
theorem dX10_say_1 : decode cX10_say 1 = .ok (.ldc2_w 278, 3) := by decide +kernel
theorem dX10_say_4 : decode cX10_say 4 = .ok (.aload_n 0, 1) := by decide +kernel
theorem dX10_say_5 : decode cX10_say 5 = .ok (.getfield 280, 3) := by decide +kernel
theorem dX10_say_8 : decode cX10_say 8 = .ok (.lmul, 1) := by decide +kernel
theorem dX10_say_9 : decode cX10_say 9 = .ok (.lload_n 1, 1) := by decide +kernel
theorem dX10_say_10 : decode cX10_say 10 = .ok (.ladd, 1) := by decide +kernel
theorem dX10_say_11 : decode cX10_say 11 = .ok (.putfield 280, 3) := by decide +kernel
theorem dX10_say_14 : decode cX10_say 14 = .ok (.return_, 1) := by decide +kernel
theorem dX10_sayShore_0 : decode cX10_sayShore 0 = .ok (.iconst 0, 1) := by decide +kernel
theorem dX10_sayShore_1 : decode cX10_sayShore 1 = .ok (.istore_n 1, 1) := by decide +kernel
theorem dX10_sayShore_2 : decode cX10_sayShore 2 = .ok (.iload_n 1, 1) := by decide +kernel
theorem dX10_sayShore_3 : decode cX10_sayShore 3 = .ok (.bipush 15, 2) := by decide +kernel
theorem dX10_sayShore_5 : decode cX10_sayShore 5 = .ok (.if_icmp .ge 30, 3) := by decide +kernel
theorem dX10_sayShore_8 : decode cX10_sayShore 8 = .ok (.iload_n 1, 1) := by decide +kernel
theorem dX10_sayShore_9 : decode cX10_sayShore 9 = .ok (.iconst 3, 1) := by decide +kernel
theorem dX10_sayShore_10 : decode cX10_sayShore 10 = .ok (.if_icmp .lt 9, 3) := by decide +kernel
theorem dX10_sayShore_13 : decode cX10_sayShore 13 = .ok (.iload_n 1, 1) := by decide +kernel
theorem dX10_sayShore_14 : decode cX10_sayShore 14 = .ok (.bipush 9, 2) := by decide +kernel
theorem dX10_sayShore_16 : decode cX10_sayShore 16 = .ok (.if_icmp .le 13, 3) := by decide +kernel
theorem dX10_sayShore_19 : decode cX10_sayShore 19 = .ok (.aload_n 0, 1) := by decide +kernel
theorem dX10_sayShore_20 : decode cX10_sayShore 20 = .ok (.aload_n 0, 1) := by decide +kernel
theorem dX10_sayShore_21 : decode cX10_sayShore 21 = .ok (.iload_n 1, 1) := by decide +kernel
theorem dX10_sayShore_22 : decode cX10_sayShore 22 = .ok (.invokevirtual 207, 3) := by decide +kernel
theorem dX10_sayShore_25 : decode cX10_sayShore 25 = .ok (.i2l, 1) := by decide +kernel
theorem dX10_sayShore_26 : decode cX10_sayShore 26 = .ok (.invokevirtual 284, 3) := by decide +kernel
theorem dX10_sayShore_29 : decode cX10_sayShore 29 = .ok (.iinc 1 1, 3) := by decide +kernel
theorem dX10_sayShore_32 : decode cX10_sayShore 32 = .ok (.goto (-30), 3) := by decide +kernel
theorem dX10_sayShore_35 : decode cX10_sayShore 35 = .ok (.aload_n 0, 1) := by decide +kernel
theorem dX10_sayShore_36 : decode cX10_sayShore 36 = .ok (.aload_n 0, 1) := by decide +kernel
theorem dX10_sayShore_37 : decode cX10_sayShore 37 = .ok (.invokevirtual 220, 3) := by decide +kernel
theorem dX10_sayShore_40 : decode cX10_sayShore 40 = .ok (.i2l, 1) := by decide +kernel
theorem dX10_sayShore_41 : decode cX10_sayShore 41 = .ok (.invokevirtual 284, 3) := by decide +kernel
theorem dX10_sayShore_44 : decode cX10_sayShore 44 = .ok (.aload_n 0, 1) := by decide +kernel
theorem dX10_sayShore_45 : decode cX10_sayShore 45 = .ok (.aload_n 0, 1) := by decide +kernel
theorem dX10_sayShore_46 : decode cX10_sayShore 46 = .ok (.invokevirtual 235, 3) := by decide +kernel
theorem dX10_sayShore_49 : decode cX10_sayShore 49 = .ok (.i2l, 1) := by decide +kernel
theorem dX10_sayShore_50 : decode cX10_sayShore 50 = .ok (.invokevirtual 284, 3) := by decide +kernel
theorem dX10_sayShore_53 : decode cX10_sayShore 53 = .ok (.return_, 1) := by decide +kernel
theorem dX10_sayBoat_0 : decode cX10_sayBoat 0 = .ok (.iconst 0, 1) := by decide +kernel
theorem dX10_sayBoat_1 : decode cX10_sayBoat 1 = .ok (.istore_n 2, 1) := by decide +kernel
theorem dX10_sayBoat_2 : decode cX10_sayBoat 2 = .ok (.iload_n 2, 1) := by decide +kernel
theorem dX10_sayBoat_3 : decode cX10_sayBoat 3 = .ok (.iconst 4, 1) := by decide +kernel
theorem dX10_sayBoat_4 : decode cX10_sayBoat 4 = .ok (.if_icmp .ge 20, 3) := by decide +kernel
theorem dX10_sayBoat_7 : decode cX10_sayBoat 7 = .ok (.aload_n 0, 1) := by decide +kernel
theorem dX10_sayBoat_8 : decode cX10_sayBoat 8 = .ok (.aload_n 0, 1) := by decide +kernel
theorem dX10_sayBoat_9 : decode cX10_sayBoat 9 = .ok (.iload_n 1, 1) := by decide +kernel
theorem dX10_sayBoat_10 : decode cX10_sayBoat 10 = .ok (.iload_n 2, 1) := by decide +kernel
theorem dX10_sayBoat_11 : decode cX10_sayBoat 11 = .ok (.invokevirtual 155, 3) := by decide +kernel
theorem dX10_sayBoat_14 : decode cX10_sayBoat 14 = .ok (.i2l, 1) := by decide +kernel
theorem dX10_sayBoat_15 : decode cX10_sayBoat 15 = .ok (.invokevirtual 284, 3) := by decide +kernel
theorem dX10_sayBoat_18 : decode cX10_sayBoat 18 = .ok (.iinc 2 1, 3) := by decide +kernel
theorem dX10_sayBoat_21 : decode cX10_sayBoat 21 = .ok (.goto (-19), 3) := by decide +kernel
theorem dX10_sayBoat_24 : decode cX10_sayBoat 24 = .ok (.aload_n 0, 1) := by decide +kernel
theorem dX10_sayBoat_25 : decode cX10_sayBoat 25 = .ok (.aload_n 0, 1) := by decide +kernel
theorem dX10_sayBoat_26 : decode cX10_sayBoat 26 = .ok (.iload_n 1, 1) := by decide +kernel
theorem dX10_sayBoat_27 : decode cX10_sayBoat 27 = .ok (.iconst 5, 1) := by decide +kernel
theorem dX10_sayBoat_28 : decode cX10_sayBoat 28 = .ok (.iconst 0, 1) := by decide +kernel
theorem dX10_sayBoat_29 : decode cX10_sayBoat 29 = .ok (.invokevirtual 223, 3) := by decide +kernel
theorem dX10_sayBoat_32 : decode cX10_sayBoat 32 = .ok (.i2l, 1) := by decide +kernel
theorem dX10_sayBoat_33 : decode cX10_sayBoat 33 = .ok (.invokevirtual 284, 3) := by decide +kernel
theorem dX10_sayBoat_36 : decode cX10_sayBoat 36 = .ok (.aload_n 0, 1) := by decide +kernel
theorem dX10_sayBoat_37 : decode cX10_sayBoat 37 = .ok (.aload_n 0, 1) := by decide +kernel
theorem dX10_sayBoat_38 : decode cX10_sayBoat 38 = .ok (.iload_n 1, 1) := by decide +kernel
theorem dX10_sayBoat_39 : decode cX10_sayBoat 39 = .ok (.iconst 5, 1) := by decide +kernel
theorem dX10_sayBoat_40 : decode cX10_sayBoat 40 = .ok (.iconst 1, 1) := by decide +kernel
theorem dX10_sayBoat_41 : decode cX10_sayBoat 41 = .ok (.invokevirtual 223, 3) := by decide +kernel
theorem dX10_sayBoat_44 : decode cX10_sayBoat 44 = .ok (.i2l, 1) := by decide +kernel
theorem dX10_sayBoat_45 : decode cX10_sayBoat 45 = .ok (.invokevirtual 284, 3) := by decide +kernel
theorem dX10_sayBoat_48 : decode cX10_sayBoat 48 = .ok (.return_, 1) := by decide +kernel
theorem dX10_digest_0 : decode cX10_digest 0 = .ok (.aload_n 0, 1) := by decide +kernel
theorem dX10_digest_1 : decode cX10_digest 1 = .ok (.ldc2_w 288, 3) := by decide +kernel
theorem dX10_digest_4 : decode cX10_digest 4 = .ok (.putfield 280, 3) := by decide +kernel
theorem dX10_digest_7 : decode cX10_digest 7 = .ok (.iconst 0, 1) := by decide +kernel
theorem dX10_digest_8 : decode cX10_digest 8 = .ok (.istore_n 1, 1) := by decide +kernel
theorem dX10_digest_9 : decode cX10_digest 9 = .ok (.iload_n 1, 1) := by decide +kernel
theorem dX10_digest_10 : decode cX10_digest 10 = .ok (.aload_n 0, 1) := by decide +kernel
theorem dX10_digest_11 : decode cX10_digest 11 = .ok (.getfield 90, 3) := by decide +kernel
theorem dX10_digest_14 : decode cX10_digest 14 = .ok (.if_icmp .ge 33, 3) := by decide +kernel
theorem dX10_digest_17 : decode cX10_digest 17 = .ok (.iconst 0, 1) := by decide +kernel
theorem dX10_digest_18 : decode cX10_digest 18 = .ok (.istore_n 2, 1) := by decide +kernel
theorem dX10_digest_19 : decode cX10_digest 19 = .ok (.iload_n 2, 1) := by decide +kernel
theorem dX10_digest_20 : decode cX10_digest 20 = .ok (.iconst 3, 1) := by decide +kernel
theorem dX10_digest_21 : decode cX10_digest 21 = .ok (.if_icmp .ge 20, 3) := by decide +kernel
theorem dX10_digest_24 : decode cX10_digest 24 = .ok (.aload_n 0, 1) := by decide +kernel
theorem dX10_digest_25 : decode cX10_digest 25 = .ok (.aload_n 0, 1) := by decide +kernel
theorem dX10_digest_26 : decode cX10_digest 26 = .ok (.iload_n 1, 1) := by decide +kernel
theorem dX10_digest_27 : decode cX10_digest 27 = .ok (.iload_n 2, 1) := by decide +kernel
theorem dX10_digest_28 : decode cX10_digest 28 = .ok (.invokevirtual 145, 3) := by decide +kernel
theorem dX10_digest_31 : decode cX10_digest 31 = .ok (.i2l, 1) := by decide +kernel
theorem dX10_digest_32 : decode cX10_digest 32 = .ok (.invokevirtual 284, 3) := by decide +kernel
theorem dX10_digest_35 : decode cX10_digest 35 = .ok (.iinc 2 1, 3) := by decide +kernel
theorem dX10_digest_38 : decode cX10_digest 38 = .ok (.goto (-19), 3) := by decide +kernel
theorem dX10_digest_41 : decode cX10_digest 41 = .ok (.iinc 1 1, 3) := by decide +kernel
theorem dX10_digest_44 : decode cX10_digest 44 = .ok (.goto (-35), 3) := by decide +kernel
theorem dX10_digest_47 : decode cX10_digest 47 = .ok (.iconst 0, 1) := by decide +kernel
theorem dX10_digest_48 : decode cX10_digest 48 = .ok (.istore_n 1, 1) := by decide +kernel
theorem dX10_digest_49 : decode cX10_digest 49 = .ok (.iload_n 1, 1) := by decide +kernel
theorem dX10_digest_50 : decode cX10_digest 50 = .ok (.aload_n 0, 1) := by decide +kernel
theorem dX10_digest_51 : decode cX10_digest 51 = .ok (.getfield 93, 3) := by decide +kernel
theorem dX10_digest_54 : decode cX10_digest 54 = .ok (.if_icmp .ge 14, 3) := by decide +kernel
theorem dX10_digest_57 : decode cX10_digest 57 = .ok (.aload_n 0, 1) := by decide +kernel
theorem dX10_digest_58 : decode cX10_digest 58 = .ok (.iload_n 1, 1) := by decide +kernel
theorem dX10_digest_59 : decode cX10_digest 59 = .ok (.invokevirtual 290, 3) := by decide +kernel
theorem dX10_digest_62 : decode cX10_digest 62 = .ok (.iinc 1 1, 3) := by decide +kernel
theorem dX10_digest_65 : decode cX10_digest 65 = .ok (.goto (-16), 3) := by decide +kernel
theorem dX10_digest_68 : decode cX10_digest 68 = .ok (.iconst 0, 1) := by decide +kernel
theorem dX10_digest_69 : decode cX10_digest 69 = .ok (.istore_n 1, 1) := by decide +kernel
theorem dX10_digest_70 : decode cX10_digest 70 = .ok (.iload_n 1, 1) := by decide +kernel
theorem dX10_digest_71 : decode cX10_digest 71 = .ok (.aload_n 0, 1) := by decide +kernel
theorem dX10_digest_72 : decode cX10_digest 72 = .ok (.getfield 96, 3) := by decide +kernel
theorem dX10_digest_75 : decode cX10_digest 75 = .ok (.if_icmp .ge 34, 3) := by decide +kernel
theorem dX10_digest_78 : decode cX10_digest 78 = .ok (.iconst 0, 1) := by decide +kernel
theorem dX10_digest_79 : decode cX10_digest 79 = .ok (.istore_n 2, 1) := by decide +kernel
theorem dX10_digest_80 : decode cX10_digest 80 = .ok (.iload_n 2, 1) := by decide +kernel
theorem dX10_digest_81 : decode cX10_digest 81 = .ok (.bipush 6, 2) := by decide +kernel
theorem dX10_digest_83 : decode cX10_digest 83 = .ok (.if_icmp .ge 20, 3) := by decide +kernel
theorem dX10_digest_86 : decode cX10_digest 86 = .ok (.aload_n 0, 1) := by decide +kernel
theorem dX10_digest_87 : decode cX10_digest 87 = .ok (.aload_n 0, 1) := by decide +kernel
theorem dX10_digest_88 : decode cX10_digest 88 = .ok (.iload_n 1, 1) := by decide +kernel
theorem dX10_digest_89 : decode cX10_digest 89 = .ok (.iload_n 2, 1) := by decide +kernel
theorem dX10_digest_90 : decode cX10_digest 90 = .ok (.invokevirtual 171, 3) := by decide +kernel
theorem dX10_digest_93 : decode cX10_digest 93 = .ok (.i2l, 1) := by decide +kernel
theorem dX10_digest_94 : decode cX10_digest 94 = .ok (.invokevirtual 284, 3) := by decide +kernel
theorem dX10_digest_97 : decode cX10_digest 97 = .ok (.iinc 2 1, 3) := by decide +kernel
theorem dX10_digest_100 : decode cX10_digest 100 = .ok (.goto (-20), 3) := by decide +kernel
theorem dX10_digest_103 : decode cX10_digest 103 = .ok (.iinc 1 1, 3) := by decide +kernel
theorem dX10_digest_106 : decode cX10_digest 106 = .ok (.goto (-36), 3) := by decide +kernel
theorem dX10_digest_109 : decode cX10_digest 109 = .ok (.aload_n 0, 1) := by decide +kernel
theorem dX10_digest_110 : decode cX10_digest 110 = .ok (.invokevirtual 179, 3) := by decide +kernel
theorem dX10_digest_113 : decode cX10_digest 113 = .ok (.ifCond .ne 7, 3) := by decide +kernel
theorem dX10_digest_116 : decode cX10_digest 116 = .ok (.aload_n 0, 1) := by decide +kernel
theorem dX10_digest_117 : decode cX10_digest 117 = .ok (.invokevirtual 293, 3) := by decide +kernel
theorem dX10_digest_120 : decode cX10_digest 120 = .ok (.iconst 0, 1) := by decide +kernel
theorem dX10_digest_121 : decode cX10_digest 121 = .ok (.istore_n 1, 1) := by decide +kernel
theorem dX10_digest_122 : decode cX10_digest 122 = .ok (.iload_n 1, 1) := by decide +kernel
theorem dX10_digest_123 : decode cX10_digest 123 = .ok (.aload_n 0, 1) := by decide +kernel
theorem dX10_digest_124 : decode cX10_digest 124 = .ok (.getfield 56, 3) := by decide +kernel
theorem dX10_digest_127 : decode cX10_digest 127 = .ok (.if_icmp .ge 20, 3) := by decide +kernel
theorem dX10_digest_130 : decode cX10_digest 130 = .ok (.aload_n 0, 1) := by decide +kernel
theorem dX10_digest_131 : decode cX10_digest 131 = .ok (.aload_n 0, 1) := by decide +kernel
theorem dX10_digest_132 : decode cX10_digest 132 = .ok (.getfield 7, 3) := by decide +kernel
theorem dX10_digest_135 : decode cX10_digest 135 = .ok (.iload_n 1, 1) := by decide +kernel
theorem dX10_digest_136 : decode cX10_digest 136 = .ok (.iaload, 1) := by decide +kernel
theorem dX10_digest_137 : decode cX10_digest 137 = .ok (.i2l, 1) := by decide +kernel
theorem dX10_digest_138 : decode cX10_digest 138 = .ok (.invokevirtual 284, 3) := by decide +kernel
theorem dX10_digest_141 : decode cX10_digest 141 = .ok (.iinc 1 1, 3) := by decide +kernel
theorem dX10_digest_144 : decode cX10_digest 144 = .ok (.goto (-22), 3) := by decide +kernel
theorem dX10_digest_147 : decode cX10_digest 147 = .ok (.iconst 0, 1) := by decide +kernel
theorem dX10_digest_148 : decode cX10_digest 148 = .ok (.istore_n 1, 1) := by decide +kernel
theorem dX10_digest_149 : decode cX10_digest 149 = .ok (.iload_n 1, 1) := by decide +kernel
theorem dX10_digest_150 : decode cX10_digest 150 = .ok (.bipush 13, 2) := by decide +kernel
theorem dX10_digest_152 : decode cX10_digest 152 = .ok (.if_icmp .ge 19, 3) := by decide +kernel
theorem dX10_digest_155 : decode cX10_digest 155 = .ok (.aload_n 0, 1) := by decide +kernel
theorem dX10_digest_156 : decode cX10_digest 156 = .ok (.aload_n 0, 1) := by decide +kernel
theorem dX10_digest_157 : decode cX10_digest 157 = .ok (.iload_n 1, 1) := by decide +kernel
theorem dX10_digest_158 : decode cX10_digest 158 = .ok (.invokevirtual 275, 3) := by decide +kernel
theorem dX10_digest_161 : decode cX10_digest 161 = .ok (.i2l, 1) := by decide +kernel
theorem dX10_digest_162 : decode cX10_digest 162 = .ok (.invokevirtual 284, 3) := by decide +kernel
theorem dX10_digest_165 : decode cX10_digest 165 = .ok (.iinc 1 1, 3) := by decide +kernel
theorem dX10_digest_168 : decode cX10_digest 168 = .ok (.goto (-19), 3) := by decide +kernel
theorem dX10_digest_171 : decode cX10_digest 171 = .ok (.aload_n 0, 1) := by decide +kernel
theorem dX10_digest_172 : decode cX10_digest 172 = .ok (.getfield 280, 3) := by decide +kernel
theorem dX10_digest_175 : decode cX10_digest 175 = .ok (.lreturn, 1) := by decide +kernel
theorem dJ9_max_7cf53_0 : decode cJ9_max_7cf53 0 = .ok (.iload_n 0, 1) := by decide +kernel
theorem dJ9_max_7cf53_1 : decode cJ9_max_7cf53 1 = .ok (.iload_n 1, 1) := by decide +kernel
theorem dJ9_max_7cf53_2 : decode cJ9_max_7cf53 2 = .ok (.if_icmp .lt 7, 3) := by decide +kernel
theorem dJ9_max_7cf53_5 : decode cJ9_max_7cf53 5 = .ok (.iload_n 0, 1) := by decide +kernel
theorem dJ9_max_7cf53_6 : decode cJ9_max_7cf53 6 = .ok (.goto 4, 3) := by decide +kernel
theorem dJ9_max_7cf53_9 : decode cJ9_max_7cf53 9 = .ok (.iload_n 1, 1) := by decide +kernel
theorem dJ9_max_7cf53_10 : decode cJ9_max_7cf53 10 = .ok (.ireturn, 1) := by decide +kernel
theorem dJ9_min_7cf53_0 : decode cJ9_min_7cf53 0 = .ok (.iload_n 0, 1) := by decide +kernel
theorem dJ9_min_7cf53_1 : decode cJ9_min_7cf53 1 = .ok (.iload_n 1, 1) := by decide +kernel
theorem dJ9_min_7cf53_2 : decode cJ9_min_7cf53 2 = .ok (.if_icmp .gt 7, 3) := by decide +kernel
theorem dJ9_min_7cf53_5 : decode cJ9_min_7cf53 5 = .ok (.iload_n 0, 1) := by decide +kernel
theorem dJ9_min_7cf53_6 : decode cJ9_min_7cf53 6 = .ok (.goto 4, 3) := by decide +kernel
theorem dJ9_min_7cf53_9 : decode cJ9_min_7cf53 9 = .ok (.iload_n 1, 1) := by decide +kernel
theorem dJ9_min_7cf53_10 : decode cJ9_min_7cf53 10 = .ok (.ireturn, 1) := by decide +kernel
theorem dJ7_fill_53178_0 : decode cJ7_fill_53178 0 = .ok (.iconst 0, 1) := by decide +kernel
theorem dJ7_fill_53178_1 : decode cJ7_fill_53178 1 = .ok (.istore_n 2, 1) := by decide +kernel
theorem dJ7_fill_53178_2 : decode cJ7_fill_53178 2 = .ok (.aload_n 0, 1) := by decide +kernel
theorem dJ7_fill_53178_3 : decode cJ7_fill_53178 3 = .ok (.arraylength, 1) := by decide +kernel
theorem dJ7_fill_53178_4 : decode cJ7_fill_53178 4 = .ok (.istore_n 3, 1) := by decide +kernel
theorem dJ7_fill_53178_5 : decode cJ7_fill_53178 5 = .ok (.iload_n 2, 1) := by decide +kernel
theorem dJ7_fill_53178_6 : decode cJ7_fill_53178 6 = .ok (.iload_n 3, 1) := by decide +kernel
theorem dJ7_fill_53178_7 : decode cJ7_fill_53178 7 = .ok (.if_icmp .ge 13, 3) := by decide +kernel
theorem dJ7_fill_53178_10 : decode cJ7_fill_53178 10 = .ok (.aload_n 0, 1) := by decide +kernel
theorem dJ7_fill_53178_11 : decode cJ7_fill_53178 11 = .ok (.iload_n 2, 1) := by decide +kernel
theorem dJ7_fill_53178_12 : decode cJ7_fill_53178 12 = .ok (.iload_n 1, 1) := by decide +kernel
theorem dJ7_fill_53178_13 : decode cJ7_fill_53178 13 = .ok (.iastore, 1) := by decide +kernel
theorem dJ7_fill_53178_14 : decode cJ7_fill_53178 14 = .ok (.iinc 2 1, 3) := by decide +kernel
theorem dJ7_fill_53178_17 : decode cJ7_fill_53178 17 = .ok (.goto (-12), 3) := by decide +kernel
theorem dJ7_fill_53178_20 : decode cJ7_fill_53178 20 = .ok (.return_, 1) := by decide +kernel
theorem dL_law_0 : decode cL_law 0 = .ok (.new 7, 3) := by decide +kernel
theorem dL_law_3 : decode cL_law 3 = .ok (.dup, 1) := by decide +kernel
theorem dL_law_4 : decode cL_law 4 = .ok (.invokespecial 9, 3) := by decide +kernel
theorem dL_law_7 : decode cL_law 7 = .ok (.astore_n 1, 1) := by decide +kernel
theorem dL_law_8 : decode cL_law 8 = .ok (.new 10, 3) := by decide +kernel
theorem dL_law_11 : decode cL_law 11 = .ok (.dup, 1) := by decide +kernel
theorem dL_law_12 : decode cL_law 12 = .ok (.invokespecial 12, 3) := by decide +kernel
theorem dL_law_15 : decode cL_law 15 = .ok (.astore_n 2, 1) := by decide +kernel
theorem dL_law_16 : decode cL_law 16 = .ok (.iconst 0, 1) := by decide +kernel
theorem dL_law_17 : decode cL_law 17 = .ok (.istore_n 3, 1) := by decide +kernel
theorem dL_law_18 : decode cL_law 18 = .ok (.iload_n 3, 1) := by decide +kernel
theorem dL_law_19 : decode cL_law 19 = .ok (.aload_n 0, 1) := by decide +kernel
theorem dL_law_20 : decode cL_law 20 = .ok (.arraylength, 1) := by decide +kernel
theorem dL_law_21 : decode cL_law 21 = .ok (.iconst 4, 1) := by decide +kernel
theorem dL_law_22 : decode cL_law 22 = .ok (.isub, 1) := by decide +kernel
theorem dL_law_23 : decode cL_law 23 = .ok (.if_icmp .gt 747, 3) := by decide +kernel
theorem dL_law_26 : decode cL_law 26 = .ok (.aload_n 0, 1) := by decide +kernel
theorem dL_law_27 : decode cL_law 27 = .ok (.iload_n 3, 1) := by decide +kernel
theorem dL_law_28 : decode cL_law 28 = .ok (.iaload, 1) := by decide +kernel
theorem dL_law_29 : decode cL_law 29 = .ok (.bipush 31, 2) := by decide +kernel
theorem dL_law_31 : decode cL_law 31 = .ok (.iand, 1) := by decide +kernel
theorem dL_law_32 : decode cL_law 32 = .ok (.tableswitch 732 0 24 #[116, 139, 152, 165, 178, 211, 244, 277, 310, 333, 346, 379, 412, 455, 478, 511, 524, 567, 600, 613, 626, 669, 682, 695, 718], 116) := by decide +kernel
theorem dL_law_148 : decode cL_law 148 = .ok (.aload_n 1, 1) := by decide +kernel
theorem dL_law_149 : decode cL_law 149 = .ok (.aload_n 0, 1) := by decide +kernel
theorem dL_law_150 : decode cL_law 150 = .ok (.iload_n 3, 1) := by decide +kernel
theorem dL_law_151 : decode cL_law 151 = .ok (.iconst 1, 1) := by decide +kernel
theorem dL_law_152 : decode cL_law 152 = .ok (.iadd, 1) := by decide +kernel
theorem dL_law_153 : decode cL_law 153 = .ok (.iaload, 1) := by decide +kernel
theorem dL_law_154 : decode cL_law 154 = .ok (.invokevirtual 13, 3) := by decide +kernel
theorem dL_law_157 : decode cL_law 157 = .ok (.aload_n 2, 1) := by decide +kernel
theorem dL_law_158 : decode cL_law 158 = .ok (.aload_n 0, 1) := by decide +kernel
theorem dL_law_159 : decode cL_law 159 = .ok (.iload_n 3, 1) := by decide +kernel
theorem dL_law_160 : decode cL_law 160 = .ok (.iconst 1, 1) := by decide +kernel
theorem dL_law_161 : decode cL_law 161 = .ok (.iadd, 1) := by decide +kernel
theorem dL_law_162 : decode cL_law 162 = .ok (.iaload, 1) := by decide +kernel
theorem dL_law_163 : decode cL_law 163 = .ok (.invokevirtual 17, 3) := by decide +kernel
theorem dL_law_166 : decode cL_law 166 = .ok (.if_icmp .eq 598, 3) := by decide +kernel
theorem dL_law_169 : decode cL_law 169 = .ok (.iconst 0, 1) := by decide +kernel
theorem dL_law_170 : decode cL_law 170 = .ok (.ireturn, 1) := by decide +kernel
theorem dL_law_171 : decode cL_law 171 = .ok (.aload_n 1, 1) := by decide +kernel
theorem dL_law_172 : decode cL_law 172 = .ok (.invokevirtual 18, 3) := by decide +kernel
theorem dL_law_175 : decode cL_law 175 = .ok (.aload_n 2, 1) := by decide +kernel
theorem dL_law_176 : decode cL_law 176 = .ok (.invokevirtual 22, 3) := by decide +kernel
theorem dL_law_179 : decode cL_law 179 = .ok (.if_icmp .eq 585, 3) := by decide +kernel
theorem dL_law_182 : decode cL_law 182 = .ok (.iconst 0, 1) := by decide +kernel
theorem dL_law_183 : decode cL_law 183 = .ok (.ireturn, 1) := by decide +kernel
theorem dL_law_184 : decode cL_law 184 = .ok (.aload_n 1, 1) := by decide +kernel
theorem dL_law_185 : decode cL_law 185 = .ok (.invokevirtual 23, 3) := by decide +kernel
theorem dL_law_188 : decode cL_law 188 = .ok (.aload_n 2, 1) := by decide +kernel
theorem dL_law_189 : decode cL_law 189 = .ok (.invokevirtual 26, 3) := by decide +kernel
theorem dL_law_192 : decode cL_law 192 = .ok (.if_icmp .eq 572, 3) := by decide +kernel
theorem dL_law_195 : decode cL_law 195 = .ok (.iconst 0, 1) := by decide +kernel
theorem dL_law_196 : decode cL_law 196 = .ok (.ireturn, 1) := by decide +kernel
theorem dL_law_197 : decode cL_law 197 = .ok (.aload_n 1, 1) := by decide +kernel
theorem dL_law_198 : decode cL_law 198 = .ok (.invokevirtual 27, 3) := by decide +kernel
theorem dL_law_201 : decode cL_law 201 = .ok (.aload_n 2, 1) := by decide +kernel
theorem dL_law_202 : decode cL_law 202 = .ok (.invokevirtual 30, 3) := by decide +kernel
theorem dL_law_205 : decode cL_law 205 = .ok (.if_icmp .eq 559, 3) := by decide +kernel
theorem dL_law_208 : decode cL_law 208 = .ok (.iconst 0, 1) := by decide +kernel
theorem dL_law_209 : decode cL_law 209 = .ok (.ireturn, 1) := by decide +kernel
theorem dL_law_210 : decode cL_law 210 = .ok (.aload_n 1, 1) := by decide +kernel
theorem dL_law_211 : decode cL_law 211 = .ok (.aload_n 0, 1) := by decide +kernel
theorem dL_law_212 : decode cL_law 212 = .ok (.iload_n 3, 1) := by decide +kernel
theorem dL_law_213 : decode cL_law 213 = .ok (.iconst 1, 1) := by decide +kernel
theorem dL_law_214 : decode cL_law 214 = .ok (.iadd, 1) := by decide +kernel
theorem dL_law_215 : decode cL_law 215 = .ok (.iaload, 1) := by decide +kernel
theorem dL_law_216 : decode cL_law 216 = .ok (.aload_n 0, 1) := by decide +kernel
theorem dL_law_217 : decode cL_law 217 = .ok (.iload_n 3, 1) := by decide +kernel
theorem dL_law_218 : decode cL_law 218 = .ok (.iconst 2, 1) := by decide +kernel
theorem dL_law_219 : decode cL_law 219 = .ok (.iadd, 1) := by decide +kernel
theorem dL_law_220 : decode cL_law 220 = .ok (.iaload, 1) := by decide +kernel
theorem dL_law_221 : decode cL_law 221 = .ok (.invokevirtual 31, 3) := by decide +kernel
theorem dL_law_224 : decode cL_law 224 = .ok (.aload_n 2, 1) := by decide +kernel
theorem dL_law_225 : decode cL_law 225 = .ok (.aload_n 0, 1) := by decide +kernel
theorem dL_law_226 : decode cL_law 226 = .ok (.iload_n 3, 1) := by decide +kernel
theorem dL_law_227 : decode cL_law 227 = .ok (.iconst 1, 1) := by decide +kernel
theorem dL_law_228 : decode cL_law 228 = .ok (.iadd, 1) := by decide +kernel
theorem dL_law_229 : decode cL_law 229 = .ok (.iaload, 1) := by decide +kernel
theorem dL_law_230 : decode cL_law 230 = .ok (.aload_n 0, 1) := by decide +kernel
theorem dL_law_231 : decode cL_law 231 = .ok (.iload_n 3, 1) := by decide +kernel
theorem dL_law_232 : decode cL_law 232 = .ok (.iconst 2, 1) := by decide +kernel
theorem dL_law_233 : decode cL_law 233 = .ok (.iadd, 1) := by decide +kernel
theorem dL_law_234 : decode cL_law 234 = .ok (.iaload, 1) := by decide +kernel
theorem dL_law_235 : decode cL_law 235 = .ok (.invokevirtual 35, 3) := by decide +kernel
theorem dL_law_238 : decode cL_law 238 = .ok (.if_icmp .eq 526, 3) := by decide +kernel
theorem dL_law_241 : decode cL_law 241 = .ok (.iconst 0, 1) := by decide +kernel
theorem dL_law_242 : decode cL_law 242 = .ok (.ireturn, 1) := by decide +kernel
theorem dL_law_243 : decode cL_law 243 = .ok (.aload_n 1, 1) := by decide +kernel
theorem dL_law_244 : decode cL_law 244 = .ok (.aload_n 0, 1) := by decide +kernel
theorem dL_law_245 : decode cL_law 245 = .ok (.iload_n 3, 1) := by decide +kernel
theorem dL_law_246 : decode cL_law 246 = .ok (.iconst 1, 1) := by decide +kernel
theorem dL_law_247 : decode cL_law 247 = .ok (.iadd, 1) := by decide +kernel
theorem dL_law_248 : decode cL_law 248 = .ok (.iaload, 1) := by decide +kernel
theorem dL_law_249 : decode cL_law 249 = .ok (.aload_n 0, 1) := by decide +kernel
theorem dL_law_250 : decode cL_law 250 = .ok (.iload_n 3, 1) := by decide +kernel
theorem dL_law_251 : decode cL_law 251 = .ok (.iconst 2, 1) := by decide +kernel
theorem dL_law_252 : decode cL_law 252 = .ok (.iadd, 1) := by decide +kernel
theorem dL_law_253 : decode cL_law 253 = .ok (.iaload, 1) := by decide +kernel
theorem dL_law_254 : decode cL_law 254 = .ok (.invokevirtual 36, 3) := by decide +kernel
theorem dL_law_257 : decode cL_law 257 = .ok (.aload_n 2, 1) := by decide +kernel
theorem dL_law_258 : decode cL_law 258 = .ok (.aload_n 0, 1) := by decide +kernel
theorem dL_law_259 : decode cL_law 259 = .ok (.iload_n 3, 1) := by decide +kernel
theorem dL_law_260 : decode cL_law 260 = .ok (.iconst 1, 1) := by decide +kernel
theorem dL_law_261 : decode cL_law 261 = .ok (.iadd, 1) := by decide +kernel
theorem dL_law_262 : decode cL_law 262 = .ok (.iaload, 1) := by decide +kernel
theorem dL_law_263 : decode cL_law 263 = .ok (.aload_n 0, 1) := by decide +kernel
theorem dL_law_264 : decode cL_law 264 = .ok (.iload_n 3, 1) := by decide +kernel
theorem dL_law_265 : decode cL_law 265 = .ok (.iconst 2, 1) := by decide +kernel
theorem dL_law_266 : decode cL_law 266 = .ok (.iadd, 1) := by decide +kernel
theorem dL_law_267 : decode cL_law 267 = .ok (.iaload, 1) := by decide +kernel
theorem dL_law_268 : decode cL_law 268 = .ok (.invokevirtual 39, 3) := by decide +kernel
theorem dL_law_271 : decode cL_law 271 = .ok (.if_icmp .eq 493, 3) := by decide +kernel
theorem dL_law_274 : decode cL_law 274 = .ok (.iconst 0, 1) := by decide +kernel
theorem dL_law_275 : decode cL_law 275 = .ok (.ireturn, 1) := by decide +kernel
theorem dL_law_276 : decode cL_law 276 = .ok (.aload_n 1, 1) := by decide +kernel
theorem dL_law_277 : decode cL_law 277 = .ok (.aload_n 0, 1) := by decide +kernel
theorem dL_law_278 : decode cL_law 278 = .ok (.iload_n 3, 1) := by decide +kernel
theorem dL_law_279 : decode cL_law 279 = .ok (.iconst 1, 1) := by decide +kernel
theorem dL_law_280 : decode cL_law 280 = .ok (.iadd, 1) := by decide +kernel
theorem dL_law_281 : decode cL_law 281 = .ok (.iaload, 1) := by decide +kernel
theorem dL_law_282 : decode cL_law 282 = .ok (.aload_n 0, 1) := by decide +kernel
theorem dL_law_283 : decode cL_law 283 = .ok (.iload_n 3, 1) := by decide +kernel
theorem dL_law_284 : decode cL_law 284 = .ok (.iconst 2, 1) := by decide +kernel
theorem dL_law_285 : decode cL_law 285 = .ok (.iadd, 1) := by decide +kernel
theorem dL_law_286 : decode cL_law 286 = .ok (.iaload, 1) := by decide +kernel
theorem dL_law_287 : decode cL_law 287 = .ok (.invokevirtual 40, 3) := by decide +kernel
theorem dL_law_290 : decode cL_law 290 = .ok (.aload_n 2, 1) := by decide +kernel
theorem dL_law_291 : decode cL_law 291 = .ok (.aload_n 0, 1) := by decide +kernel
theorem dL_law_292 : decode cL_law 292 = .ok (.iload_n 3, 1) := by decide +kernel
theorem dL_law_293 : decode cL_law 293 = .ok (.iconst 1, 1) := by decide +kernel
theorem dL_law_294 : decode cL_law 294 = .ok (.iadd, 1) := by decide +kernel
theorem dL_law_295 : decode cL_law 295 = .ok (.iaload, 1) := by decide +kernel
theorem dL_law_296 : decode cL_law 296 = .ok (.aload_n 0, 1) := by decide +kernel
theorem dL_law_297 : decode cL_law 297 = .ok (.iload_n 3, 1) := by decide +kernel
theorem dL_law_298 : decode cL_law 298 = .ok (.iconst 2, 1) := by decide +kernel
theorem dL_law_299 : decode cL_law 299 = .ok (.iadd, 1) := by decide +kernel
theorem dL_law_300 : decode cL_law 300 = .ok (.iaload, 1) := by decide +kernel
theorem dL_law_301 : decode cL_law 301 = .ok (.invokevirtual 43, 3) := by decide +kernel
theorem dL_law_304 : decode cL_law 304 = .ok (.if_icmp .eq 460, 3) := by decide +kernel
theorem dL_law_307 : decode cL_law 307 = .ok (.iconst 0, 1) := by decide +kernel
theorem dL_law_308 : decode cL_law 308 = .ok (.ireturn, 1) := by decide +kernel
theorem dL_law_309 : decode cL_law 309 = .ok (.aload_n 1, 1) := by decide +kernel
theorem dL_law_310 : decode cL_law 310 = .ok (.aload_n 0, 1) := by decide +kernel
theorem dL_law_311 : decode cL_law 311 = .ok (.iload_n 3, 1) := by decide +kernel
theorem dL_law_312 : decode cL_law 312 = .ok (.iconst 1, 1) := by decide +kernel
theorem dL_law_313 : decode cL_law 313 = .ok (.iadd, 1) := by decide +kernel
theorem dL_law_314 : decode cL_law 314 = .ok (.iaload, 1) := by decide +kernel
theorem dL_law_315 : decode cL_law 315 = .ok (.aload_n 0, 1) := by decide +kernel
theorem dL_law_316 : decode cL_law 316 = .ok (.iload_n 3, 1) := by decide +kernel
theorem dL_law_317 : decode cL_law 317 = .ok (.iconst 2, 1) := by decide +kernel
theorem dL_law_318 : decode cL_law 318 = .ok (.iadd, 1) := by decide +kernel
theorem dL_law_319 : decode cL_law 319 = .ok (.iaload, 1) := by decide +kernel
theorem dL_law_320 : decode cL_law 320 = .ok (.invokevirtual 44, 3) := by decide +kernel
theorem dL_law_323 : decode cL_law 323 = .ok (.aload_n 2, 1) := by decide +kernel
theorem dL_law_324 : decode cL_law 324 = .ok (.aload_n 0, 1) := by decide +kernel
theorem dL_law_325 : decode cL_law 325 = .ok (.iload_n 3, 1) := by decide +kernel
theorem dL_law_326 : decode cL_law 326 = .ok (.iconst 1, 1) := by decide +kernel
theorem dL_law_327 : decode cL_law 327 = .ok (.iadd, 1) := by decide +kernel
theorem dL_law_328 : decode cL_law 328 = .ok (.iaload, 1) := by decide +kernel
theorem dL_law_329 : decode cL_law 329 = .ok (.aload_n 0, 1) := by decide +kernel
theorem dL_law_330 : decode cL_law 330 = .ok (.iload_n 3, 1) := by decide +kernel
theorem dL_law_331 : decode cL_law 331 = .ok (.iconst 2, 1) := by decide +kernel
theorem dL_law_332 : decode cL_law 332 = .ok (.iadd, 1) := by decide +kernel
theorem dL_law_333 : decode cL_law 333 = .ok (.iaload, 1) := by decide +kernel
theorem dL_law_334 : decode cL_law 334 = .ok (.invokevirtual 47, 3) := by decide +kernel
theorem dL_law_337 : decode cL_law 337 = .ok (.if_icmp .eq 427, 3) := by decide +kernel
theorem dL_law_340 : decode cL_law 340 = .ok (.iconst 0, 1) := by decide +kernel
theorem dL_law_341 : decode cL_law 341 = .ok (.ireturn, 1) := by decide +kernel
theorem dL_law_342 : decode cL_law 342 = .ok (.aload_n 1, 1) := by decide +kernel
theorem dL_law_343 : decode cL_law 343 = .ok (.aload_n 0, 1) := by decide +kernel
theorem dL_law_344 : decode cL_law 344 = .ok (.iload_n 3, 1) := by decide +kernel
theorem dL_law_345 : decode cL_law 345 = .ok (.iconst 1, 1) := by decide +kernel
theorem dL_law_346 : decode cL_law 346 = .ok (.iadd, 1) := by decide +kernel
theorem dL_law_347 : decode cL_law 347 = .ok (.iaload, 1) := by decide +kernel
theorem dL_law_348 : decode cL_law 348 = .ok (.invokevirtual 48, 3) := by decide +kernel
theorem dL_law_351 : decode cL_law 351 = .ok (.aload_n 2, 1) := by decide +kernel
theorem dL_law_352 : decode cL_law 352 = .ok (.aload_n 0, 1) := by decide +kernel
theorem dL_law_353 : decode cL_law 353 = .ok (.iload_n 3, 1) := by decide +kernel
theorem dL_law_354 : decode cL_law 354 = .ok (.iconst 1, 1) := by decide +kernel
theorem dL_law_355 : decode cL_law 355 = .ok (.iadd, 1) := by decide +kernel
theorem dL_law_356 : decode cL_law 356 = .ok (.iaload, 1) := by decide +kernel
theorem dL_law_357 : decode cL_law 357 = .ok (.invokevirtual 51, 3) := by decide +kernel
theorem dL_law_360 : decode cL_law 360 = .ok (.if_icmp .eq 404, 3) := by decide +kernel
theorem dL_law_363 : decode cL_law 363 = .ok (.iconst 0, 1) := by decide +kernel
theorem dL_law_364 : decode cL_law 364 = .ok (.ireturn, 1) := by decide +kernel
theorem dL_law_365 : decode cL_law 365 = .ok (.aload_n 1, 1) := by decide +kernel
theorem dL_law_366 : decode cL_law 366 = .ok (.invokevirtual 52, 3) := by decide +kernel
theorem dL_law_369 : decode cL_law 369 = .ok (.aload_n 2, 1) := by decide +kernel
theorem dL_law_370 : decode cL_law 370 = .ok (.invokevirtual 55, 3) := by decide +kernel
theorem dL_law_373 : decode cL_law 373 = .ok (.if_icmp .eq 391, 3) := by decide +kernel
theorem dL_law_376 : decode cL_law 376 = .ok (.iconst 0, 1) := by decide +kernel
theorem dL_law_377 : decode cL_law 377 = .ok (.ireturn, 1) := by decide +kernel
theorem dL_law_378 : decode cL_law 378 = .ok (.aload_n 1, 1) := by decide +kernel
theorem dL_law_379 : decode cL_law 379 = .ok (.aload_n 0, 1) := by decide +kernel
theorem dL_law_380 : decode cL_law 380 = .ok (.iload_n 3, 1) := by decide +kernel
theorem dL_law_381 : decode cL_law 381 = .ok (.iconst 1, 1) := by decide +kernel
theorem dL_law_382 : decode cL_law 382 = .ok (.iadd, 1) := by decide +kernel
theorem dL_law_383 : decode cL_law 383 = .ok (.iaload, 1) := by decide +kernel
theorem dL_law_384 : decode cL_law 384 = .ok (.aload_n 0, 1) := by decide +kernel
theorem dL_law_385 : decode cL_law 385 = .ok (.iload_n 3, 1) := by decide +kernel
theorem dL_law_386 : decode cL_law 386 = .ok (.iconst 2, 1) := by decide +kernel
theorem dL_law_387 : decode cL_law 387 = .ok (.iadd, 1) := by decide +kernel
theorem dL_law_388 : decode cL_law 388 = .ok (.iaload, 1) := by decide +kernel
theorem dL_law_389 : decode cL_law 389 = .ok (.invokevirtual 56, 3) := by decide +kernel
theorem dL_law_392 : decode cL_law 392 = .ok (.aload_n 2, 1) := by decide +kernel
theorem dL_law_393 : decode cL_law 393 = .ok (.aload_n 0, 1) := by decide +kernel
theorem dL_law_394 : decode cL_law 394 = .ok (.iload_n 3, 1) := by decide +kernel
theorem dL_law_395 : decode cL_law 395 = .ok (.iconst 1, 1) := by decide +kernel
theorem dL_law_396 : decode cL_law 396 = .ok (.iadd, 1) := by decide +kernel
theorem dL_law_397 : decode cL_law 397 = .ok (.iaload, 1) := by decide +kernel
theorem dL_law_398 : decode cL_law 398 = .ok (.aload_n 0, 1) := by decide +kernel
theorem dL_law_399 : decode cL_law 399 = .ok (.iload_n 3, 1) := by decide +kernel
theorem dL_law_400 : decode cL_law 400 = .ok (.iconst 2, 1) := by decide +kernel
theorem dL_law_401 : decode cL_law 401 = .ok (.iadd, 1) := by decide +kernel
theorem dL_law_402 : decode cL_law 402 = .ok (.iaload, 1) := by decide +kernel
theorem dL_law_403 : decode cL_law 403 = .ok (.invokevirtual 59, 3) := by decide +kernel
theorem dL_law_406 : decode cL_law 406 = .ok (.if_icmp .eq 358, 3) := by decide +kernel
theorem dL_law_409 : decode cL_law 409 = .ok (.iconst 0, 1) := by decide +kernel
theorem dL_law_410 : decode cL_law 410 = .ok (.ireturn, 1) := by decide +kernel
theorem dL_law_411 : decode cL_law 411 = .ok (.aload_n 1, 1) := by decide +kernel
theorem dL_law_412 : decode cL_law 412 = .ok (.aload_n 0, 1) := by decide +kernel
theorem dL_law_413 : decode cL_law 413 = .ok (.iload_n 3, 1) := by decide +kernel
theorem dL_law_414 : decode cL_law 414 = .ok (.iconst 1, 1) := by decide +kernel
theorem dL_law_415 : decode cL_law 415 = .ok (.iadd, 1) := by decide +kernel
theorem dL_law_416 : decode cL_law 416 = .ok (.iaload, 1) := by decide +kernel
theorem dL_law_417 : decode cL_law 417 = .ok (.aload_n 0, 1) := by decide +kernel
theorem dL_law_418 : decode cL_law 418 = .ok (.iload_n 3, 1) := by decide +kernel
theorem dL_law_419 : decode cL_law 419 = .ok (.iconst 2, 1) := by decide +kernel
theorem dL_law_420 : decode cL_law 420 = .ok (.iadd, 1) := by decide +kernel
theorem dL_law_421 : decode cL_law 421 = .ok (.iaload, 1) := by decide +kernel
theorem dL_law_422 : decode cL_law 422 = .ok (.invokevirtual 60, 3) := by decide +kernel
theorem dL_law_425 : decode cL_law 425 = .ok (.aload_n 2, 1) := by decide +kernel
theorem dL_law_426 : decode cL_law 426 = .ok (.aload_n 0, 1) := by decide +kernel
theorem dL_law_427 : decode cL_law 427 = .ok (.iload_n 3, 1) := by decide +kernel
theorem dL_law_428 : decode cL_law 428 = .ok (.iconst 1, 1) := by decide +kernel
theorem dL_law_429 : decode cL_law 429 = .ok (.iadd, 1) := by decide +kernel
theorem dL_law_430 : decode cL_law 430 = .ok (.iaload, 1) := by decide +kernel
theorem dL_law_431 : decode cL_law 431 = .ok (.aload_n 0, 1) := by decide +kernel
theorem dL_law_432 : decode cL_law 432 = .ok (.iload_n 3, 1) := by decide +kernel
theorem dL_law_433 : decode cL_law 433 = .ok (.iconst 2, 1) := by decide +kernel
theorem dL_law_434 : decode cL_law 434 = .ok (.iadd, 1) := by decide +kernel
theorem dL_law_435 : decode cL_law 435 = .ok (.iaload, 1) := by decide +kernel
theorem dL_law_436 : decode cL_law 436 = .ok (.invokevirtual 63, 3) := by decide +kernel
theorem dL_law_439 : decode cL_law 439 = .ok (.if_icmp .eq 325, 3) := by decide +kernel
theorem dL_law_442 : decode cL_law 442 = .ok (.iconst 0, 1) := by decide +kernel
theorem dL_law_443 : decode cL_law 443 = .ok (.ireturn, 1) := by decide +kernel
theorem dL_law_444 : decode cL_law 444 = .ok (.aload_n 1, 1) := by decide +kernel
theorem dL_law_445 : decode cL_law 445 = .ok (.aload_n 0, 1) := by decide +kernel
theorem dL_law_446 : decode cL_law 446 = .ok (.iload_n 3, 1) := by decide +kernel
theorem dL_law_447 : decode cL_law 447 = .ok (.iconst 1, 1) := by decide +kernel
theorem dL_law_448 : decode cL_law 448 = .ok (.iadd, 1) := by decide +kernel
theorem dL_law_449 : decode cL_law 449 = .ok (.iaload, 1) := by decide +kernel
theorem dL_law_450 : decode cL_law 450 = .ok (.aload_n 0, 1) := by decide +kernel
theorem dL_law_451 : decode cL_law 451 = .ok (.iload_n 3, 1) := by decide +kernel
theorem dL_law_452 : decode cL_law 452 = .ok (.iconst 2, 1) := by decide +kernel
theorem dL_law_453 : decode cL_law 453 = .ok (.iadd, 1) := by decide +kernel
theorem dL_law_454 : decode cL_law 454 = .ok (.iaload, 1) := by decide +kernel
theorem dL_law_455 : decode cL_law 455 = .ok (.aload_n 0, 1) := by decide +kernel
theorem dL_law_456 : decode cL_law 456 = .ok (.iload_n 3, 1) := by decide +kernel
theorem dL_law_457 : decode cL_law 457 = .ok (.iconst 3, 1) := by decide +kernel
theorem dL_law_458 : decode cL_law 458 = .ok (.iadd, 1) := by decide +kernel
theorem dL_law_459 : decode cL_law 459 = .ok (.iaload, 1) := by decide +kernel
theorem dL_law_460 : decode cL_law 460 = .ok (.invokevirtual 64, 3) := by decide +kernel
theorem dL_law_463 : decode cL_law 463 = .ok (.aload_n 2, 1) := by decide +kernel
theorem dL_law_464 : decode cL_law 464 = .ok (.aload_n 0, 1) := by decide +kernel
theorem dL_law_465 : decode cL_law 465 = .ok (.iload_n 3, 1) := by decide +kernel
theorem dL_law_466 : decode cL_law 466 = .ok (.iconst 1, 1) := by decide +kernel
theorem dL_law_467 : decode cL_law 467 = .ok (.iadd, 1) := by decide +kernel
theorem dL_law_468 : decode cL_law 468 = .ok (.iaload, 1) := by decide +kernel
theorem dL_law_469 : decode cL_law 469 = .ok (.aload_n 0, 1) := by decide +kernel
theorem dL_law_470 : decode cL_law 470 = .ok (.iload_n 3, 1) := by decide +kernel
theorem dL_law_471 : decode cL_law 471 = .ok (.iconst 2, 1) := by decide +kernel
theorem dL_law_472 : decode cL_law 472 = .ok (.iadd, 1) := by decide +kernel
theorem dL_law_473 : decode cL_law 473 = .ok (.iaload, 1) := by decide +kernel
theorem dL_law_474 : decode cL_law 474 = .ok (.aload_n 0, 1) := by decide +kernel
theorem dL_law_475 : decode cL_law 475 = .ok (.iload_n 3, 1) := by decide +kernel
theorem dL_law_476 : decode cL_law 476 = .ok (.iconst 3, 1) := by decide +kernel
theorem dL_law_477 : decode cL_law 477 = .ok (.iadd, 1) := by decide +kernel
theorem dL_law_478 : decode cL_law 478 = .ok (.iaload, 1) := by decide +kernel
theorem dL_law_479 : decode cL_law 479 = .ok (.invokevirtual 68, 3) := by decide +kernel
theorem dL_law_482 : decode cL_law 482 = .ok (.if_icmp .eq 282, 3) := by decide +kernel
theorem dL_law_485 : decode cL_law 485 = .ok (.iconst 0, 1) := by decide +kernel
theorem dL_law_486 : decode cL_law 486 = .ok (.ireturn, 1) := by decide +kernel
theorem dL_law_487 : decode cL_law 487 = .ok (.aload_n 1, 1) := by decide +kernel
theorem dL_law_488 : decode cL_law 488 = .ok (.aload_n 0, 1) := by decide +kernel
theorem dL_law_489 : decode cL_law 489 = .ok (.iload_n 3, 1) := by decide +kernel
theorem dL_law_490 : decode cL_law 490 = .ok (.iconst 1, 1) := by decide +kernel
theorem dL_law_491 : decode cL_law 491 = .ok (.iadd, 1) := by decide +kernel
theorem dL_law_492 : decode cL_law 492 = .ok (.iaload, 1) := by decide +kernel
theorem dL_law_493 : decode cL_law 493 = .ok (.invokevirtual 69, 3) := by decide +kernel
theorem dL_law_496 : decode cL_law 496 = .ok (.aload_n 2, 1) := by decide +kernel
theorem dL_law_497 : decode cL_law 497 = .ok (.aload_n 0, 1) := by decide +kernel
theorem dL_law_498 : decode cL_law 498 = .ok (.iload_n 3, 1) := by decide +kernel
theorem dL_law_499 : decode cL_law 499 = .ok (.iconst 1, 1) := by decide +kernel
theorem dL_law_500 : decode cL_law 500 = .ok (.iadd, 1) := by decide +kernel
theorem dL_law_501 : decode cL_law 501 = .ok (.iaload, 1) := by decide +kernel
theorem dL_law_502 : decode cL_law 502 = .ok (.invokevirtual 72, 3) := by decide +kernel
theorem dL_law_505 : decode cL_law 505 = .ok (.if_icmp .eq 259, 3) := by decide +kernel
theorem dL_law_508 : decode cL_law 508 = .ok (.iconst 0, 1) := by decide +kernel
theorem dL_law_509 : decode cL_law 509 = .ok (.ireturn, 1) := by decide +kernel
theorem dL_law_510 : decode cL_law 510 = .ok (.aload_n 1, 1) := by decide +kernel
theorem dL_law_511 : decode cL_law 511 = .ok (.aload_n 0, 1) := by decide +kernel
theorem dL_law_512 : decode cL_law 512 = .ok (.iload_n 3, 1) := by decide +kernel
theorem dL_law_513 : decode cL_law 513 = .ok (.iconst 1, 1) := by decide +kernel
theorem dL_law_514 : decode cL_law 514 = .ok (.iadd, 1) := by decide +kernel
theorem dL_law_515 : decode cL_law 515 = .ok (.iaload, 1) := by decide +kernel
theorem dL_law_516 : decode cL_law 516 = .ok (.aload_n 0, 1) := by decide +kernel
theorem dL_law_517 : decode cL_law 517 = .ok (.iload_n 3, 1) := by decide +kernel
theorem dL_law_518 : decode cL_law 518 = .ok (.iconst 2, 1) := by decide +kernel
theorem dL_law_519 : decode cL_law 519 = .ok (.iadd, 1) := by decide +kernel
theorem dL_law_520 : decode cL_law 520 = .ok (.iaload, 1) := by decide +kernel
theorem dL_law_521 : decode cL_law 521 = .ok (.invokevirtual 73, 3) := by decide +kernel
theorem dL_law_524 : decode cL_law 524 = .ok (.aload_n 2, 1) := by decide +kernel
theorem dL_law_525 : decode cL_law 525 = .ok (.aload_n 0, 1) := by decide +kernel
theorem dL_law_526 : decode cL_law 526 = .ok (.iload_n 3, 1) := by decide +kernel
theorem dL_law_527 : decode cL_law 527 = .ok (.iconst 1, 1) := by decide +kernel
theorem dL_law_528 : decode cL_law 528 = .ok (.iadd, 1) := by decide +kernel
theorem dL_law_529 : decode cL_law 529 = .ok (.iaload, 1) := by decide +kernel
theorem dL_law_530 : decode cL_law 530 = .ok (.aload_n 0, 1) := by decide +kernel
theorem dL_law_531 : decode cL_law 531 = .ok (.iload_n 3, 1) := by decide +kernel
theorem dL_law_532 : decode cL_law 532 = .ok (.iconst 2, 1) := by decide +kernel
theorem dL_law_533 : decode cL_law 533 = .ok (.iadd, 1) := by decide +kernel
theorem dL_law_534 : decode cL_law 534 = .ok (.iaload, 1) := by decide +kernel
theorem dL_law_535 : decode cL_law 535 = .ok (.invokevirtual 76, 3) := by decide +kernel
theorem dL_law_538 : decode cL_law 538 = .ok (.if_icmp .eq 226, 3) := by decide +kernel
theorem dL_law_541 : decode cL_law 541 = .ok (.iconst 0, 1) := by decide +kernel
theorem dL_law_542 : decode cL_law 542 = .ok (.ireturn, 1) := by decide +kernel
theorem dL_law_543 : decode cL_law 543 = .ok (.aload_n 1, 1) := by decide +kernel
theorem dL_law_544 : decode cL_law 544 = .ok (.invokevirtual 77, 3) := by decide +kernel
theorem dL_law_547 : decode cL_law 547 = .ok (.aload_n 2, 1) := by decide +kernel
theorem dL_law_548 : decode cL_law 548 = .ok (.invokevirtual 80, 3) := by decide +kernel
theorem dL_law_551 : decode cL_law 551 = .ok (.if_icmp .eq 213, 3) := by decide +kernel
theorem dL_law_554 : decode cL_law 554 = .ok (.iconst 0, 1) := by decide +kernel
theorem dL_law_555 : decode cL_law 555 = .ok (.ireturn, 1) := by decide +kernel
theorem dL_law_556 : decode cL_law 556 = .ok (.aload_n 1, 1) := by decide +kernel
theorem dL_law_557 : decode cL_law 557 = .ok (.aload_n 0, 1) := by decide +kernel
theorem dL_law_558 : decode cL_law 558 = .ok (.iload_n 3, 1) := by decide +kernel
theorem dL_law_559 : decode cL_law 559 = .ok (.iconst 1, 1) := by decide +kernel
theorem dL_law_560 : decode cL_law 560 = .ok (.iadd, 1) := by decide +kernel
theorem dL_law_561 : decode cL_law 561 = .ok (.iaload, 1) := by decide +kernel
theorem dL_law_562 : decode cL_law 562 = .ok (.aload_n 0, 1) := by decide +kernel
theorem dL_law_563 : decode cL_law 563 = .ok (.iload_n 3, 1) := by decide +kernel
theorem dL_law_564 : decode cL_law 564 = .ok (.iconst 2, 1) := by decide +kernel
theorem dL_law_565 : decode cL_law 565 = .ok (.iadd, 1) := by decide +kernel
theorem dL_law_566 : decode cL_law 566 = .ok (.iaload, 1) := by decide +kernel
theorem dL_law_567 : decode cL_law 567 = .ok (.aload_n 0, 1) := by decide +kernel
theorem dL_law_568 : decode cL_law 568 = .ok (.iload_n 3, 1) := by decide +kernel
theorem dL_law_569 : decode cL_law 569 = .ok (.iconst 3, 1) := by decide +kernel
theorem dL_law_570 : decode cL_law 570 = .ok (.iadd, 1) := by decide +kernel
theorem dL_law_571 : decode cL_law 571 = .ok (.iaload, 1) := by decide +kernel
theorem dL_law_572 : decode cL_law 572 = .ok (.invokevirtual 81, 3) := by decide +kernel
theorem dL_law_575 : decode cL_law 575 = .ok (.aload_n 2, 1) := by decide +kernel
theorem dL_law_576 : decode cL_law 576 = .ok (.aload_n 0, 1) := by decide +kernel
theorem dL_law_577 : decode cL_law 577 = .ok (.iload_n 3, 1) := by decide +kernel
theorem dL_law_578 : decode cL_law 578 = .ok (.iconst 1, 1) := by decide +kernel
theorem dL_law_579 : decode cL_law 579 = .ok (.iadd, 1) := by decide +kernel
theorem dL_law_580 : decode cL_law 580 = .ok (.iaload, 1) := by decide +kernel
theorem dL_law_581 : decode cL_law 581 = .ok (.aload_n 0, 1) := by decide +kernel
theorem dL_law_582 : decode cL_law 582 = .ok (.iload_n 3, 1) := by decide +kernel
theorem dL_law_583 : decode cL_law 583 = .ok (.iconst 2, 1) := by decide +kernel
theorem dL_law_584 : decode cL_law 584 = .ok (.iadd, 1) := by decide +kernel
theorem dL_law_585 : decode cL_law 585 = .ok (.iaload, 1) := by decide +kernel
theorem dL_law_586 : decode cL_law 586 = .ok (.aload_n 0, 1) := by decide +kernel
theorem dL_law_587 : decode cL_law 587 = .ok (.iload_n 3, 1) := by decide +kernel
theorem dL_law_588 : decode cL_law 588 = .ok (.iconst 3, 1) := by decide +kernel
theorem dL_law_589 : decode cL_law 589 = .ok (.iadd, 1) := by decide +kernel
theorem dL_law_590 : decode cL_law 590 = .ok (.iaload, 1) := by decide +kernel
theorem dL_law_591 : decode cL_law 591 = .ok (.invokevirtual 84, 3) := by decide +kernel
theorem dL_law_594 : decode cL_law 594 = .ok (.if_icmp .eq 170, 3) := by decide +kernel
theorem dL_law_597 : decode cL_law 597 = .ok (.iconst 0, 1) := by decide +kernel
theorem dL_law_598 : decode cL_law 598 = .ok (.ireturn, 1) := by decide +kernel
theorem dL_law_599 : decode cL_law 599 = .ok (.aload_n 1, 1) := by decide +kernel
theorem dL_law_600 : decode cL_law 600 = .ok (.aload_n 0, 1) := by decide +kernel
theorem dL_law_601 : decode cL_law 601 = .ok (.iload_n 3, 1) := by decide +kernel
theorem dL_law_602 : decode cL_law 602 = .ok (.iconst 1, 1) := by decide +kernel
theorem dL_law_603 : decode cL_law 603 = .ok (.iadd, 1) := by decide +kernel
theorem dL_law_604 : decode cL_law 604 = .ok (.iaload, 1) := by decide +kernel
theorem dL_law_605 : decode cL_law 605 = .ok (.aload_n 0, 1) := by decide +kernel
theorem dL_law_606 : decode cL_law 606 = .ok (.iload_n 3, 1) := by decide +kernel
theorem dL_law_607 : decode cL_law 607 = .ok (.iconst 2, 1) := by decide +kernel
theorem dL_law_608 : decode cL_law 608 = .ok (.iadd, 1) := by decide +kernel
theorem dL_law_609 : decode cL_law 609 = .ok (.iaload, 1) := by decide +kernel
theorem dL_law_610 : decode cL_law 610 = .ok (.invokevirtual 85, 3) := by decide +kernel
theorem dL_law_613 : decode cL_law 613 = .ok (.aload_n 2, 1) := by decide +kernel
theorem dL_law_614 : decode cL_law 614 = .ok (.aload_n 0, 1) := by decide +kernel
theorem dL_law_615 : decode cL_law 615 = .ok (.iload_n 3, 1) := by decide +kernel
theorem dL_law_616 : decode cL_law 616 = .ok (.iconst 1, 1) := by decide +kernel
theorem dL_law_617 : decode cL_law 617 = .ok (.iadd, 1) := by decide +kernel
theorem dL_law_618 : decode cL_law 618 = .ok (.iaload, 1) := by decide +kernel
theorem dL_law_619 : decode cL_law 619 = .ok (.aload_n 0, 1) := by decide +kernel
theorem dL_law_620 : decode cL_law 620 = .ok (.iload_n 3, 1) := by decide +kernel
theorem dL_law_621 : decode cL_law 621 = .ok (.iconst 2, 1) := by decide +kernel
theorem dL_law_622 : decode cL_law 622 = .ok (.iadd, 1) := by decide +kernel
theorem dL_law_623 : decode cL_law 623 = .ok (.iaload, 1) := by decide +kernel
theorem dL_law_624 : decode cL_law 624 = .ok (.invokevirtual 88, 3) := by decide +kernel
theorem dL_law_627 : decode cL_law 627 = .ok (.if_icmp .eq 137, 3) := by decide +kernel
theorem dL_law_630 : decode cL_law 630 = .ok (.iconst 0, 1) := by decide +kernel
theorem dL_law_631 : decode cL_law 631 = .ok (.ireturn, 1) := by decide +kernel
theorem dL_law_632 : decode cL_law 632 = .ok (.aload_n 1, 1) := by decide +kernel
theorem dL_law_633 : decode cL_law 633 = .ok (.invokevirtual 89, 3) := by decide +kernel
theorem dL_law_636 : decode cL_law 636 = .ok (.aload_n 2, 1) := by decide +kernel
theorem dL_law_637 : decode cL_law 637 = .ok (.invokevirtual 92, 3) := by decide +kernel
theorem dL_law_640 : decode cL_law 640 = .ok (.if_icmp .eq 124, 3) := by decide +kernel
theorem dL_law_643 : decode cL_law 643 = .ok (.iconst 0, 1) := by decide +kernel
theorem dL_law_644 : decode cL_law 644 = .ok (.ireturn, 1) := by decide +kernel
theorem dL_law_645 : decode cL_law 645 = .ok (.aload_n 1, 1) := by decide +kernel
theorem dL_law_646 : decode cL_law 646 = .ok (.invokevirtual 93, 3) := by decide +kernel
theorem dL_law_649 : decode cL_law 649 = .ok (.aload_n 2, 1) := by decide +kernel
theorem dL_law_650 : decode cL_law 650 = .ok (.invokevirtual 96, 3) := by decide +kernel
theorem dL_law_653 : decode cL_law 653 = .ok (.if_icmp .eq 111, 3) := by decide +kernel
theorem dL_law_656 : decode cL_law 656 = .ok (.iconst 0, 1) := by decide +kernel
theorem dL_law_657 : decode cL_law 657 = .ok (.ireturn, 1) := by decide +kernel
theorem dL_law_658 : decode cL_law 658 = .ok (.aload_n 1, 1) := by decide +kernel
theorem dL_law_659 : decode cL_law 659 = .ok (.aload_n 0, 1) := by decide +kernel
theorem dL_law_660 : decode cL_law 660 = .ok (.iload_n 3, 1) := by decide +kernel
theorem dL_law_661 : decode cL_law 661 = .ok (.iconst 1, 1) := by decide +kernel
theorem dL_law_662 : decode cL_law 662 = .ok (.iadd, 1) := by decide +kernel
theorem dL_law_663 : decode cL_law 663 = .ok (.iaload, 1) := by decide +kernel
theorem dL_law_664 : decode cL_law 664 = .ok (.aload_n 0, 1) := by decide +kernel
theorem dL_law_665 : decode cL_law 665 = .ok (.iload_n 3, 1) := by decide +kernel
theorem dL_law_666 : decode cL_law 666 = .ok (.iconst 2, 1) := by decide +kernel
theorem dL_law_667 : decode cL_law 667 = .ok (.iadd, 1) := by decide +kernel
theorem dL_law_668 : decode cL_law 668 = .ok (.iaload, 1) := by decide +kernel
theorem dL_law_669 : decode cL_law 669 = .ok (.aload_n 0, 1) := by decide +kernel
theorem dL_law_670 : decode cL_law 670 = .ok (.iload_n 3, 1) := by decide +kernel
theorem dL_law_671 : decode cL_law 671 = .ok (.iconst 3, 1) := by decide +kernel
theorem dL_law_672 : decode cL_law 672 = .ok (.iadd, 1) := by decide +kernel
theorem dL_law_673 : decode cL_law 673 = .ok (.iaload, 1) := by decide +kernel
theorem dL_law_674 : decode cL_law 674 = .ok (.invokevirtual 97, 3) := by decide +kernel
theorem dL_law_677 : decode cL_law 677 = .ok (.aload_n 2, 1) := by decide +kernel
theorem dL_law_678 : decode cL_law 678 = .ok (.aload_n 0, 1) := by decide +kernel
theorem dL_law_679 : decode cL_law 679 = .ok (.iload_n 3, 1) := by decide +kernel
theorem dL_law_680 : decode cL_law 680 = .ok (.iconst 1, 1) := by decide +kernel
theorem dL_law_681 : decode cL_law 681 = .ok (.iadd, 1) := by decide +kernel
theorem dL_law_682 : decode cL_law 682 = .ok (.iaload, 1) := by decide +kernel
theorem dL_law_683 : decode cL_law 683 = .ok (.aload_n 0, 1) := by decide +kernel
theorem dL_law_684 : decode cL_law 684 = .ok (.iload_n 3, 1) := by decide +kernel
theorem dL_law_685 : decode cL_law 685 = .ok (.iconst 2, 1) := by decide +kernel
theorem dL_law_686 : decode cL_law 686 = .ok (.iadd, 1) := by decide +kernel
theorem dL_law_687 : decode cL_law 687 = .ok (.iaload, 1) := by decide +kernel
theorem dL_law_688 : decode cL_law 688 = .ok (.aload_n 0, 1) := by decide +kernel
theorem dL_law_689 : decode cL_law 689 = .ok (.iload_n 3, 1) := by decide +kernel
theorem dL_law_690 : decode cL_law 690 = .ok (.iconst 3, 1) := by decide +kernel
theorem dL_law_691 : decode cL_law 691 = .ok (.iadd, 1) := by decide +kernel
theorem dL_law_692 : decode cL_law 692 = .ok (.iaload, 1) := by decide +kernel
theorem dL_law_693 : decode cL_law 693 = .ok (.invokevirtual 100, 3) := by decide +kernel
theorem dL_law_696 : decode cL_law 696 = .ok (.if_icmp .eq 68, 3) := by decide +kernel
theorem dL_law_699 : decode cL_law 699 = .ok (.iconst 0, 1) := by decide +kernel
theorem dL_law_700 : decode cL_law 700 = .ok (.ireturn, 1) := by decide +kernel
theorem dL_law_701 : decode cL_law 701 = .ok (.aload_n 1, 1) := by decide +kernel
theorem dL_law_702 : decode cL_law 702 = .ok (.invokevirtual 101, 3) := by decide +kernel
theorem dL_law_705 : decode cL_law 705 = .ok (.aload_n 2, 1) := by decide +kernel
theorem dL_law_706 : decode cL_law 706 = .ok (.invokevirtual 104, 3) := by decide +kernel
theorem dL_law_709 : decode cL_law 709 = .ok (.if_icmp .eq 55, 3) := by decide +kernel
theorem dL_law_712 : decode cL_law 712 = .ok (.iconst 0, 1) := by decide +kernel
theorem dL_law_713 : decode cL_law 713 = .ok (.ireturn, 1) := by decide +kernel
theorem dL_law_714 : decode cL_law 714 = .ok (.aload_n 1, 1) := by decide +kernel
theorem dL_law_715 : decode cL_law 715 = .ok (.invokevirtual 105, 3) := by decide +kernel
theorem dL_law_718 : decode cL_law 718 = .ok (.aload_n 2, 1) := by decide +kernel
theorem dL_law_719 : decode cL_law 719 = .ok (.invokevirtual 108, 3) := by decide +kernel
theorem dL_law_722 : decode cL_law 722 = .ok (.if_icmp .eq 42, 3) := by decide +kernel
theorem dL_law_725 : decode cL_law 725 = .ok (.iconst 0, 1) := by decide +kernel
theorem dL_law_726 : decode cL_law 726 = .ok (.ireturn, 1) := by decide +kernel
theorem dL_law_727 : decode cL_law 727 = .ok (.aload_n 1, 1) := by decide +kernel
theorem dL_law_728 : decode cL_law 728 = .ok (.aload_n 0, 1) := by decide +kernel
theorem dL_law_729 : decode cL_law 729 = .ok (.iload_n 3, 1) := by decide +kernel
theorem dL_law_730 : decode cL_law 730 = .ok (.iconst 1, 1) := by decide +kernel
theorem dL_law_731 : decode cL_law 731 = .ok (.iadd, 1) := by decide +kernel
theorem dL_law_732 : decode cL_law 732 = .ok (.iaload, 1) := by decide +kernel
theorem dL_law_733 : decode cL_law 733 = .ok (.invokevirtual 109, 3) := by decide +kernel
theorem dL_law_736 : decode cL_law 736 = .ok (.aload_n 2, 1) := by decide +kernel
theorem dL_law_737 : decode cL_law 737 = .ok (.aload_n 0, 1) := by decide +kernel
theorem dL_law_738 : decode cL_law 738 = .ok (.iload_n 3, 1) := by decide +kernel
theorem dL_law_739 : decode cL_law 739 = .ok (.iconst 1, 1) := by decide +kernel
theorem dL_law_740 : decode cL_law 740 = .ok (.iadd, 1) := by decide +kernel
theorem dL_law_741 : decode cL_law 741 = .ok (.iaload, 1) := by decide +kernel
theorem dL_law_742 : decode cL_law 742 = .ok (.invokevirtual 112, 3) := by decide +kernel
theorem dL_law_745 : decode cL_law 745 = .ok (.if_icmp .eq 19, 3) := by decide +kernel
theorem dL_law_748 : decode cL_law 748 = .ok (.iconst 0, 1) := by decide +kernel
theorem dL_law_749 : decode cL_law 749 = .ok (.ireturn, 1) := by decide +kernel
theorem dL_law_750 : decode cL_law 750 = .ok (.aload_n 1, 1) := by decide +kernel
theorem dL_law_751 : decode cL_law 751 = .ok (.invokevirtual 113, 3) := by decide +kernel
theorem dL_law_754 : decode cL_law 754 = .ok (.aload_n 2, 1) := by decide +kernel
theorem dL_law_755 : decode cL_law 755 = .ok (.invokevirtual 117, 3) := by decide +kernel
theorem dL_law_758 : decode cL_law 758 = .ok (.lcmp, 1) := by decide +kernel
theorem dL_law_759 : decode cL_law 759 = .ok (.ifCond .eq 5, 3) := by decide +kernel
theorem dL_law_762 : decode cL_law 762 = .ok (.iconst 0, 1) := by decide +kernel
theorem dL_law_763 : decode cL_law 763 = .ok (.ireturn, 1) := by decide +kernel
theorem dL_law_764 : decode cL_law 764 = .ok (.iinc 3 4, 3) := by decide +kernel
theorem dL_law_767 : decode cL_law 767 = .ok (.goto (-749), 3) := by decide +kernel
theorem dL_law_770 : decode cL_law 770 = .ok (.iconst 1, 1) := by decide +kernel
theorem dL_law_771 : decode cL_law 771 = .ok (.ireturn, 1) := by decide +kernel
