theorem dX10_init_65 : decode cX10_init 65 = .ok (.iconst 3, 1) := by decide +kernel
theorem dX10_init_66 : decode cX10_init 66 = .ok (.newarray .int, 2) := by decide +kernel
theorem dX10_init_68 : decode cX10_init 68 = .ok (.putfield 34, 3) := by decide +kernel
theorem dX10_init_71 : decode cX10_init 71 = .ok (.aload_n 0, 1) := by decide +kernel
theorem dX10_init_72 : decode cX10_init 72 = .ok (.iconst 5, 1) := by decide +kernel
theorem dX10_init_73 : decode cX10_init 73 = .ok (.newarray .int, 2) := by decide +kernel
theorem dX10_init_75 : decode cX10_init 75 = .ok (.putfield 37, 3) := by decide +kernel
theorem dX10_init_78 : decode cX10_init 78 = .ok (.aload_n 0, 1) := by decide +kernel
theorem dX10_init_79 : decode cX10_init 79 = .ok (.iconst 5, 1) := by decide +kernel
theorem dX10_init_80 : decode cX10_init 80 = .ok (.newarray .int, 2) := by decide +kernel
theorem dX10_init_82 : decode cX10_init 82 = .ok (.putfield 40, 3) := by decide +kernel
theorem dX10_init_85 : decode cX10_init 85 = .ok (.aload_n 0, 1) := by decide +kernel
theorem dX10_init_86 : decode cX10_init 86 = .ok (.bipush 12, 2) := by decide +kernel
theorem dX10_init_88 : decode cX10_init 88 = .ok (.newarray .int, 2) := by decide +kernel
theorem dX10_init_90 : decode cX10_init 90 = .ok (.putfield 43, 3) := by decide +kernel
theorem dX10_init_93 : decode cX10_init 93 = .ok (.aload_n 0, 1) := by decide +kernel
theorem dX10_init_94 : decode cX10_init 94 = .ok (.iconst (-1), 1) := by decide +kernel
theorem dX10_init_95 : decode cX10_init 95 = .ok (.putfield 46, 3) := by decide +kernel
theorem dX10_init_98 : decode cX10_init 98 = .ok (.return_, 1) := by decide +kernel
theorem dX10_in_0 : decode cX10_in 0 = .ok (.lload_n 0, 1) := by decide +kernel
theorem dX10_in_1 : decode cX10_in 1 = .ok (.lload_n 2, 1) := by decide +kernel
theorem dX10_in_2 : decode cX10_in 2 = .ok (.lcmp, 1) := by decide +kernel
theorem dX10_in_3 : decode cX10_in 3 = .ok (.ifCond .lt 14, 3) := by decide +kernel
theorem dX10_in_6 : decode cX10_in 6 = .ok (.lload_n 0, 1) := by decide +kernel
theorem dX10_in_7 : decode cX10_in 7 = .ok (.lload 4, 2) := by decide +kernel
theorem dX10_in_9 : decode cX10_in 9 = .ok (.lcmp, 1) := by decide +kernel
theorem dX10_in_10 : decode cX10_in 10 = .ok (.ifCond .gt 7, 3) := by decide +kernel
theorem dX10_in_13 : decode cX10_in 13 = .ok (.iconst 1, 1) := by decide +kernel
theorem dX10_in_14 : decode cX10_in 14 = .ok (.goto 4, 3) := by decide +kernel
theorem dX10_in_17 : decode cX10_in 17 = .ok (.iconst 0, 1) := by decide +kernel
theorem dX10_in_18 : decode cX10_in 18 = .ok (.ireturn, 1) := by decide +kernel
theorem dX10_copy_0 : decode cX10_copy 0 = .ok (.iconst 0, 1) := by decide +kernel
theorem dX10_copy_1 : decode cX10_copy 1 = .ok (.istore_n 2, 1) := by decide +kernel
theorem dX10_copy_2 : decode cX10_copy 2 = .ok (.iload_n 2, 1) := by decide +kernel
theorem dX10_copy_3 : decode cX10_copy 3 = .ok (.aload_n 0, 1) := by decide +kernel
theorem dX10_copy_4 : decode cX10_copy 4 = .ok (.arraylength, 1) := by decide +kernel
theorem dX10_copy_5 : decode cX10_copy 5 = .ok (.if_icmp .ge 15, 3) := by decide +kernel
theorem dX10_copy_8 : decode cX10_copy 8 = .ok (.aload_n 1, 1) := by decide +kernel
theorem dX10_copy_9 : decode cX10_copy 9 = .ok (.iload_n 2, 1) := by decide +kernel
theorem dX10_copy_10 : decode cX10_copy 10 = .ok (.aload_n 0, 1) := by decide +kernel
theorem dX10_copy_11 : decode cX10_copy 11 = .ok (.iload_n 2, 1) := by decide +kernel
theorem dX10_copy_12 : decode cX10_copy 12 = .ok (.iaload, 1) := by decide +kernel
theorem dX10_copy_13 : decode cX10_copy 13 = .ok (.iastore, 1) := by decide +kernel
theorem dX10_copy_14 : decode cX10_copy 14 = .ok (.iinc 2 1, 3) := by decide +kernel
theorem dX10_copy_17 : decode cX10_copy 17 = .ok (.goto (-15), 3) := by decide +kernel
theorem dX10_copy_20 : decode cX10_copy 20 = .ok (.return_, 1) := by decide +kernel
theorem dX10_letter_0 : decode cX10_letter 0 = .ok (.iload_n 1, 1) := by decide +kernel
theorem dX10_letter_1 : decode cX10_letter 1 = .ok (.i2l, 1) := by decide +kernel
theorem dX10_letter_2 : decode cX10_letter 2 = .ok (.lconst 1, 1) := by decide +kernel
theorem dX10_letter_3 : decode cX10_letter 3 = .ok (.ldc2_w 50, 3) := by decide +kernel
theorem dX10_letter_6 : decode cX10_letter 6 = .ok (.invokestatic 52, 3) := by decide +kernel
theorem dX10_letter_9 : decode cX10_letter 9 = .ok (.ifCond .ne 6, 3) := by decide +kernel
theorem dX10_letter_12 : decode cX10_letter 12 = .ok (.bipush (-102), 2) := by decide +kernel
theorem dX10_letter_14 : decode cX10_letter 14 = .ok (.ireturn, 1) := by decide +kernel
theorem dX10_letter_15 : decode cX10_letter 15 = .ok (.aload_n 0, 1) := by decide +kernel
theorem dX10_letter_16 : decode cX10_letter 16 = .ok (.getfield 56, 3) := by decide +kernel
theorem dX10_letter_19 : decode cX10_letter 19 = .ok (.bipush 34, 2) := by decide +kernel
theorem dX10_letter_21 : decode cX10_letter 21 = .ok (.if_icmp .ne 6, 3) := by decide +kernel
theorem dX10_letter_24 : decode cX10_letter 24 = .ok (.bipush (-104), 2) := by decide +kernel
theorem dX10_letter_26 : decode cX10_letter 26 = .ok (.ireturn, 1) := by decide +kernel
theorem dX10_letter_27 : decode cX10_letter 27 = .ok (.aload_n 0, 1) := by decide +kernel
theorem dX10_letter_28 : decode cX10_letter 28 = .ok (.getfield 7, 3) := by decide +kernel
theorem dX10_letter_31 : decode cX10_letter 31 = .ok (.aload_n 0, 1) := by decide +kernel
theorem dX10_letter_32 : decode cX10_letter 32 = .ok (.getfield 56, 3) := by decide +kernel
theorem dX10_letter_35 : decode cX10_letter 35 = .ok (.iload_n 1, 1) := by decide +kernel
theorem dX10_letter_36 : decode cX10_letter 36 = .ok (.iastore, 1) := by decide +kernel
theorem dX10_letter_37 : decode cX10_letter 37 = .ok (.aload_n 0, 1) := by decide +kernel
theorem dX10_letter_38 : decode cX10_letter 38 = .ok (.dup, 1) := by decide +kernel
theorem dX10_letter_39 : decode cX10_letter 39 = .ok (.getfield 56, 3) := by decide +kernel
theorem dX10_letter_42 : decode cX10_letter 42 = .ok (.iconst 1, 1) := by decide +kernel
theorem dX10_letter_43 : decode cX10_letter 43 = .ok (.iadd, 1) := by decide +kernel
theorem dX10_letter_44 : decode cX10_letter 44 = .ok (.putfield 56, 3) := by decide +kernel
theorem dX10_letter_47 : decode cX10_letter 47 = .ok (.aload_n 0, 1) := by decide +kernel
theorem dX10_letter_48 : decode cX10_letter 48 = .ok (.getfield 56, 3) := by decide +kernel
theorem dX10_letter_51 : decode cX10_letter 51 = .ok (.ireturn, 1) := by decide +kernel
theorem dX10_blank_0 : decode cX10_blank 0 = .ok (.aload_n 0, 1) := by decide +kernel
theorem dX10_blank_1 : decode cX10_blank 1 = .ok (.getfield 56, 3) := by decide +kernel
theorem dX10_blank_4 : decode cX10_blank 4 = .ok (.istore_n 1, 1) := by decide +kernel
theorem dX10_blank_5 : decode cX10_blank 5 = .ok (.aload_n 0, 1) := by decide +kernel
theorem dX10_blank_6 : decode cX10_blank 6 = .ok (.iconst 0, 1) := by decide +kernel
theorem dX10_blank_7 : decode cX10_blank 7 = .ok (.putfield 56, 3) := by decide +kernel
theorem dX10_blank_10 : decode cX10_blank 10 = .ok (.iload_n 1, 1) := by decide +kernel
theorem dX10_blank_11 : decode cX10_blank 11 = .ok (.ireturn, 1) := by decide +kernel
theorem dX10_kindBy_0 : decode cX10_kindBy 0 = .ok (.iload_n 0, 1) := by decide +kernel
theorem dX10_kindBy_1 : decode cX10_kindBy 1 = .ok (.lookupswitch 61 #[(97, 51), (102, 59), (108, 57), (114, 53), (115, 55)], 51) := by decide +kernel
theorem dX10_kindBy_52 : decode cX10_kindBy 52 = .ok (.iconst 0, 1) := by decide +kernel
theorem dX10_kindBy_53 : decode cX10_kindBy 53 = .ok (.ireturn, 1) := by decide +kernel
theorem dX10_kindBy_54 : decode cX10_kindBy 54 = .ok (.iconst 1, 1) := by decide +kernel
theorem dX10_kindBy_55 : decode cX10_kindBy 55 = .ok (.ireturn, 1) := by decide +kernel
theorem dX10_kindBy_56 : decode cX10_kindBy 56 = .ok (.iconst 2, 1) := by decide +kernel
theorem dX10_kindBy_57 : decode cX10_kindBy 57 = .ok (.ireturn, 1) := by decide +kernel
theorem dX10_kindBy_58 : decode cX10_kindBy 58 = .ok (.iconst 3, 1) := by decide +kernel
theorem dX10_kindBy_59 : decode cX10_kindBy 59 = .ok (.ireturn, 1) := by decide +kernel
theorem dX10_kindBy_60 : decode cX10_kindBy 60 = .ok (.iconst 4, 1) := by decide +kernel
theorem dX10_kindBy_61 : decode cX10_kindBy 61 = .ok (.ireturn, 1) := by decide +kernel
theorem dX10_kindBy_62 : decode cX10_kindBy 62 = .ok (.iconst (-1), 1) := by decide +kernel
theorem dX10_kindBy_63 : decode cX10_kindBy 63 = .ok (.ireturn, 1) := by decide +kernel
theorem dX10_isSandLetter_0 : decode cX10_isSandLetter 0 = .ok (.aload_n 0, 1) := by decide +kernel
theorem dX10_isSandLetter_1 : decode cX10_isSandLetter 1 = .ok (.getfield 7, 3) := by decide +kernel
theorem dX10_isSandLetter_4 : decode cX10_isSandLetter 4 = .ok (.iload_n 1, 1) := by decide +kernel
theorem dX10_isSandLetter_5 : decode cX10_isSandLetter 5 = .ok (.iaload, 1) := by decide +kernel
theorem dX10_isSandLetter_6 : decode cX10_isSandLetter 6 = .ok (.istore_n 2, 1) := by decide +kernel
theorem dX10_isSandLetter_7 : decode cX10_isSandLetter 7 = .ok (.iload_n 2, 1) := by decide +kernel
theorem dX10_isSandLetter_8 : decode cX10_isSandLetter 8 = .ok (.bipush 59, 2) := by decide +kernel
theorem dX10_isSandLetter_10 : decode cX10_isSandLetter 10 = .ok (.if_icmp .ne 15, 3) := by decide +kernel
theorem dX10_isSandLetter_13 : decode cX10_isSandLetter 13 = .ok (.iload_n 1, 1) := by decide +kernel
theorem dX10_isSandLetter_14 : decode cX10_isSandLetter 14 = .ok (.iconst 2, 1) := by decide +kernel
theorem dX10_isSandLetter_15 : decode cX10_isSandLetter 15 = .ok (.if_icmp .le 10, 3) := by decide +kernel
theorem dX10_isSandLetter_18 : decode cX10_isSandLetter 18 = .ok (.aload_n 0, 1) := by decide +kernel
theorem dX10_isSandLetter_19 : decode cX10_isSandLetter 19 = .ok (.iload_n 1, 1) := by decide +kernel
theorem dX10_isSandLetter_20 : decode cX10_isSandLetter 20 = .ok (.putfield 59, 3) := by decide +kernel
theorem dX10_isSandLetter_23 : decode cX10_isSandLetter 23 = .ok (.iconst 1, 1) := by decide +kernel
theorem dX10_isSandLetter_24 : decode cX10_isSandLetter 24 = .ok (.ireturn, 1) := by decide +kernel
theorem dX10_isSandLetter_25 : decode cX10_isSandLetter 25 = .ok (.iload_n 2, 1) := by decide +kernel
theorem dX10_isSandLetter_26 : decode cX10_isSandLetter 26 = .ok (.i2l, 1) := by decide +kernel
theorem dX10_isSandLetter_27 : decode cX10_isSandLetter 27 = .ok (.ldc2_w 62, 3) := by decide +kernel
theorem dX10_isSandLetter_30 : decode cX10_isSandLetter 30 = .ok (.ldc2_w 64, 3) := by decide +kernel
theorem dX10_isSandLetter_33 : decode cX10_isSandLetter 33 = .ok (.invokestatic 52, 3) := by decide +kernel
theorem dX10_isSandLetter_36 : decode cX10_isSandLetter 36 = .ok (.ifCond .eq 13, 3) := by decide +kernel
theorem dX10_isSandLetter_39 : decode cX10_isSandLetter 39 = .ok (.iload_n 1, 1) := by decide +kernel
theorem dX10_isSandLetter_40 : decode cX10_isSandLetter 40 = .ok (.bipush 8, 2) := by decide +kernel
theorem dX10_isSandLetter_42 : decode cX10_isSandLetter 42 = .ok (.if_icmp .ge 7, 3) := by decide +kernel
theorem dX10_isSandLetter_45 : decode cX10_isSandLetter 45 = .ok (.iconst 1, 1) := by decide +kernel
theorem dX10_isSandLetter_46 : decode cX10_isSandLetter 46 = .ok (.goto 4, 3) := by decide +kernel
theorem dX10_isSandLetter_49 : decode cX10_isSandLetter 49 = .ok (.iconst 0, 1) := by decide +kernel
theorem dX10_isSandLetter_50 : decode cX10_isSandLetter 50 = .ok (.ireturn, 1) := by decide +kernel
theorem dX10_isBoatLetter_0 : decode cX10_isBoatLetter 0 = .ok (.aload_n 0, 1) := by decide +kernel
theorem dX10_isBoatLetter_1 : decode cX10_isBoatLetter 1 = .ok (.getfield 7, 3) := by decide +kernel
theorem dX10_isBoatLetter_4 : decode cX10_isBoatLetter 4 = .ok (.iload_n 1, 1) := by decide +kernel
theorem dX10_isBoatLetter_5 : decode cX10_isBoatLetter 5 = .ok (.iaload, 1) := by decide +kernel
theorem dX10_isBoatLetter_6 : decode cX10_isBoatLetter 6 = .ok (.istore_n 2, 1) := by decide +kernel
theorem dX10_isBoatLetter_7 : decode cX10_isBoatLetter 7 = .ok (.iload_n 1, 1) := by decide +kernel
theorem dX10_isBoatLetter_8 : decode cX10_isBoatLetter 8 = .ok (.aload_n 0, 1) := by decide +kernel
theorem dX10_isBoatLetter_9 : decode cX10_isBoatLetter 9 = .ok (.getfield 59, 3) := by decide +kernel
theorem dX10_isBoatLetter_12 : decode cX10_isBoatLetter 12 = .ok (.isub, 1) := by decide +kernel
theorem dX10_isBoatLetter_13 : decode cX10_isBoatLetter 13 = .ok (.iconst 1, 1) := by decide +kernel
theorem dX10_isBoatLetter_14 : decode cX10_isBoatLetter 14 = .ok (.isub, 1) := by decide +kernel
theorem dX10_isBoatLetter_15 : decode cX10_isBoatLetter 15 = .ok (.istore_n 3, 1) := by decide +kernel
theorem dX10_isBoatLetter_16 : decode cX10_isBoatLetter 16 = .ok (.iload_n 3, 1) := by decide +kernel
theorem dX10_isBoatLetter_17 : decode cX10_isBoatLetter 17 = .ok (.iconst 3, 1) := by decide +kernel
theorem dX10_isBoatLetter_18 : decode cX10_isBoatLetter 18 = .ok (.irem, 1) := by decide +kernel
theorem dX10_isBoatLetter_19 : decode cX10_isBoatLetter 19 = .ok (.lookupswitch 56 #[(0, 25), (1, 44)], 25) := by decide +kernel
theorem dX10_isBoatLetter_44 : decode cX10_isBoatLetter 44 = .ok (.iload_n 2, 1) := by decide +kernel
theorem dX10_isBoatLetter_45 : decode cX10_isBoatLetter 45 = .ok (.i2l, 1) := by decide +kernel
theorem dX10_isBoatLetter_46 : decode cX10_isBoatLetter 46 = .ok (.ldc2_w 62, 3) := by decide +kernel
theorem dX10_isBoatLetter_49 : decode cX10_isBoatLetter 49 = .ok (.bipush 48, 2) := by decide +kernel
theorem dX10_isBoatLetter_51 : decode cX10_isBoatLetter 51 = .ok (.aload_n 0, 1) := by decide +kernel
theorem dX10_isBoatLetter_52 : decode cX10_isBoatLetter 52 = .ok (.getfield 59, 3) := by decide +kernel
theorem dX10_isBoatLetter_55 : decode cX10_isBoatLetter 55 = .ok (.iadd, 1) := by decide +kernel
theorem dX10_isBoatLetter_56 : decode cX10_isBoatLetter 56 = .ok (.iconst 1, 1) := by decide +kernel
theorem dX10_isBoatLetter_57 : decode cX10_isBoatLetter 57 = .ok (.isub, 1) := by decide +kernel
theorem dX10_isBoatLetter_58 : decode cX10_isBoatLetter 58 = .ok (.i2l, 1) := by decide +kernel
theorem dX10_isBoatLetter_59 : decode cX10_isBoatLetter 59 = .ok (.invokestatic 52, 3) := by decide +kernel
theorem dX10_isBoatLetter_62 : decode cX10_isBoatLetter 62 = .ok (.ireturn, 1) := by decide +kernel
theorem dX10_isBoatLetter_63 : decode cX10_isBoatLetter 63 = .ok (.iload_n 2, 1) := by decide +kernel
theorem dX10_isBoatLetter_64 : decode cX10_isBoatLetter 64 = .ok (.i2l, 1) := by decide +kernel
theorem dX10_isBoatLetter_65 : decode cX10_isBoatLetter 65 = .ok (.ldc2_w 62, 3) := by decide +kernel
theorem dX10_isBoatLetter_68 : decode cX10_isBoatLetter 68 = .ok (.ldc2_w 64, 3) := by decide +kernel
theorem dX10_isBoatLetter_71 : decode cX10_isBoatLetter 71 = .ok (.invokestatic 52, 3) := by decide +kernel
theorem dX10_isBoatLetter_74 : decode cX10_isBoatLetter 74 = .ok (.ireturn, 1) := by decide +kernel
theorem dX10_isBoatLetter_75 : decode cX10_isBoatLetter 75 = .ok (.iload_n 2, 1) := by decide +kernel
theorem dX10_isBoatLetter_76 : decode cX10_isBoatLetter 76 = .ok (.bipush 59, 2) := by decide +kernel
theorem dX10_isBoatLetter_78 : decode cX10_isBoatLetter 78 = .ok (.if_icmp .ne 10, 3) := by decide +kernel
theorem dX10_isBoatLetter_81 : decode cX10_isBoatLetter 81 = .ok (.aload_n 0, 1) := by decide +kernel
theorem dX10_isBoatLetter_82 : decode cX10_isBoatLetter 82 = .ok (.iload_n 1, 1) := by decide +kernel
theorem dX10_isBoatLetter_83 : decode cX10_isBoatLetter 83 = .ok (.putfield 66, 3) := by decide +kernel
theorem dX10_isBoatLetter_86 : decode cX10_isBoatLetter 86 = .ok (.iconst 1, 1) := by decide +kernel
theorem dX10_isBoatLetter_87 : decode cX10_isBoatLetter 87 = .ok (.ireturn, 1) := by decide +kernel
theorem dX10_isBoatLetter_88 : decode cX10_isBoatLetter 88 = .ok (.iload_n 2, 1) := by decide +kernel
theorem dX10_isBoatLetter_89 : decode cX10_isBoatLetter 89 = .ok (.bipush 44, 2) := by decide +kernel
theorem dX10_isBoatLetter_91 : decode cX10_isBoatLetter 91 = .ok (.if_icmp .ne 13, 3) := by decide +kernel
theorem dX10_isBoatLetter_94 : decode cX10_isBoatLetter 94 = .ok (.iload_n 3, 1) := by decide +kernel
theorem dX10_isBoatLetter_95 : decode cX10_isBoatLetter 95 = .ok (.bipush 8, 2) := by decide +kernel
theorem dX10_isBoatLetter_97 : decode cX10_isBoatLetter 97 = .ok (.if_icmp .ge 7, 3) := by decide +kernel
theorem dX10_isBoatLetter_100 : decode cX10_isBoatLetter 100 = .ok (.iconst 1, 1) := by decide +kernel
theorem dX10_isBoatLetter_101 : decode cX10_isBoatLetter 101 = .ok (.goto 4, 3) := by decide +kernel
theorem dX10_isBoatLetter_104 : decode cX10_isBoatLetter 104 = .ok (.iconst 0, 1) := by decide +kernel
theorem dX10_isBoatLetter_105 : decode cX10_isBoatLetter 105 = .ok (.ireturn, 1) := by decide +kernel
theorem dX10_isAskerLetter_0 : decode cX10_isAskerLetter 0 = .ok (.aload_n 0, 1) := by decide +kernel
theorem dX10_isAskerLetter_1 : decode cX10_isAskerLetter 1 = .ok (.getfield 7, 3) := by decide +kernel
theorem dX10_isAskerLetter_4 : decode cX10_isAskerLetter 4 = .ok (.iload_n 1, 1) := by decide +kernel
theorem dX10_isAskerLetter_5 : decode cX10_isAskerLetter 5 = .ok (.iaload, 1) := by decide +kernel
theorem dX10_isAskerLetter_6 : decode cX10_isAskerLetter 6 = .ok (.istore_n 2, 1) := by decide +kernel
theorem dX10_isAskerLetter_7 : decode cX10_isAskerLetter 7 = .ok (.iload_n 1, 1) := by decide +kernel
theorem dX10_isAskerLetter_8 : decode cX10_isAskerLetter 8 = .ok (.aload_n 0, 1) := by decide +kernel
theorem dX10_isAskerLetter_9 : decode cX10_isAskerLetter 9 = .ok (.getfield 66, 3) := by decide +kernel
theorem dX10_isAskerLetter_12 : decode cX10_isAskerLetter 12 = .ok (.isub, 1) := by decide +kernel
theorem dX10_isAskerLetter_13 : decode cX10_isAskerLetter 13 = .ok (.iconst 1, 1) := by decide +kernel
theorem dX10_isAskerLetter_14 : decode cX10_isAskerLetter 14 = .ok (.isub, 1) := by decide +kernel
theorem dX10_isAskerLetter_15 : decode cX10_isAskerLetter 15 = .ok (.istore_n 3, 1) := by decide +kernel
theorem dX10_isAskerLetter_16 : decode cX10_isAskerLetter 16 = .ok (.iload_n 3, 1) := by decide +kernel
theorem dX10_isAskerLetter_17 : decode cX10_isAskerLetter 17 = .ok (.iconst 3, 1) := by decide +kernel
theorem dX10_isAskerLetter_18 : decode cX10_isAskerLetter 18 = .ok (.irem, 1) := by decide +kernel
theorem dX10_isAskerLetter_19 : decode cX10_isAskerLetter 19 = .ok (.lookupswitch 51 #[(0, 25), (1, 39)], 25) := by decide +kernel
theorem dX10_isAskerLetter_44 : decode cX10_isAskerLetter 44 = .ok (.iload_n 2, 1) := by decide +kernel
theorem dX10_isAskerLetter_45 : decode cX10_isAskerLetter 45 = .ok (.invokestatic 69, 3) := by decide +kernel
theorem dX10_isAskerLetter_48 : decode cX10_isAskerLetter 48 = .ok (.iconst (-1), 1) := by decide +kernel
theorem dX10_isAskerLetter_49 : decode cX10_isAskerLetter 49 = .ok (.if_icmp .eq 7, 3) := by decide +kernel
theorem dX10_isAskerLetter_52 : decode cX10_isAskerLetter 52 = .ok (.iconst 1, 1) := by decide +kernel
theorem dX10_isAskerLetter_53 : decode cX10_isAskerLetter 53 = .ok (.goto 4, 3) := by decide +kernel
theorem dX10_isAskerLetter_56 : decode cX10_isAskerLetter 56 = .ok (.iconst 0, 1) := by decide +kernel
theorem dX10_isAskerLetter_57 : decode cX10_isAskerLetter 57 = .ok (.ireturn, 1) := by decide +kernel
theorem dX10_isAskerLetter_58 : decode cX10_isAskerLetter 58 = .ok (.iload_n 2, 1) := by decide +kernel
theorem dX10_isAskerLetter_59 : decode cX10_isAskerLetter 59 = .ok (.i2l, 1) := by decide +kernel
theorem dX10_isAskerLetter_60 : decode cX10_isAskerLetter 60 = .ok (.ldc2_w 62, 3) := by decide +kernel
theorem dX10_isAskerLetter_63 : decode cX10_isAskerLetter 63 = .ok (.ldc2_w 64, 3) := by decide +kernel
theorem dX10_isAskerLetter_66 : decode cX10_isAskerLetter 66 = .ok (.invokestatic 52, 3) := by decide +kernel
theorem dX10_isAskerLetter_69 : decode cX10_isAskerLetter 69 = .ok (.ireturn, 1) := by decide +kernel
theorem dX10_isAskerLetter_70 : decode cX10_isAskerLetter 70 = .ok (.iload_n 2, 1) := by decide +kernel
theorem dX10_isAskerLetter_71 : decode cX10_isAskerLetter 71 = .ok (.bipush 44, 2) := by decide +kernel
theorem dX10_isAskerLetter_73 : decode cX10_isAskerLetter 73 = .ok (.if_icmp .ne 13, 3) := by decide +kernel
theorem dX10_isAskerLetter_76 : decode cX10_isAskerLetter 76 = .ok (.iload_n 3, 1) := by decide +kernel
theorem dX10_isAskerLetter_77 : decode cX10_isAskerLetter 77 = .ok (.bipush 14, 2) := by decide +kernel
theorem dX10_isAskerLetter_79 : decode cX10_isAskerLetter 79 = .ok (.if_icmp .ge 7, 3) := by decide +kernel
theorem dX10_isAskerLetter_82 : decode cX10_isAskerLetter 82 = .ok (.iconst 1, 1) := by decide +kernel
theorem dX10_isAskerLetter_83 : decode cX10_isAskerLetter 83 = .ok (.goto 4, 3) := by decide +kernel
theorem dX10_isAskerLetter_86 : decode cX10_isAskerLetter 86 = .ok (.iconst 0, 1) := by decide +kernel
theorem dX10_isAskerLetter_87 : decode cX10_isAskerLetter 87 = .ok (.ireturn, 1) := by decide +kernel
theorem dX10_isGood_0 : decode cX10_isGood 0 = .ok (.aload_n 0, 1) := by decide +kernel
theorem dX10_isGood_1 : decode cX10_isGood 1 = .ok (.getfield 59, 3) := by decide +kernel
theorem dX10_isGood_4 : decode cX10_isGood 4 = .ok (.ifCond .ne 11, 3) := by decide +kernel
theorem dX10_isGood_7 : decode cX10_isGood 7 = .ok (.aload_n 0, 1) := by decide +kernel
theorem dX10_isGood_8 : decode cX10_isGood 8 = .ok (.iload_n 1, 1) := by decide +kernel
theorem dX10_isGood_9 : decode cX10_isGood 9 = .ok (.invokevirtual 73, 3) := by decide +kernel
theorem dX10_isGood_12 : decode cX10_isGood 12 = .ok (.goto 23, 3) := by decide +kernel
theorem dX10_isGood_15 : decode cX10_isGood 15 = .ok (.aload_n 0, 1) := by decide +kernel
theorem dX10_isGood_16 : decode cX10_isGood 16 = .ok (.getfield 66, 3) := by decide +kernel
theorem dX10_isGood_19 : decode cX10_isGood 19 = .ok (.ifCond .ne 11, 3) := by decide +kernel
theorem dX10_isGood_22 : decode cX10_isGood 22 = .ok (.aload_n 0, 1) := by decide +kernel
theorem dX10_isGood_23 : decode cX10_isGood 23 = .ok (.iload_n 1, 1) := by decide +kernel
theorem dX10_isGood_24 : decode cX10_isGood 24 = .ok (.invokevirtual 77, 3) := by decide +kernel
theorem dX10_isGood_27 : decode cX10_isGood 27 = .ok (.goto 8, 3) := by decide +kernel
theorem dX10_isGood_30 : decode cX10_isGood 30 = .ok (.aload_n 0, 1) := by decide +kernel
theorem dX10_isGood_31 : decode cX10_isGood 31 = .ok (.iload_n 1, 1) := by decide +kernel
theorem dX10_isGood_32 : decode cX10_isGood 32 = .ok (.invokevirtual 80, 3) := by decide +kernel
theorem dX10_isGood_35 : decode cX10_isGood 35 = .ok (.ireturn, 1) := by decide +kernel
theorem dX10_faultOf_0 : decode cX10_faultOf 0 = .ok (.aload_n 0, 1) := by decide +kernel
theorem dX10_faultOf_1 : decode cX10_faultOf 1 = .ok (.iconst 0, 1) := by decide +kernel
theorem dX10_faultOf_2 : decode cX10_faultOf 2 = .ok (.putfield 59, 3) := by decide +kernel
theorem dX10_faultOf_5 : decode cX10_faultOf 5 = .ok (.aload_n 0, 1) := by decide +kernel
theorem dX10_faultOf_6 : decode cX10_faultOf 6 = .ok (.iconst 0, 1) := by decide +kernel
theorem dX10_faultOf_7 : decode cX10_faultOf 7 = .ok (.putfield 66, 3) := by decide +kernel
theorem dX10_faultOf_10 : decode cX10_faultOf 10 = .ok (.iconst 0, 1) := by decide +kernel
theorem dX10_faultOf_11 : decode cX10_faultOf 11 = .ok (.istore_n 1, 1) := by decide +kernel
theorem dX10_faultOf_12 : decode cX10_faultOf 12 = .ok (.iload_n 1, 1) := by decide +kernel
theorem dX10_faultOf_13 : decode cX10_faultOf 13 = .ok (.aload_n 0, 1) := by decide +kernel
theorem dX10_faultOf_14 : decode cX10_faultOf 14 = .ok (.getfield 56, 3) := by decide +kernel
theorem dX10_faultOf_17 : decode cX10_faultOf 17 = .ok (.if_icmp .ge 17, 3) := by decide +kernel
theorem dX10_faultOf_20 : decode cX10_faultOf 20 = .ok (.aload_n 0, 1) := by decide +kernel
theorem dX10_faultOf_21 : decode cX10_faultOf 21 = .ok (.iload_n 1, 1) := by decide +kernel
theorem dX10_faultOf_22 : decode cX10_faultOf 22 = .ok (.invokevirtual 83, 3) := by decide +kernel
theorem dX10_faultOf_25 : decode cX10_faultOf 25 = .ok (.ifCond .eq 9, 3) := by decide +kernel
theorem dX10_faultOf_28 : decode cX10_faultOf 28 = .ok (.iinc 1 1, 3) := by decide +kernel
theorem dX10_faultOf_31 : decode cX10_faultOf 31 = .ok (.goto (-19), 3) := by decide +kernel
theorem dX10_faultOf_34 : decode cX10_faultOf 34 = .ok (.iload_n 1, 1) := by decide +kernel
theorem dX10_faultOf_35 : decode cX10_faultOf 35 = .ok (.ireturn, 1) := by decide +kernel
theorem dX10_fault_0 : decode cX10_fault 0 = .ok (.aload_n 0, 1) := by decide +kernel
theorem dX10_fault_1 : decode cX10_fault 1 = .ok (.invokevirtual 86, 3) := by decide +kernel
theorem dX10_fault_4 : decode cX10_fault 4 = .ok (.ireturn, 1) := by decide +kernel
theorem dX10_shore_0 : decode cX10_shore 0 = .ok (.aload_n 0, 1) := by decide +kernel
theorem dX10_shore_1 : decode cX10_shore 1 = .ok (.invokevirtual 86, 3) := by decide +kernel
theorem dX10_shore_4 : decode cX10_shore 4 = .ok (.aload_n 0, 1) := by decide +kernel
theorem dX10_shore_5 : decode cX10_shore 5 = .ok (.getfield 56, 3) := by decide +kernel
theorem dX10_shore_8 : decode cX10_shore 8 = .ok (.if_icmp .lt 38, 3) := by decide +kernel
theorem dX10_shore_11 : decode cX10_shore 11 = .ok (.aload_n 0, 1) := by decide +kernel
theorem dX10_shore_12 : decode cX10_shore 12 = .ok (.getfield 66, 3) := by decide +kernel
theorem dX10_shore_15 : decode cX10_shore 15 = .ok (.ifCond .eq 31, 3) := by decide +kernel
theorem dX10_shore_18 : decode cX10_shore 18 = .ok (.aload_n 0, 1) := by decide +kernel
theorem dX10_shore_19 : decode cX10_shore 19 = .ok (.getfield 56, 3) := by decide +kernel
theorem dX10_shore_22 : decode cX10_shore 22 = .ok (.aload_n 0, 1) := by decide +kernel
theorem dX10_shore_23 : decode cX10_shore 23 = .ok (.getfield 66, 3) := by decide +kernel
theorem dX10_shore_26 : decode cX10_shore 26 = .ok (.bipush 6, 2) := by decide +kernel
theorem dX10_shore_28 : decode cX10_shore 28 = .ok (.iadd, 1) := by decide +kernel
theorem dX10_shore_29 : decode cX10_shore 29 = .ok (.if_icmp .lt 17, 3) := by decide +kernel
theorem dX10_shore_32 : decode cX10_shore 32 = .ok (.aload_n 0, 1) := by decide +kernel
theorem dX10_shore_33 : decode cX10_shore 33 = .ok (.getfield 56, 3) := by decide +kernel
theorem dX10_shore_36 : decode cX10_shore 36 = .ok (.aload_n 0, 1) := by decide +kernel
theorem dX10_shore_37 : decode cX10_shore 37 = .ok (.getfield 66, 3) := by decide +kernel
theorem dX10_shore_40 : decode cX10_shore 40 = .ok (.isub, 1) := by decide +kernel
theorem dX10_shore_41 : decode cX10_shore 41 = .ok (.iconst 3, 1) := by decide +kernel
theorem dX10_shore_42 : decode cX10_shore 42 = .ok (.irem, 1) := by decide +kernel
theorem dX10_shore_43 : decode cX10_shore 43 = .ok (.ifCond .eq 6, 3) := by decide +kernel
theorem dX10_shore_46 : decode cX10_shore 46 = .ok (.bipush (-103), 2) := by decide +kernel
theorem dX10_shore_48 : decode cX10_shore 48 = .ok (.ireturn, 1) := by decide +kernel
theorem dX10_shore_49 : decode cX10_shore 49 = .ok (.aload_n 0, 1) := by decide +kernel
theorem dX10_shore_50 : decode cX10_shore 50 = .ok (.aload_n 0, 1) := by decide +kernel
theorem dX10_shore_51 : decode cX10_shore 51 = .ok (.getfield 59, 3) := by decide +kernel
theorem dX10_shore_54 : decode cX10_shore 54 = .ok (.putfield 90, 3) := by decide +kernel
theorem dX10_shore_57 : decode cX10_shore 57 = .ok (.aload_n 0, 1) := by decide +kernel
theorem dX10_shore_58 : decode cX10_shore 58 = .ok (.aload_n 0, 1) := by decide +kernel
theorem dX10_shore_59 : decode cX10_shore 59 = .ok (.getfield 66, 3) := by decide +kernel
theorem dX10_shore_62 : decode cX10_shore 62 = .ok (.aload_n 0, 1) := by decide +kernel
theorem dX10_shore_63 : decode cX10_shore 63 = .ok (.getfield 59, 3) := by decide +kernel
theorem dX10_shore_66 : decode cX10_shore 66 = .ok (.isub, 1) := by decide +kernel
theorem dX10_shore_67 : decode cX10_shore 67 = .ok (.iconst 3, 1) := by decide +kernel
theorem dX10_shore_68 : decode cX10_shore 68 = .ok (.idiv, 1) := by decide +kernel
theorem dX10_shore_69 : decode cX10_shore 69 = .ok (.putfield 93, 3) := by decide +kernel
theorem dX10_shore_72 : decode cX10_shore 72 = .ok (.aload_n 0, 1) := by decide +kernel
theorem dX10_shore_73 : decode cX10_shore 73 = .ok (.aload_n 0, 1) := by decide +kernel
theorem dX10_shore_74 : decode cX10_shore 74 = .ok (.getfield 56, 3) := by decide +kernel
theorem dX10_shore_77 : decode cX10_shore 77 = .ok (.aload_n 0, 1) := by decide +kernel
theorem dX10_shore_78 : decode cX10_shore 78 = .ok (.getfield 66, 3) := by decide +kernel
theorem dX10_shore_81 : decode cX10_shore 81 = .ok (.isub, 1) := by decide +kernel
theorem dX10_shore_82 : decode cX10_shore 82 = .ok (.iconst 3, 1) := by decide +kernel
theorem dX10_shore_83 : decode cX10_shore 83 = .ok (.idiv, 1) := by decide +kernel
theorem dX10_shore_84 : decode cX10_shore 84 = .ok (.putfield 96, 3) := by decide +kernel
theorem dX10_shore_87 : decode cX10_shore 87 = .ok (.iconst 0, 1) := by decide +kernel
theorem dX10_shore_88 : decode cX10_shore 88 = .ok (.istore_n 1, 1) := by decide +kernel
theorem dX10_shore_89 : decode cX10_shore 89 = .ok (.iload_n 1, 1) := by decide +kernel
theorem dX10_shore_90 : decode cX10_shore 90 = .ok (.aload_n 0, 1) := by decide +kernel
theorem dX10_shore_91 : decode cX10_shore 91 = .ok (.getfield 90, 3) := by decide +kernel
theorem dX10_shore_94 : decode cX10_shore 94 = .ok (.if_icmp .ge 24, 3) := by decide +kernel
theorem dX10_shore_97 : decode cX10_shore 97 = .ok (.aload_n 0, 1) := by decide +kernel
theorem dX10_shore_98 : decode cX10_shore 98 = .ok (.getfield 13, 3) := by decide +kernel
theorem dX10_shore_101 : decode cX10_shore 101 = .ok (.iload_n 1, 1) := by decide +kernel
theorem dX10_shore_102 : decode cX10_shore 102 = .ok (.aload_n 0, 1) := by decide +kernel
theorem dX10_shore_103 : decode cX10_shore 103 = .ok (.getfield 7, 3) := by decide +kernel
theorem dX10_shore_106 : decode cX10_shore 106 = .ok (.iload_n 1, 1) := by decide +kernel
theorem dX10_shore_107 : decode cX10_shore 107 = .ok (.iaload, 1) := by decide +kernel
theorem dX10_shore_108 : decode cX10_shore 108 = .ok (.bipush 48, 2) := by decide +kernel
theorem dX10_shore_110 : decode cX10_shore 110 = .ok (.isub, 1) := by decide +kernel
theorem dX10_shore_111 : decode cX10_shore 111 = .ok (.iastore, 1) := by decide +kernel
theorem dX10_shore_112 : decode cX10_shore 112 = .ok (.iinc 1 1, 3) := by decide +kernel
theorem dX10_shore_115 : decode cX10_shore 115 = .ok (.goto (-26), 3) := by decide +kernel
theorem dX10_shore_118 : decode cX10_shore 118 = .ok (.iconst 0, 1) := by decide +kernel
theorem dX10_shore_119 : decode cX10_shore 119 = .ok (.istore_n 1, 1) := by decide +kernel
theorem dX10_shore_120 : decode cX10_shore 120 = .ok (.iload_n 1, 1) := by decide +kernel
theorem dX10_shore_121 : decode cX10_shore 121 = .ok (.aload_n 0, 1) := by decide +kernel
theorem dX10_shore_122 : decode cX10_shore 122 = .ok (.getfield 93, 3) := by decide +kernel
theorem dX10_shore_125 : decode cX10_shore 125 = .ok (.if_icmp .ge 57, 3) := by decide +kernel
theorem dX10_shore_128 : decode cX10_shore 128 = .ok (.aload_n 0, 1) := by decide +kernel
theorem dX10_shore_129 : decode cX10_shore 129 = .ok (.getfield 16, 3) := by decide +kernel
theorem dX10_shore_132 : decode cX10_shore 132 = .ok (.iload_n 1, 1) := by decide +kernel
theorem dX10_shore_133 : decode cX10_shore 133 = .ok (.aload_n 0, 1) := by decide +kernel
theorem dX10_shore_134 : decode cX10_shore 134 = .ok (.getfield 7, 3) := by decide +kernel
theorem dX10_shore_137 : decode cX10_shore 137 = .ok (.aload_n 0, 1) := by decide +kernel
theorem dX10_shore_138 : decode cX10_shore 138 = .ok (.getfield 59, 3) := by decide +kernel
theorem dX10_shore_141 : decode cX10_shore 141 = .ok (.iconst 1, 1) := by decide +kernel
theorem dX10_shore_142 : decode cX10_shore 142 = .ok (.iadd, 1) := by decide +kernel
theorem dX10_shore_143 : decode cX10_shore 143 = .ok (.iconst 3, 1) := by decide +kernel
theorem dX10_shore_144 : decode cX10_shore 144 = .ok (.iload_n 1, 1) := by decide +kernel
theorem dX10_shore_145 : decode cX10_shore 145 = .ok (.imul, 1) := by decide +kernel
theorem dX10_shore_146 : decode cX10_shore 146 = .ok (.iadd, 1) := by decide +kernel
theorem dX10_shore_147 : decode cX10_shore 147 = .ok (.iaload, 1) := by decide +kernel
theorem dX10_shore_148 : decode cX10_shore 148 = .ok (.bipush 48, 2) := by decide +kernel
theorem dX10_shore_150 : decode cX10_shore 150 = .ok (.isub, 1) := by decide +kernel
theorem dX10_shore_151 : decode cX10_shore 151 = .ok (.iastore, 1) := by decide +kernel
theorem dX10_shore_152 : decode cX10_shore 152 = .ok (.aload_n 0, 1) := by decide +kernel
theorem dX10_shore_153 : decode cX10_shore 153 = .ok (.getfield 19, 3) := by decide +kernel
theorem dX10_shore_156 : decode cX10_shore 156 = .ok (.iload_n 1, 1) := by decide +kernel
theorem dX10_shore_157 : decode cX10_shore 157 = .ok (.aload_n 0, 1) := by decide +kernel
theorem dX10_shore_158 : decode cX10_shore 158 = .ok (.getfield 7, 3) := by decide +kernel
theorem dX10_shore_161 : decode cX10_shore 161 = .ok (.aload_n 0, 1) := by decide +kernel
theorem dX10_shore_162 : decode cX10_shore 162 = .ok (.getfield 59, 3) := by decide +kernel
theorem dX10_shore_165 : decode cX10_shore 165 = .ok (.iconst 2, 1) := by decide +kernel
theorem dX10_shore_166 : decode cX10_shore 166 = .ok (.iadd, 1) := by decide +kernel
theorem dX10_shore_167 : decode cX10_shore 167 = .ok (.iconst 3, 1) := by decide +kernel
theorem dX10_shore_168 : decode cX10_shore 168 = .ok (.iload_n 1, 1) := by decide +kernel
theorem dX10_shore_169 : decode cX10_shore 169 = .ok (.imul, 1) := by decide +kernel
theorem dX10_shore_170 : decode cX10_shore 170 = .ok (.iadd, 1) := by decide +kernel
theorem dX10_shore_171 : decode cX10_shore 171 = .ok (.iaload, 1) := by decide +kernel
theorem dX10_shore_172 : decode cX10_shore 172 = .ok (.bipush 48, 2) := by decide +kernel
theorem dX10_shore_174 : decode cX10_shore 174 = .ok (.isub, 1) := by decide +kernel
theorem dX10_shore_175 : decode cX10_shore 175 = .ok (.iastore, 1) := by decide +kernel
theorem dX10_shore_176 : decode cX10_shore 176 = .ok (.iinc 1 1, 3) := by decide +kernel
theorem dX10_shore_179 : decode cX10_shore 179 = .ok (.goto (-59), 3) := by decide +kernel
theorem dX10_shore_182 : decode cX10_shore 182 = .ok (.iconst 0, 1) := by decide +kernel
theorem dX10_shore_183 : decode cX10_shore 183 = .ok (.istore_n 1, 1) := by decide +kernel
theorem dX10_shore_184 : decode cX10_shore 184 = .ok (.iload_n 1, 1) := by decide +kernel
theorem dX10_shore_185 : decode cX10_shore 185 = .ok (.aload_n 0, 1) := by decide +kernel
theorem dX10_shore_186 : decode cX10_shore 186 = .ok (.getfield 96, 3) := by decide +kernel
theorem dX10_shore_189 : decode cX10_shore 189 = .ok (.if_icmp .ge 57, 3) := by decide +kernel
theorem dX10_shore_192 : decode cX10_shore 192 = .ok (.aload_n 0, 1) := by decide +kernel
theorem dX10_shore_193 : decode cX10_shore 193 = .ok (.getfield 22, 3) := by decide +kernel
theorem dX10_shore_196 : decode cX10_shore 196 = .ok (.iload_n 1, 1) := by decide +kernel
theorem dX10_shore_197 : decode cX10_shore 197 = .ok (.aload_n 0, 1) := by decide +kernel
theorem dX10_shore_198 : decode cX10_shore 198 = .ok (.getfield 7, 3) := by decide +kernel
theorem dX10_shore_201 : decode cX10_shore 201 = .ok (.aload_n 0, 1) := by decide +kernel
theorem dX10_shore_202 : decode cX10_shore 202 = .ok (.getfield 66, 3) := by decide +kernel
theorem dX10_shore_205 : decode cX10_shore 205 = .ok (.iconst 1, 1) := by decide +kernel
theorem dX10_shore_206 : decode cX10_shore 206 = .ok (.iadd, 1) := by decide +kernel
theorem dX10_shore_207 : decode cX10_shore 207 = .ok (.iconst 3, 1) := by decide +kernel
theorem dX10_shore_208 : decode cX10_shore 208 = .ok (.iload_n 1, 1) := by decide +kernel
theorem dX10_shore_209 : decode cX10_shore 209 = .ok (.imul, 1) := by decide +kernel
theorem dX10_shore_210 : decode cX10_shore 210 = .ok (.iadd, 1) := by decide +kernel
theorem dX10_shore_211 : decode cX10_shore 211 = .ok (.iaload, 1) := by decide +kernel
theorem dX10_shore_212 : decode cX10_shore 212 = .ok (.invokestatic 69, 3) := by decide +kernel
theorem dX10_shore_215 : decode cX10_shore 215 = .ok (.iastore, 1) := by decide +kernel
theorem dX10_shore_216 : decode cX10_shore 216 = .ok (.aload_n 0, 1) := by decide +kernel
theorem dX10_shore_217 : decode cX10_shore 217 = .ok (.getfield 25, 3) := by decide +kernel
theorem dX10_shore_220 : decode cX10_shore 220 = .ok (.iload_n 1, 1) := by decide +kernel
theorem dX10_shore_221 : decode cX10_shore 221 = .ok (.aload_n 0, 1) := by decide +kernel
theorem dX10_shore_222 : decode cX10_shore 222 = .ok (.getfield 7, 3) := by decide +kernel
theorem dX10_shore_225 : decode cX10_shore 225 = .ok (.aload_n 0, 1) := by decide +kernel
theorem dX10_shore_226 : decode cX10_shore 226 = .ok (.getfield 66, 3) := by decide +kernel
theorem dX10_shore_229 : decode cX10_shore 229 = .ok (.iconst 2, 1) := by decide +kernel
theorem dX10_shore_230 : decode cX10_shore 230 = .ok (.iadd, 1) := by decide +kernel
theorem dX10_shore_231 : decode cX10_shore 231 = .ok (.iconst 3, 1) := by decide +kernel
theorem dX10_shore_232 : decode cX10_shore 232 = .ok (.iload_n 1, 1) := by decide +kernel
theorem dX10_shore_233 : decode cX10_shore 233 = .ok (.imul, 1) := by decide +kernel
theorem dX10_shore_234 : decode cX10_shore 234 = .ok (.iadd, 1) := by decide +kernel
theorem dX10_shore_235 : decode cX10_shore 235 = .ok (.iaload, 1) := by decide +kernel
theorem dX10_shore_236 : decode cX10_shore 236 = .ok (.bipush 48, 2) := by decide +kernel
theorem dX10_shore_238 : decode cX10_shore 238 = .ok (.isub, 1) := by decide +kernel
theorem dX10_shore_239 : decode cX10_shore 239 = .ok (.iastore, 1) := by decide +kernel
theorem dX10_shore_240 : decode cX10_shore 240 = .ok (.iinc 1 1, 3) := by decide +kernel
theorem dX10_shore_243 : decode cX10_shore 243 = .ok (.goto (-59), 3) := by decide +kernel
theorem dX10_shore_246 : decode cX10_shore 246 = .ok (.aload_n 0, 1) := by decide +kernel
theorem dX10_shore_247 : decode cX10_shore 247 = .ok (.iconst 0, 1) := by decide +kernel
theorem dX10_shore_248 : decode cX10_shore 248 = .ok (.putfield 99, 3) := by decide +kernel
theorem dX10_shore_251 : decode cX10_shore 251 = .ok (.aload_n 0, 1) := by decide +kernel
theorem dX10_shore_252 : decode cX10_shore 252 = .ok (.iconst 0, 1) := by decide +kernel
theorem dX10_shore_253 : decode cX10_shore 253 = .ok (.putfield 102, 3) := by decide +kernel
theorem dX10_shore_256 : decode cX10_shore 256 = .ok (.aload_n 0, 1) := by decide +kernel
theorem dX10_shore_257 : decode cX10_shore 257 = .ok (.iconst 0, 1) := by decide +kernel
theorem dX10_shore_258 : decode cX10_shore 258 = .ok (.putfield 105, 3) := by decide +kernel
theorem dX10_shore_261 : decode cX10_shore 261 = .ok (.aload_n 0, 1) := by decide +kernel
theorem dX10_shore_262 : decode cX10_shore 262 = .ok (.iconst 0, 1) := by decide +kernel
theorem dX10_shore_263 : decode cX10_shore 263 = .ok (.putfield 108, 3) := by decide +kernel
theorem dX10_shore_266 : decode cX10_shore 266 = .ok (.aload_n 0, 1) := by decide +kernel
theorem dX10_shore_267 : decode cX10_shore 267 = .ok (.iconst 0, 1) := by decide +kernel
theorem dX10_shore_268 : decode cX10_shore 268 = .ok (.putfield 111, 3) := by decide +kernel
theorem dX10_shore_271 : decode cX10_shore 271 = .ok (.aload_n 0, 1) := by decide +kernel
theorem dX10_shore_272 : decode cX10_shore 272 = .ok (.dup, 1) := by decide +kernel
theorem dX10_shore_273 : decode cX10_shore 273 = .ok (.getfield 114, 3) := by decide +kernel
theorem dX10_shore_276 : decode cX10_shore 276 = .ok (.iconst 1, 1) := by decide +kernel
theorem dX10_shore_277 : decode cX10_shore 277 = .ok (.iadd, 1) := by decide +kernel
theorem dX10_shore_278 : decode cX10_shore 278 = .ok (.putfield 114, 3) := by decide +kernel
theorem dX10_shore_281 : decode cX10_shore 281 = .ok (.aload_n 0, 1) := by decide +kernel
theorem dX10_shore_282 : decode cX10_shore 282 = .ok (.iconst 0, 1) := by decide +kernel
theorem dX10_shore_283 : decode cX10_shore 283 = .ok (.putfield 56, 3) := by decide +kernel
theorem dX10_shore_286 : decode cX10_shore 286 = .ok (.aload_n 0, 1) := by decide +kernel
theorem dX10_shore_287 : decode cX10_shore 287 = .ok (.getfield 96, 3) := by decide +kernel
theorem dX10_shore_290 : decode cX10_shore 290 = .ok (.ireturn, 1) := by decide +kernel
theorem dX10_lacks_0 : decode cX10_lacks 0 = .ok (.aload_n 0, 1) := by decide +kernel
theorem dX10_lacks_1 : decode cX10_lacks 1 = .ok (.getfield 96, 3) := by decide +kernel
theorem dX10_lacks_4 : decode cX10_lacks 4 = .ok (.ifCond .ne 7, 3) := by decide +kernel
theorem dX10_lacks_7 : decode cX10_lacks 7 = .ok (.iconst 1, 1) := by decide +kernel
theorem dX10_lacks_8 : decode cX10_lacks 8 = .ok (.goto 4, 3) := by decide +kernel
theorem dX10_lacks_11 : decode cX10_lacks 11 = .ok (.iconst 0, 1) := by decide +kernel
theorem dX10_lacks_12 : decode cX10_lacks 12 = .ok (.ireturn, 1) := by decide +kernel
theorem dX10_isSand_0 : decode cX10_isSand 0 = .ok (.iload_n 1, 1) := by decide +kernel
theorem dX10_isSand_1 : decode cX10_isSand 1 = .ok (.i2l, 1) := by decide +kernel
theorem dX10_isSand_2 : decode cX10_isSand 2 = .ok (.lconst 0, 1) := by decide +kernel
theorem dX10_isSand_3 : decode cX10_isSand 3 = .ok (.aload_n 0, 1) := by decide +kernel
theorem dX10_isSand_4 : decode cX10_isSand 4 = .ok (.getfield 90, 3) := by decide +kernel
theorem dX10_isSand_7 : decode cX10_isSand 7 = .ok (.iconst 1, 1) := by decide +kernel
theorem dX10_isSand_8 : decode cX10_isSand 8 = .ok (.isub, 1) := by decide +kernel
theorem dX10_isSand_9 : decode cX10_isSand 9 = .ok (.i2l, 1) := by decide +kernel
theorem dX10_isSand_10 : decode cX10_isSand 10 = .ok (.invokestatic 52, 3) := by decide +kernel
theorem dX10_isSand_13 : decode cX10_isSand 13 = .ok (.ireturn, 1) := by decide +kernel
theorem dX10_isBoat_0 : decode cX10_isBoat 0 = .ok (.iload_n 1, 1) := by decide +kernel
theorem dX10_isBoat_1 : decode cX10_isBoat 1 = .ok (.i2l, 1) := by decide +kernel
theorem dX10_isBoat_2 : decode cX10_isBoat 2 = .ok (.lconst 0, 1) := by decide +kernel
theorem dX10_isBoat_3 : decode cX10_isBoat 3 = .ok (.aload_n 0, 1) := by decide +kernel
theorem dX10_isBoat_4 : decode cX10_isBoat 4 = .ok (.getfield 93, 3) := by decide +kernel
theorem dX10_isBoat_7 : decode cX10_isBoat 7 = .ok (.iconst 1, 1) := by decide +kernel
theorem dX10_isBoat_8 : decode cX10_isBoat 8 = .ok (.isub, 1) := by decide +kernel
theorem dX10_isBoat_9 : decode cX10_isBoat 9 = .ok (.i2l, 1) := by decide +kernel
theorem dX10_isBoat_10 : decode cX10_isBoat 10 = .ok (.invokestatic 52, 3) := by decide +kernel
theorem dX10_isBoat_13 : decode cX10_isBoat 13 = .ok (.ireturn, 1) := by decide +kernel
theorem dX10_isAsker_0 : decode cX10_isAsker 0 = .ok (.iload_n 1, 1) := by decide +kernel
theorem dX10_isAsker_1 : decode cX10_isAsker 1 = .ok (.i2l, 1) := by decide +kernel
theorem dX10_isAsker_2 : decode cX10_isAsker 2 = .ok (.lconst 0, 1) := by decide +kernel
theorem dX10_isAsker_3 : decode cX10_isAsker 3 = .ok (.aload_n 0, 1) := by decide +kernel
theorem dX10_isAsker_4 : decode cX10_isAsker 4 = .ok (.getfield 96, 3) := by decide +kernel
theorem dX10_isAsker_7 : decode cX10_isAsker 7 = .ok (.iconst 1, 1) := by decide +kernel
theorem dX10_isAsker_8 : decode cX10_isAsker 8 = .ok (.isub, 1) := by decide +kernel
theorem dX10_isAsker_9 : decode cX10_isAsker 9 = .ok (.i2l, 1) := by decide +kernel
theorem dX10_isAsker_10 : decode cX10_isAsker 10 = .ok (.invokestatic 52, 3) := by decide +kernel
theorem dX10_isAsker_13 : decode cX10_isAsker 13 = .ok (.ireturn, 1) := by decide +kernel
theorem dX10_begin_0 : decode cX10_begin 0 = .ok (.aload_n 0, 1) := by decide +kernel
theorem dX10_begin_1 : decode cX10_begin 1 = .ok (.aload_n 0, 1) := by decide +kernel
theorem dX10_begin_2 : decode cX10_begin 2 = .ok (.getfield 99, 3) := by decide +kernel
theorem dX10_begin_5 : decode cX10_begin 5 = .ok (.putfield 117, 3) := by decide +kernel
theorem dX10_begin_8 : decode cX10_begin 8 = .ok (.aload_n 0, 1) := by decide +kernel
theorem dX10_begin_9 : decode cX10_begin 9 = .ok (.aload_n 0, 1) := by decide +kernel
theorem dX10_begin_10 : decode cX10_begin 10 = .ok (.getfield 102, 3) := by decide +kernel
theorem dX10_begin_13 : decode cX10_begin 13 = .ok (.putfield 120, 3) := by decide +kernel
theorem dX10_begin_16 : decode cX10_begin 16 = .ok (.aload_n 0, 1) := by decide +kernel
theorem dX10_begin_17 : decode cX10_begin 17 = .ok (.aload_n 0, 1) := by decide +kernel
theorem dX10_begin_18 : decode cX10_begin 18 = .ok (.getfield 105, 3) := by decide +kernel
theorem dX10_begin_21 : decode cX10_begin 21 = .ok (.putfield 123, 3) := by decide +kernel
theorem dX10_begin_24 : decode cX10_begin 24 = .ok (.return_, 1) := by decide +kernel
theorem dX10_keep_0 : decode cX10_keep 0 = .ok (.aload_n 0, 1) := by decide +kernel
theorem dX10_keep_1 : decode cX10_keep 1 = .ok (.aload_n 0, 1) := by decide +kernel
theorem dX10_keep_2 : decode cX10_keep 2 = .ok (.getfield 117, 3) := by decide +kernel
theorem dX10_keep_5 : decode cX10_keep 5 = .ok (.putfield 99, 3) := by decide +kernel
theorem dX10_keep_8 : decode cX10_keep 8 = .ok (.aload_n 0, 1) := by decide +kernel
theorem dX10_keep_9 : decode cX10_keep 9 = .ok (.aload_n 0, 1) := by decide +kernel
theorem dX10_keep_10 : decode cX10_keep 10 = .ok (.getfield 120, 3) := by decide +kernel
theorem dX10_keep_13 : decode cX10_keep 13 = .ok (.putfield 102, 3) := by decide +kernel
theorem dX10_keep_16 : decode cX10_keep 16 = .ok (.aload_n 0, 1) := by decide +kernel
theorem dX10_keep_17 : decode cX10_keep 17 = .ok (.aload_n 0, 1) := by decide +kernel
theorem dX10_keep_18 : decode cX10_keep 18 = .ok (.getfield 123, 3) := by decide +kernel
theorem dX10_keep_21 : decode cX10_keep 21 = .ok (.putfield 105, 3) := by decide +kernel
theorem dX10_keep_24 : decode cX10_keep 24 = .ok (.return_, 1) := by decide +kernel
theorem dX10_askBy_0 : decode cX10_askBy 0 = .ok (.iload_n 2, 1) := by decide +kernel
theorem dX10_askBy_1 : decode cX10_askBy 1 = .ok (.aload_n 0, 1) := by decide +kernel
theorem dX10_askBy_2 : decode cX10_askBy 2 = .ok (.getfield 120, 3) := by decide +kernel
theorem dX10_askBy_5 : decode cX10_askBy 5 = .ok (.if_icmp .le 12, 3) := by decide +kernel
theorem dX10_askBy_8 : decode cX10_askBy 8 = .ok (.iload_n 2, 1) := by decide +kernel
theorem dX10_askBy_9 : decode cX10_askBy 9 = .ok (.aload_n 0, 1) := by decide +kernel
theorem dX10_askBy_10 : decode cX10_askBy 10 = .ok (.getfield 120, 3) := by decide +kernel
theorem dX10_askBy_13 : decode cX10_askBy 13 = .ok (.isub, 1) := by decide +kernel
theorem dX10_askBy_14 : decode cX10_askBy 14 = .ok (.goto 4, 3) := by decide +kernel
theorem dX10_askBy_17 : decode cX10_askBy 17 = .ok (.iconst 0, 1) := by decide +kernel
theorem dX10_askBy_18 : decode cX10_askBy 18 = .ok (.istore_n 3, 1) := by decide +kernel
theorem dX10_askBy_19 : decode cX10_askBy 19 = .ok (.iconst 0, 1) := by decide +kernel
theorem dX10_askBy_20 : decode cX10_askBy 20 = .ok (.istore 4, 2) := by decide +kernel
theorem dX10_askBy_22 : decode cX10_askBy 22 = .ok (.iload_n 1, 1) := by decide +kernel
theorem dX10_askBy_23 : decode cX10_askBy 23 = .ok (.tableswitch 67 1 4 #[29, 47, 57, 39], 29) := by decide +kernel
theorem dX10_askBy_52 : decode cX10_askBy 52 = .ok (.iload_n 3, 1) := by decide +kernel
theorem dX10_askBy_53 : decode cX10_askBy 53 = .ok (.iconst 3, 1) := by decide +kernel
theorem dX10_askBy_54 : decode cX10_askBy 54 = .ok (.idiv, 1) := by decide +kernel
theorem dX10_askBy_55 : decode cX10_askBy 55 = .ok (.istore_n 3, 1) := by decide +kernel
theorem dX10_askBy_56 : decode cX10_askBy 56 = .ok (.iconst 1, 1) := by decide +kernel
theorem dX10_askBy_57 : decode cX10_askBy 57 = .ok (.istore 4, 2) := by decide +kernel
theorem dX10_askBy_59 : decode cX10_askBy 59 = .ok (.goto 31, 3) := by decide +kernel
theorem dX10_askBy_62 : decode cX10_askBy 62 = .ok (.iconst 0, 1) := by decide +kernel
theorem dX10_askBy_63 : decode cX10_askBy 63 = .ok (.istore_n 3, 1) := by decide +kernel
theorem dX10_askBy_64 : decode cX10_askBy 64 = .ok (.iconst 2, 1) := by decide +kernel
theorem dX10_askBy_65 : decode cX10_askBy 65 = .ok (.istore 4, 2) := by decide +kernel
theorem dX10_askBy_67 : decode cX10_askBy 67 = .ok (.goto 23, 3) := by decide +kernel
theorem dX10_askBy_70 : decode cX10_askBy 70 = .ok (.iload_n 3, 1) := by decide +kernel
theorem dX10_askBy_71 : decode cX10_askBy 71 = .ok (.iconst 2, 1) := by decide +kernel
theorem dX10_askBy_72 : decode cX10_askBy 72 = .ok (.imul, 1) := by decide +kernel
theorem dX10_askBy_73 : decode cX10_askBy 73 = .ok (.istore_n 3, 1) := by decide +kernel
theorem dX10_askBy_74 : decode cX10_askBy 74 = .ok (.iconst 1, 1) := by decide +kernel
theorem dX10_askBy_75 : decode cX10_askBy 75 = .ok (.istore 4, 2) := by decide +kernel
theorem dX10_askBy_77 : decode cX10_askBy 77 = .ok (.goto 13, 3) := by decide +kernel
theorem dX10_askBy_80 : decode cX10_askBy 80 = .ok (.iconst 0, 1) := by decide +kernel
theorem dX10_askBy_81 : decode cX10_askBy 81 = .ok (.istore_n 3, 1) := by decide +kernel
theorem dX10_askBy_82 : decode cX10_askBy 82 = .ok (.aload_n 0, 1) := by decide +kernel
theorem dX10_askBy_83 : decode cX10_askBy 83 = .ok (.iconst 1, 1) := by decide +kernel
theorem dX10_askBy_84 : decode cX10_askBy 84 = .ok (.putfield 123, 3) := by decide +kernel
theorem dX10_askBy_87 : decode cX10_askBy 87 = .ok (.goto 3, 3) := by decide +kernel
theorem dX10_askBy_90 : decode cX10_askBy 90 = .ok (.aload_n 0, 1) := by decide +kernel
theorem dX10_askBy_91 : decode cX10_askBy 91 = .ok (.aload_n 0, 1) := by decide +kernel
theorem dX10_askBy_92 : decode cX10_askBy 92 = .ok (.getfield 117, 3) := by decide +kernel
theorem dX10_askBy_95 : decode cX10_askBy 95 = .ok (.iload_n 3, 1) := by decide +kernel
theorem dX10_askBy_96 : decode cX10_askBy 96 = .ok (.iadd, 1) := by decide +kernel
theorem dX10_askBy_97 : decode cX10_askBy 97 = .ok (.bipush 20, 2) := by decide +kernel
theorem dX10_askBy_99 : decode cX10_askBy 99 = .ok (.if_icmp .le 8, 3) := by decide +kernel
theorem dX10_askBy_102 : decode cX10_askBy 102 = .ok (.bipush 20, 2) := by decide +kernel
theorem dX10_askBy_104 : decode cX10_askBy 104 = .ok (.goto 9, 3) := by decide +kernel
theorem dX10_askBy_107 : decode cX10_askBy 107 = .ok (.aload_n 0, 1) := by decide +kernel
theorem dX10_askBy_108 : decode cX10_askBy 108 = .ok (.getfield 117, 3) := by decide +kernel
theorem dX10_askBy_111 : decode cX10_askBy 111 = .ok (.iload_n 3, 1) := by decide +kernel
theorem dX10_askBy_112 : decode cX10_askBy 112 = .ok (.iadd, 1) := by decide +kernel
theorem dX10_askBy_113 : decode cX10_askBy 113 = .ok (.putfield 117, 3) := by decide +kernel
theorem dX10_askBy_116 : decode cX10_askBy 116 = .ok (.aload_n 0, 1) := by decide +kernel
theorem dX10_askBy_117 : decode cX10_askBy 117 = .ok (.aload_n 0, 1) := by decide +kernel
theorem dX10_askBy_118 : decode cX10_askBy 118 = .ok (.getfield 120, 3) := by decide +kernel
theorem dX10_askBy_121 : decode cX10_askBy 121 = .ok (.iload 4, 2) := by decide +kernel
theorem dX10_askBy_123 : decode cX10_askBy 123 = .ok (.iadd, 1) := by decide +kernel
theorem dX10_askBy_124 : decode cX10_askBy 124 = .ok (.bipush 9, 2) := by decide +kernel
theorem dX10_askBy_126 : decode cX10_askBy 126 = .ok (.if_icmp .le 8, 3) := by decide +kernel
theorem dX10_askBy_129 : decode cX10_askBy 129 = .ok (.bipush 9, 2) := by decide +kernel
theorem dX10_askBy_131 : decode cX10_askBy 131 = .ok (.goto 10, 3) := by decide +kernel
theorem dX10_askBy_134 : decode cX10_askBy 134 = .ok (.aload_n 0, 1) := by decide +kernel
theorem dX10_askBy_135 : decode cX10_askBy 135 = .ok (.getfield 120, 3) := by decide +kernel
theorem dX10_askBy_138 : decode cX10_askBy 138 = .ok (.iload 4, 2) := by decide +kernel
theorem dX10_askBy_140 : decode cX10_askBy 140 = .ok (.iadd, 1) := by decide +kernel
theorem dX10_askBy_141 : decode cX10_askBy 141 = .ok (.putfield 120, 3) := by decide +kernel
theorem dX10_askBy_144 : decode cX10_askBy 144 = .ok (.return_, 1) := by decide +kernel
theorem dX10_askThen_0 : decode cX10_askThen 0 = .ok (.aload_n 0, 1) := by decide +kernel
theorem dX10_askThen_1 : decode cX10_askThen 1 = .ok (.aload_n 0, 1) := by decide +kernel
theorem dX10_askThen_2 : decode cX10_askThen 2 = .ok (.getfield 22, 3) := by decide +kernel
theorem dX10_askThen_5 : decode cX10_askThen 5 = .ok (.iload_n 1, 1) := by decide +kernel
theorem dX10_askThen_6 : decode cX10_askThen 6 = .ok (.iaload, 1) := by decide +kernel
theorem dX10_askThen_7 : decode cX10_askThen 7 = .ok (.aload_n 0, 1) := by decide +kernel
theorem dX10_askThen_8 : decode cX10_askThen 8 = .ok (.getfield 25, 3) := by decide +kernel
theorem dX10_askThen_11 : decode cX10_askThen 11 = .ok (.iload_n 1, 1) := by decide +kernel
theorem dX10_askThen_12 : decode cX10_askThen 12 = .ok (.iaload, 1) := by decide +kernel
theorem dX10_askThen_13 : decode cX10_askThen 13 = .ok (.invokevirtual 126, 3) := by decide +kernel
theorem dX10_askThen_16 : decode cX10_askThen 16 = .ok (.return_, 1) := by decide +kernel
theorem dX10_thankThen_0 : decode cX10_thankThen 0 = .ok (.aload_n 0, 1) := by decide +kernel
theorem dX10_thankThen_1 : decode cX10_thankThen 1 = .ok (.getfield 123, 3) := by decide +kernel
theorem dX10_thankThen_4 : decode cX10_thankThen 4 = .ok (.ifCond .ne 25, 3) := by decide +kernel
theorem dX10_thankThen_7 : decode cX10_thankThen 7 = .ok (.aload_n 0, 1) := by decide +kernel
theorem dX10_thankThen_8 : decode cX10_thankThen 8 = .ok (.aload_n 0, 1) := by decide +kernel
theorem dX10_thankThen_9 : decode cX10_thankThen 9 = .ok (.getfield 117, 3) := by decide +kernel
theorem dX10_thankThen_12 : decode cX10_thankThen 12 = .ok (.iconst 3, 1) := by decide +kernel
theorem dX10_thankThen_13 : decode cX10_thankThen 13 = .ok (.if_icmp .le 12, 3) := by decide +kernel
theorem dX10_thankThen_16 : decode cX10_thankThen 16 = .ok (.aload_n 0, 1) := by decide +kernel
theorem dX10_thankThen_17 : decode cX10_thankThen 17 = .ok (.getfield 117, 3) := by decide +kernel
theorem dX10_thankThen_20 : decode cX10_thankThen 20 = .ok (.iconst 3, 1) := by decide +kernel
theorem dX10_thankThen_21 : decode cX10_thankThen 21 = .ok (.isub, 1) := by decide +kernel
theorem dX10_thankThen_22 : decode cX10_thankThen 22 = .ok (.goto 4, 3) := by decide +kernel
theorem dX10_thankThen_25 : decode cX10_thankThen 25 = .ok (.iconst 0, 1) := by decide +kernel
theorem dX10_thankThen_26 : decode cX10_thankThen 26 = .ok (.putfield 117, 3) := by decide +kernel
theorem dX10_thankThen_29 : decode cX10_thankThen 29 = .ok (.aload_n 0, 1) := by decide +kernel
theorem dX10_thankThen_30 : decode cX10_thankThen 30 = .ok (.iconst 0, 1) := by decide +kernel
theorem dX10_thankThen_31 : decode cX10_thankThen 31 = .ok (.putfield 123, 3) := by decide +kernel
theorem dX10_thankThen_34 : decode cX10_thankThen 34 = .ok (.aload_n 0, 1) := by decide +kernel
theorem dX10_thankThen_35 : decode cX10_thankThen 35 = .ok (.dup, 1) := by decide +kernel
theorem dX10_thankThen_36 : decode cX10_thankThen 36 = .ok (.getfield 120, 3) := by decide +kernel
theorem dX10_thankThen_39 : decode cX10_thankThen 39 = .ok (.aload_n 0, 1) := by decide +kernel
theorem dX10_thankThen_40 : decode cX10_thankThen 40 = .ok (.getfield 120, 3) := by decide +kernel
theorem dX10_thankThen_43 : decode cX10_thankThen 43 = .ok (.ifCond .le 7, 3) := by decide +kernel
theorem dX10_thankThen_46 : decode cX10_thankThen 46 = .ok (.iconst 1, 1) := by decide +kernel
theorem dX10_thankThen_47 : decode cX10_thankThen 47 = .ok (.goto 4, 3) := by decide +kernel
theorem dX10_thankThen_50 : decode cX10_thankThen 50 = .ok (.iconst 0, 1) := by decide +kernel
theorem dX10_thankThen_51 : decode cX10_thankThen 51 = .ok (.isub, 1) := by decide +kernel
theorem dX10_thankThen_52 : decode cX10_thankThen 52 = .ok (.putfield 120, 3) := by decide +kernel
theorem dX10_thankThen_55 : decode cX10_thankThen 55 = .ok (.return_, 1) := by decide +kernel
theorem dX10_reachesThen_0 : decode cX10_reachesThen 0 = .ok (.iconst 1, 1) := by decide +kernel
theorem dX10_reachesThen_1 : decode cX10_reachesThen 1 = .ok (.istore_n 2, 1) := by decide +kernel
theorem dX10_reachesThen_2 : decode cX10_reachesThen 2 = .ok (.iconst 0, 1) := by decide +kernel
theorem dX10_reachesThen_3 : decode cX10_reachesThen 3 = .ok (.istore_n 3, 1) := by decide +kernel
theorem dX10_reachesThen_4 : decode cX10_reachesThen 4 = .ok (.iload_n 3, 1) := by decide +kernel
theorem dX10_reachesThen_5 : decode cX10_reachesThen 5 = .ok (.iload_n 1, 1) := by decide +kernel
theorem dX10_reachesThen_6 : decode cX10_reachesThen 6 = .ok (.if_icmp .gt 32, 3) := by decide +kernel
theorem dX10_reachesThen_9 : decode cX10_reachesThen 9 = .ok (.iload_n 2, 1) := by decide +kernel
theorem dX10_reachesThen_10 : decode cX10_reachesThen 10 = .ok (.ifCond .eq 20, 3) := by decide +kernel
theorem dX10_reachesThen_13 : decode cX10_reachesThen 13 = .ok (.aload_n 0, 1) := by decide +kernel
theorem dX10_reachesThen_14 : decode cX10_reachesThen 14 = .ok (.getfield 13, 3) := by decide +kernel
theorem dX10_reachesThen_17 : decode cX10_reachesThen 17 = .ok (.iload_n 3, 1) := by decide +kernel
theorem dX10_reachesThen_18 : decode cX10_reachesThen 18 = .ok (.iaload, 1) := by decide +kernel
theorem dX10_reachesThen_19 : decode cX10_reachesThen 19 = .ok (.aload_n 0, 1) := by decide +kernel
theorem dX10_reachesThen_20 : decode cX10_reachesThen 20 = .ok (.getfield 117, 3) := by decide +kernel
theorem dX10_reachesThen_23 : decode cX10_reachesThen 23 = .ok (.if_icmp .ge 7, 3) := by decide +kernel
theorem dX10_reachesThen_26 : decode cX10_reachesThen 26 = .ok (.iconst 1, 1) := by decide +kernel
theorem dX10_reachesThen_27 : decode cX10_reachesThen 27 = .ok (.goto 4, 3) := by decide +kernel
theorem dX10_reachesThen_30 : decode cX10_reachesThen 30 = .ok (.iconst 0, 1) := by decide +kernel
theorem dX10_reachesThen_31 : decode cX10_reachesThen 31 = .ok (.istore_n 2, 1) := by decide +kernel
theorem dX10_reachesThen_32 : decode cX10_reachesThen 32 = .ok (.iinc 3 1, 3) := by decide +kernel
theorem dX10_reachesThen_35 : decode cX10_reachesThen 35 = .ok (.goto (-31), 3) := by decide +kernel
theorem dX10_reachesThen_38 : decode cX10_reachesThen 38 = .ok (.iload_n 2, 1) := by decide +kernel
theorem dX10_reachesThen_39 : decode cX10_reachesThen 39 = .ok (.ireturn, 1) := by decide +kernel
theorem dX10_floatsThen_0 : decode cX10_floatsThen 0 = .ok (.aload_n 0, 1) := by decide +kernel
theorem dX10_floatsThen_1 : decode cX10_floatsThen 1 = .ok (.aload_n 0, 1) := by decide +kernel
theorem dX10_floatsThen_2 : decode cX10_floatsThen 2 = .ok (.getfield 16, 3) := by decide +kernel
theorem dX10_floatsThen_5 : decode cX10_floatsThen 5 = .ok (.iload_n 1, 1) := by decide +kernel
theorem dX10_floatsThen_6 : decode cX10_floatsThen 6 = .ok (.iaload, 1) := by decide +kernel
theorem dX10_floatsThen_7 : decode cX10_floatsThen 7 = .ok (.invokevirtual 130, 3) := by decide +kernel
theorem dX10_floatsThen_10 : decode cX10_floatsThen 10 = .ok (.ifCond .eq 32, 3) := by decide +kernel
theorem dX10_floatsThen_13 : decode cX10_floatsThen 13 = .ok (.aload_n 0, 1) := by decide +kernel
theorem dX10_floatsThen_14 : decode cX10_floatsThen 14 = .ok (.getfield 117, 3) := by decide +kernel
theorem dX10_floatsThen_17 : decode cX10_floatsThen 17 = .ok (.aload_n 0, 1) := by decide +kernel
theorem dX10_floatsThen_18 : decode cX10_floatsThen 18 = .ok (.getfield 13, 3) := by decide +kernel
theorem dX10_floatsThen_21 : decode cX10_floatsThen 21 = .ok (.aload_n 0, 1) := by decide +kernel
theorem dX10_floatsThen_22 : decode cX10_floatsThen 22 = .ok (.getfield 16, 3) := by decide +kernel
theorem dX10_floatsThen_25 : decode cX10_floatsThen 25 = .ok (.iload_n 1, 1) := by decide +kernel
theorem dX10_floatsThen_26 : decode cX10_floatsThen 26 = .ok (.iaload, 1) := by decide +kernel
theorem dX10_floatsThen_27 : decode cX10_floatsThen 27 = .ok (.iaload, 1) := by decide +kernel
theorem dX10_floatsThen_28 : decode cX10_floatsThen 28 = .ok (.isub, 1) := by decide +kernel
theorem dX10_floatsThen_29 : decode cX10_floatsThen 29 = .ok (.aload_n 0, 1) := by decide +kernel
theorem dX10_floatsThen_30 : decode cX10_floatsThen 30 = .ok (.getfield 19, 3) := by decide +kernel
theorem dX10_floatsThen_33 : decode cX10_floatsThen 33 = .ok (.iload_n 1, 1) := by decide +kernel
theorem dX10_floatsThen_34 : decode cX10_floatsThen 34 = .ok (.iaload, 1) := by decide +kernel
theorem dX10_floatsThen_35 : decode cX10_floatsThen 35 = .ok (.if_icmp .lt 7, 3) := by decide +kernel
theorem dX10_floatsThen_38 : decode cX10_floatsThen 38 = .ok (.iconst 1, 1) := by decide +kernel
theorem dX10_floatsThen_39 : decode cX10_floatsThen 39 = .ok (.goto 4, 3) := by decide +kernel
theorem dX10_floatsThen_42 : decode cX10_floatsThen 42 = .ok (.iconst 0, 1) := by decide +kernel
theorem dX10_floatsThen_43 : decode cX10_floatsThen 43 = .ok (.ireturn, 1) := by decide +kernel
theorem dX10_floating_0 : decode cX10_floating 0 = .ok (.iconst 0, 1) := by decide +kernel
theorem dX10_floating_1 : decode cX10_floating 1 = .ok (.istore_n 1, 1) := by decide +kernel
theorem dX10_floating_2 : decode cX10_floating 2 = .ok (.iconst 0, 1) := by decide +kernel
theorem dX10_floating_3 : decode cX10_floating 3 = .ok (.istore_n 2, 1) := by decide +kernel
theorem dX10_floating_4 : decode cX10_floating 4 = .ok (.iload_n 2, 1) := by decide +kernel
theorem dX10_floating_5 : decode cX10_floating 5 = .ok (.aload_n 0, 1) := by decide +kernel
theorem dX10_floating_6 : decode cX10_floating 6 = .ok (.getfield 93, 3) := by decide +kernel
theorem dX10_floating_9 : decode cX10_floating 9 = .ok (.if_icmp .ge 25, 3) := by decide +kernel
theorem dX10_floating_12 : decode cX10_floating 12 = .ok (.iload_n 1, 1) := by decide +kernel
theorem dX10_floating_13 : decode cX10_floating 13 = .ok (.aload_n 0, 1) := by decide +kernel
theorem dX10_floating_14 : decode cX10_floating 14 = .ok (.iload_n 2, 1) := by decide +kernel
theorem dX10_floating_15 : decode cX10_floating 15 = .ok (.invokevirtual 133, 3) := by decide +kernel
theorem dX10_floating_18 : decode cX10_floating 18 = .ok (.ifCond .eq 7, 3) := by decide +kernel
theorem dX10_floating_21 : decode cX10_floating 21 = .ok (.iconst 1, 1) := by decide +kernel
theorem dX10_floating_22 : decode cX10_floating 22 = .ok (.goto 4, 3) := by decide +kernel
theorem dX10_floating_25 : decode cX10_floating 25 = .ok (.iconst 0, 1) := by decide +kernel
theorem dX10_floating_26 : decode cX10_floating 26 = .ok (.iadd, 1) := by decide +kernel
theorem dX10_floating_27 : decode cX10_floating 27 = .ok (.istore_n 1, 1) := by decide +kernel
theorem dX10_floating_28 : decode cX10_floating 28 = .ok (.iinc 2 1, 3) := by decide +kernel
theorem dX10_floating_31 : decode cX10_floating 31 = .ok (.goto (-27), 3) := by decide +kernel
theorem dX10_floating_34 : decode cX10_floating 34 = .ok (.iload_n 1, 1) := by decide +kernel
theorem dX10_floating_35 : decode cX10_floating 35 = .ok (.ireturn, 1) := by decide +kernel
theorem dX10_reached_0 : decode cX10_reached 0 = .ok (.iconst 0, 1) := by decide +kernel
theorem dX10_reached_1 : decode cX10_reached 1 = .ok (.istore_n 1, 1) := by decide +kernel
theorem dX10_reached_2 : decode cX10_reached 2 = .ok (.iconst 0, 1) := by decide +kernel
theorem dX10_reached_3 : decode cX10_reached 3 = .ok (.istore_n 2, 1) := by decide +kernel
theorem dX10_reached_4 : decode cX10_reached 4 = .ok (.iload_n 2, 1) := by decide +kernel
theorem dX10_reached_5 : decode cX10_reached 5 = .ok (.aload_n 0, 1) := by decide +kernel
theorem dX10_reached_6 : decode cX10_reached 6 = .ok (.getfield 90, 3) := by decide +kernel
theorem dX10_reached_9 : decode cX10_reached 9 = .ok (.if_icmp .ge 25, 3) := by decide +kernel
theorem dX10_reached_12 : decode cX10_reached 12 = .ok (.iload_n 1, 1) := by decide +kernel
theorem dX10_reached_13 : decode cX10_reached 13 = .ok (.aload_n 0, 1) := by decide +kernel
theorem dX10_reached_14 : decode cX10_reached 14 = .ok (.iload_n 2, 1) := by decide +kernel
theorem dX10_reached_15 : decode cX10_reached 15 = .ok (.invokevirtual 130, 3) := by decide +kernel
theorem dX10_reached_18 : decode cX10_reached 18 = .ok (.ifCond .eq 7, 3) := by decide +kernel
theorem dX10_reached_21 : decode cX10_reached 21 = .ok (.iconst 1, 1) := by decide +kernel
theorem dX10_reached_22 : decode cX10_reached 22 = .ok (.goto 4, 3) := by decide +kernel
theorem dX10_reached_25 : decode cX10_reached 25 = .ok (.iconst 0, 1) := by decide +kernel
theorem dX10_reached_26 : decode cX10_reached 26 = .ok (.iadd, 1) := by decide +kernel
theorem dX10_reached_27 : decode cX10_reached 27 = .ok (.istore_n 1, 1) := by decide +kernel
theorem dX10_reached_28 : decode cX10_reached 28 = .ok (.iinc 2 1, 3) := by decide +kernel
theorem dX10_reached_31 : decode cX10_reached 31 = .ok (.goto (-27), 3) := by decide +kernel
theorem dX10_reached_34 : decode cX10_reached 34 = .ok (.iload_n 1, 1) := by decide +kernel
theorem dX10_reached_35 : decode cX10_reached 35 = .ok (.ireturn, 1) := by decide +kernel
theorem dX10_boatsAt_0 : decode cX10_boatsAt 0 = .ok (.iconst 0, 1) := by decide +kernel
theorem dX10_boatsAt_1 : decode cX10_boatsAt 1 = .ok (.istore_n 2, 1) := by decide +kernel
theorem dX10_boatsAt_2 : decode cX10_boatsAt 2 = .ok (.iconst 0, 1) := by decide +kernel
theorem dX10_boatsAt_3 : decode cX10_boatsAt 3 = .ok (.istore_n 3, 1) := by decide +kernel
theorem dX10_boatsAt_4 : decode cX10_boatsAt 4 = .ok (.iload_n 3, 1) := by decide +kernel
theorem dX10_boatsAt_5 : decode cX10_boatsAt 5 = .ok (.aload_n 0, 1) := by decide +kernel
theorem dX10_boatsAt_6 : decode cX10_boatsAt 6 = .ok (.getfield 93, 3) := by decide +kernel
theorem dX10_boatsAt_9 : decode cX10_boatsAt 9 = .ok (.if_icmp .ge 29, 3) := by decide +kernel
theorem dX10_boatsAt_12 : decode cX10_boatsAt 12 = .ok (.iload_n 2, 1) := by decide +kernel
theorem dX10_boatsAt_13 : decode cX10_boatsAt 13 = .ok (.aload_n 0, 1) := by decide +kernel
theorem dX10_boatsAt_14 : decode cX10_boatsAt 14 = .ok (.getfield 16, 3) := by decide +kernel
theorem dX10_boatsAt_17 : decode cX10_boatsAt 17 = .ok (.iload_n 3, 1) := by decide +kernel
theorem dX10_boatsAt_18 : decode cX10_boatsAt 18 = .ok (.iaload, 1) := by decide +kernel
theorem dX10_boatsAt_19 : decode cX10_boatsAt 19 = .ok (.iload_n 1, 1) := by decide +kernel
theorem dX10_boatsAt_20 : decode cX10_boatsAt 20 = .ok (.if_icmp .ne 9, 3) := by decide +kernel
theorem dX10_boatsAt_23 : decode cX10_boatsAt 23 = .ok (.iconst 1, 1) := by decide +kernel
theorem dX10_boatsAt_24 : decode cX10_boatsAt 24 = .ok (.iload_n 3, 1) := by decide +kernel
theorem dX10_boatsAt_25 : decode cX10_boatsAt 25 = .ok (.ishl, 1) := by decide +kernel
theorem dX10_boatsAt_26 : decode cX10_boatsAt 26 = .ok (.goto 4, 3) := by decide +kernel
theorem dX10_boatsAt_29 : decode cX10_boatsAt 29 = .ok (.iconst 0, 1) := by decide +kernel
theorem dX10_boatsAt_30 : decode cX10_boatsAt 30 = .ok (.ior, 1) := by decide +kernel
theorem dX10_boatsAt_31 : decode cX10_boatsAt 31 = .ok (.istore_n 2, 1) := by decide +kernel
theorem dX10_boatsAt_32 : decode cX10_boatsAt 32 = .ok (.iinc 3 1, 3) := by decide +kernel
theorem dX10_boatsAt_35 : decode cX10_boatsAt 35 = .ok (.goto (-31), 3) := by decide +kernel
theorem dX10_boatsAt_38 : decode cX10_boatsAt 38 = .ok (.iload_n 2, 1) := by decide +kernel
theorem dX10_boatsAt_39 : decode cX10_boatsAt 39 = .ok (.ireturn, 1) := by decide +kernel
theorem dX10_tellSand_0 : decode cX10_tellSand 0 = .ok (.aload_n 0, 1) := by decide +kernel
theorem dX10_tellSand_1 : decode cX10_tellSand 1 = .ok (.invokevirtual 136, 3) := by decide +kernel
theorem dX10_tellSand_4 : decode cX10_tellSand 4 = .ok (.iload_n 2, 1) := by decide +kernel
theorem dX10_tellSand_5 : decode cX10_tellSand 5 = .ok (.tableswitch 54 0 2 #[27, 34, 48], 27) := by decide +kernel
theorem dX10_tellSand_32 : decode cX10_tellSand 32 = .ok (.aload_n 0, 1) := by decide +kernel
theorem dX10_tellSand_33 : decode cX10_tellSand 33 = .ok (.getfield 13, 3) := by decide +kernel
theorem dX10_tellSand_36 : decode cX10_tellSand 36 = .ok (.iload_n 1, 1) := by decide +kernel
theorem dX10_tellSand_37 : decode cX10_tellSand 37 = .ok (.iaload, 1) := by decide +kernel
theorem dX10_tellSand_38 : decode cX10_tellSand 38 = .ok (.ireturn, 1) := by decide +kernel
theorem dX10_tellSand_39 : decode cX10_tellSand 39 = .ok (.aload_n 0, 1) := by decide +kernel
theorem dX10_tellSand_40 : decode cX10_tellSand 40 = .ok (.iload_n 1, 1) := by decide +kernel
theorem dX10_tellSand_41 : decode cX10_tellSand 41 = .ok (.invokevirtual 130, 3) := by decide +kernel
theorem dX10_tellSand_44 : decode cX10_tellSand 44 = .ok (.ifCond .eq 7, 3) := by decide +kernel
theorem dX10_tellSand_47 : decode cX10_tellSand 47 = .ok (.iconst 1, 1) := by decide +kernel
theorem dX10_tellSand_48 : decode cX10_tellSand 48 = .ok (.goto 4, 3) := by decide +kernel
theorem dX10_tellSand_51 : decode cX10_tellSand 51 = .ok (.iconst 0, 1) := by decide +kernel
theorem dX10_tellSand_52 : decode cX10_tellSand 52 = .ok (.ireturn, 1) := by decide +kernel
theorem dX10_tellSand_53 : decode cX10_tellSand 53 = .ok (.aload_n 0, 1) := by decide +kernel
theorem dX10_tellSand_54 : decode cX10_tellSand 54 = .ok (.iload_n 1, 1) := by decide +kernel
theorem dX10_tellSand_55 : decode cX10_tellSand 55 = .ok (.invokevirtual 139, 3) := by decide +kernel
theorem dX10_tellSand_58 : decode cX10_tellSand 58 = .ok (.ireturn, 1) := by decide +kernel
theorem dX10_tellSand_59 : decode cX10_tellSand 59 = .ok (.bipush (-102), 2) := by decide +kernel
theorem dX10_tellSand_61 : decode cX10_tellSand 61 = .ok (.ireturn, 1) := by decide +kernel
theorem dX10_sand_0 : decode cX10_sand 0 = .ok (.aload_n 0, 1) := by decide +kernel
theorem dX10_sand_1 : decode cX10_sand 1 = .ok (.iload_n 1, 1) := by decide +kernel
theorem dX10_sand_2 : decode cX10_sand 2 = .ok (.invokevirtual 142, 3) := by decide +kernel
theorem dX10_sand_5 : decode cX10_sand 5 = .ok (.ifCond .eq 12, 3) := by decide +kernel
theorem dX10_sand_8 : decode cX10_sand 8 = .ok (.aload_n 0, 1) := by decide +kernel
theorem dX10_sand_9 : decode cX10_sand 9 = .ok (.iload_n 1, 1) := by decide +kernel
theorem dX10_sand_10 : decode cX10_sand 10 = .ok (.iload_n 2, 1) := by decide +kernel
theorem dX10_sand_11 : decode cX10_sand 11 = .ok (.invokevirtual 145, 3) := by decide +kernel
theorem dX10_sand_14 : decode cX10_sand 14 = .ok (.goto 5, 3) := by decide +kernel
theorem dX10_sand_17 : decode cX10_sand 17 = .ok (.bipush (-101), 2) := by decide +kernel
theorem dX10_sand_19 : decode cX10_sand 19 = .ok (.ireturn, 1) := by decide +kernel
theorem dX10_leastTide_0 : decode cX10_leastTide 0 = .ok (.iconst 0, 1) := by decide +kernel
theorem dX10_leastTide_1 : decode cX10_leastTide 1 = .ok (.istore_n 2, 1) := by decide +kernel
theorem dX10_leastTide_2 : decode cX10_leastTide 2 = .ok (.aload_n 0, 1) := by decide +kernel
theorem dX10_leastTide_3 : decode cX10_leastTide 3 = .ok (.bipush 30, 2) := by decide +kernel
theorem dX10_leastTide_5 : decode cX10_leastTide 5 = .ok (.putfield 117, 3) := by decide +kernel
theorem dX10_leastTide_8 : decode cX10_leastTide 8 = .ok (.aload_n 0, 1) := by decide +kernel
theorem dX10_leastTide_9 : decode cX10_leastTide 9 = .ok (.getfield 117, 3) := by decide +kernel
theorem dX10_leastTide_12 : decode cX10_leastTide 12 = .ok (.ifCond .lt 33, 3) := by decide +kernel
theorem dX10_leastTide_15 : decode cX10_leastTide 15 = .ok (.aload_n 0, 1) := by decide +kernel
theorem dX10_leastTide_16 : decode cX10_leastTide 16 = .ok (.iload_n 1, 1) := by decide +kernel
theorem dX10_leastTide_17 : decode cX10_leastTide 17 = .ok (.invokevirtual 133, 3) := by decide +kernel
theorem dX10_leastTide_20 : decode cX10_leastTide 20 = .ok (.ifCond .eq 10, 3) := by decide +kernel
theorem dX10_leastTide_23 : decode cX10_leastTide 23 = .ok (.aload_n 0, 1) := by decide +kernel
theorem dX10_leastTide_24 : decode cX10_leastTide 24 = .ok (.getfield 117, 3) := by decide +kernel
theorem dX10_leastTide_27 : decode cX10_leastTide 27 = .ok (.goto 4, 3) := by decide +kernel
theorem dX10_leastTide_30 : decode cX10_leastTide 30 = .ok (.iload_n 2, 1) := by decide +kernel
theorem dX10_leastTide_31 : decode cX10_leastTide 31 = .ok (.istore_n 2, 1) := by decide +kernel
theorem dX10_leastTide_32 : decode cX10_leastTide 32 = .ok (.aload_n 0, 1) := by decide +kernel
theorem dX10_leastTide_33 : decode cX10_leastTide 33 = .ok (.dup, 1) := by decide +kernel
theorem dX10_leastTide_34 : decode cX10_leastTide 34 = .ok (.getfield 117, 3) := by decide +kernel
theorem dX10_leastTide_37 : decode cX10_leastTide 37 = .ok (.iconst 1, 1) := by decide +kernel
theorem dX10_leastTide_38 : decode cX10_leastTide 38 = .ok (.isub, 1) := by decide +kernel
theorem dX10_leastTide_39 : decode cX10_leastTide 39 = .ok (.putfield 117, 3) := by decide +kernel
theorem dX10_leastTide_42 : decode cX10_leastTide 42 = .ok (.goto (-34), 3) := by decide +kernel
theorem dX10_leastTide_45 : decode cX10_leastTide 45 = .ok (.iload_n 2, 1) := by decide +kernel
theorem dX10_leastTide_46 : decode cX10_leastTide 46 = .ok (.ireturn, 1) := by decide +kernel
theorem dX10_tellBoat_0 : decode cX10_tellBoat 0 = .ok (.aload_n 0, 1) := by decide +kernel
theorem dX10_tellBoat_1 : decode cX10_tellBoat 1 = .ok (.invokevirtual 136, 3) := by decide +kernel
theorem dX10_tellBoat_4 : decode cX10_tellBoat 4 = .ok (.iload_n 2, 1) := by decide +kernel
theorem dX10_tellBoat_5 : decode cX10_tellBoat 5 = .ok (.tableswitch 65 0 3 #[31, 38, 45, 59], 31) := by decide +kernel
theorem dX10_tellBoat_36 : decode cX10_tellBoat 36 = .ok (.aload_n 0, 1) := by decide +kernel
theorem dX10_tellBoat_37 : decode cX10_tellBoat 37 = .ok (.getfield 16, 3) := by decide +kernel
theorem dX10_tellBoat_40 : decode cX10_tellBoat 40 = .ok (.iload_n 1, 1) := by decide +kernel
theorem dX10_tellBoat_41 : decode cX10_tellBoat 41 = .ok (.iaload, 1) := by decide +kernel
theorem dX10_tellBoat_42 : decode cX10_tellBoat 42 = .ok (.ireturn, 1) := by decide +kernel
theorem dX10_tellBoat_43 : decode cX10_tellBoat 43 = .ok (.aload_n 0, 1) := by decide +kernel
theorem dX10_tellBoat_44 : decode cX10_tellBoat 44 = .ok (.getfield 19, 3) := by decide +kernel
theorem dX10_tellBoat_47 : decode cX10_tellBoat 47 = .ok (.iload_n 1, 1) := by decide +kernel
theorem dX10_tellBoat_48 : decode cX10_tellBoat 48 = .ok (.iaload, 1) := by decide +kernel
theorem dX10_tellBoat_49 : decode cX10_tellBoat 49 = .ok (.ireturn, 1) := by decide +kernel
theorem dX10_tellBoat_50 : decode cX10_tellBoat 50 = .ok (.aload_n 0, 1) := by decide +kernel
theorem dX10_tellBoat_51 : decode cX10_tellBoat 51 = .ok (.iload_n 1, 1) := by decide +kernel
theorem dX10_tellBoat_52 : decode cX10_tellBoat 52 = .ok (.invokevirtual 133, 3) := by decide +kernel
theorem dX10_tellBoat_55 : decode cX10_tellBoat 55 = .ok (.ifCond .eq 7, 3) := by decide +kernel
theorem dX10_tellBoat_58 : decode cX10_tellBoat 58 = .ok (.iconst 1, 1) := by decide +kernel
theorem dX10_tellBoat_59 : decode cX10_tellBoat 59 = .ok (.goto 4, 3) := by decide +kernel
theorem dX10_tellBoat_62 : decode cX10_tellBoat 62 = .ok (.iconst 0, 1) := by decide +kernel
theorem dX10_tellBoat_63 : decode cX10_tellBoat 63 = .ok (.ireturn, 1) := by decide +kernel
theorem dX10_tellBoat_64 : decode cX10_tellBoat 64 = .ok (.aload_n 0, 1) := by decide +kernel
theorem dX10_tellBoat_65 : decode cX10_tellBoat 65 = .ok (.iload_n 1, 1) := by decide +kernel
theorem dX10_tellBoat_66 : decode cX10_tellBoat 66 = .ok (.invokevirtual 149, 3) := by decide +kernel
theorem dX10_tellBoat_69 : decode cX10_tellBoat 69 = .ok (.ireturn, 1) := by decide +kernel
theorem dX10_tellBoat_70 : decode cX10_tellBoat 70 = .ok (.bipush (-102), 2) := by decide +kernel
theorem dX10_tellBoat_72 : decode cX10_tellBoat 72 = .ok (.ireturn, 1) := by decide +kernel
theorem dX10_boat_0 : decode cX10_boat 0 = .ok (.aload_n 0, 1) := by decide +kernel
theorem dX10_boat_1 : decode cX10_boat 1 = .ok (.iload_n 1, 1) := by decide +kernel
theorem dX10_boat_2 : decode cX10_boat 2 = .ok (.invokevirtual 152, 3) := by decide +kernel
theorem dX10_boat_5 : decode cX10_boat 5 = .ok (.ifCond .eq 12, 3) := by decide +kernel
theorem dX10_boat_8 : decode cX10_boat 8 = .ok (.aload_n 0, 1) := by decide +kernel
theorem dX10_boat_9 : decode cX10_boat 9 = .ok (.iload_n 1, 1) := by decide +kernel
theorem dX10_boat_10 : decode cX10_boat 10 = .ok (.iload_n 2, 1) := by decide +kernel
theorem dX10_boat_11 : decode cX10_boat 11 = .ok (.invokevirtual 155, 3) := by decide +kernel
theorem dX10_boat_14 : decode cX10_boat 14 = .ok (.goto 5, 3) := by decide +kernel
theorem dX10_boat_17 : decode cX10_boat 17 = .ok (.bipush (-101), 2) := by decide +kernel
theorem dX10_boat_19 : decode cX10_boat 19 = .ok (.ireturn, 1) := by decide +kernel
theorem dX10_tellAsker_0 : decode cX10_tellAsker 0 = .ok (.aload_n 0, 1) := by decide +kernel
theorem dX10_tellAsker_1 : decode cX10_tellAsker 1 = .ok (.invokevirtual 136, 3) := by decide +kernel
theorem dX10_tellAsker_4 : decode cX10_tellAsker 4 = .ok (.aload_n 0, 1) := by decide +kernel
theorem dX10_tellAsker_5 : decode cX10_tellAsker 5 = .ok (.iload_n 1, 1) := by decide +kernel
theorem dX10_tellAsker_6 : decode cX10_tellAsker 6 = .ok (.invokevirtual 158, 3) := by decide +kernel
theorem dX10_tellAsker_9 : decode cX10_tellAsker 9 = .ok (.iload_n 2, 1) := by decide +kernel
theorem dX10_tellAsker_10 : decode cX10_tellAsker 10 = .ok (.tableswitch 74 0 5 #[38, 45, 52, 57, 62, 68], 38) := by decide +kernel
theorem dX10_tellAsker_48 : decode cX10_tellAsker 48 = .ok (.aload_n 0, 1) := by decide +kernel
theorem dX10_tellAsker_49 : decode cX10_tellAsker 49 = .ok (.getfield 22, 3) := by decide +kernel
theorem dX10_tellAsker_52 : decode cX10_tellAsker 52 = .ok (.iload_n 1, 1) := by decide +kernel
theorem dX10_tellAsker_53 : decode cX10_tellAsker 53 = .ok (.iaload, 1) := by decide +kernel
theorem dX10_tellAsker_54 : decode cX10_tellAsker 54 = .ok (.ireturn, 1) := by decide +kernel
theorem dX10_tellAsker_55 : decode cX10_tellAsker 55 = .ok (.aload_n 0, 1) := by decide +kernel
theorem dX10_tellAsker_56 : decode cX10_tellAsker 56 = .ok (.getfield 25, 3) := by decide +kernel
theorem dX10_tellAsker_59 : decode cX10_tellAsker 59 = .ok (.iload_n 1, 1) := by decide +kernel
theorem dX10_tellAsker_60 : decode cX10_tellAsker 60 = .ok (.iaload, 1) := by decide +kernel
theorem dX10_tellAsker_61 : decode cX10_tellAsker 61 = .ok (.ireturn, 1) := by decide +kernel
theorem dX10_tellAsker_62 : decode cX10_tellAsker 62 = .ok (.aload_n 0, 1) := by decide +kernel
theorem dX10_tellAsker_63 : decode cX10_tellAsker 63 = .ok (.getfield 117, 3) := by decide +kernel
theorem dX10_tellAsker_66 : decode cX10_tellAsker 66 = .ok (.ireturn, 1) := by decide +kernel
theorem dX10_tellAsker_67 : decode cX10_tellAsker 67 = .ok (.aload_n 0, 1) := by decide +kernel
theorem dX10_tellAsker_68 : decode cX10_tellAsker 68 = .ok (.getfield 120, 3) := by decide +kernel
theorem dX10_tellAsker_71 : decode cX10_tellAsker 71 = .ok (.ireturn, 1) := by decide +kernel
theorem dX10_tellAsker_72 : decode cX10_tellAsker 72 = .ok (.aload_n 0, 1) := by decide +kernel
theorem dX10_tellAsker_73 : decode cX10_tellAsker 73 = .ok (.iload_n 1, 1) := by decide +kernel
theorem dX10_tellAsker_74 : decode cX10_tellAsker 74 = .ok (.invokevirtual 162, 3) := by decide +kernel
theorem dX10_tellAsker_77 : decode cX10_tellAsker 77 = .ok (.ireturn, 1) := by decide +kernel
theorem dX10_tellAsker_78 : decode cX10_tellAsker 78 = .ok (.aload_n 0, 1) := by decide +kernel
theorem dX10_tellAsker_79 : decode cX10_tellAsker 79 = .ok (.iload_n 1, 1) := by decide +kernel
theorem dX10_tellAsker_80 : decode cX10_tellAsker 80 = .ok (.invokevirtual 165, 3) := by decide +kernel
theorem dX10_tellAsker_83 : decode cX10_tellAsker 83 = .ok (.ireturn, 1) := by decide +kernel
theorem dX10_tellAsker_84 : decode cX10_tellAsker 84 = .ok (.bipush (-102), 2) := by decide +kernel
theorem dX10_tellAsker_86 : decode cX10_tellAsker 86 = .ok (.ireturn, 1) := by decide +kernel
theorem dX10_asker_0 : decode cX10_asker 0 = .ok (.aload_n 0, 1) := by decide +kernel
theorem dX10_asker_1 : decode cX10_asker 1 = .ok (.iload_n 1, 1) := by decide +kernel
theorem dX10_asker_2 : decode cX10_asker 2 = .ok (.invokevirtual 168, 3) := by decide +kernel
theorem dX10_asker_5 : decode cX10_asker 5 = .ok (.ifCond .eq 12, 3) := by decide +kernel
theorem dX10_asker_8 : decode cX10_asker 8 = .ok (.aload_n 0, 1) := by decide +kernel
theorem dX10_asker_9 : decode cX10_asker 9 = .ok (.iload_n 1, 1) := by decide +kernel
theorem dX10_asker_10 : decode cX10_asker 10 = .ok (.iload_n 2, 1) := by decide +kernel
theorem dX10_asker_11 : decode cX10_asker 11 = .ok (.invokevirtual 171, 3) := by decide +kernel
theorem dX10_asker_14 : decode cX10_asker 14 = .ok (.goto 5, 3) := by decide +kernel
theorem dX10_asker_17 : decode cX10_asker 17 = .ok (.bipush (-101), 2) := by decide +kernel
theorem dX10_asker_19 : decode cX10_asker 19 = .ok (.ireturn, 1) := by decide +kernel
theorem dX10_as_0 : decode cX10_as 0 = .ok (.aload_n 0, 1) := by decide +kernel
theorem dX10_as_1 : decode cX10_as 1 = .ok (.iload_n 1, 1) := by decide +kernel
theorem dX10_as_2 : decode cX10_as 2 = .ok (.invokevirtual 168, 3) := by decide +kernel
theorem dX10_as_5 : decode cX10_as 5 = .ok (.ifCond .ne 6, 3) := by decide +kernel
theorem dX10_as_8 : decode cX10_as 8 = .ok (.bipush (-101), 2) := by decide +kernel
theorem dX10_as_10 : decode cX10_as 10 = .ok (.ireturn, 1) := by decide +kernel
theorem dX10_as_11 : decode cX10_as 11 = .ok (.iload_n 2, 1) := by decide +kernel
theorem dX10_as_12 : decode cX10_as 12 = .ok (.i2l, 1) := by decide +kernel
theorem dX10_as_13 : decode cX10_as 13 = .ok (.lconst 0, 1) := by decide +kernel
theorem dX10_as_14 : decode cX10_as 14 = .ok (.ldc2_w 174, 3) := by decide +kernel
theorem dX10_as_17 : decode cX10_as 17 = .ok (.invokestatic 52, 3) := by decide +kernel
theorem dX10_as_20 : decode cX10_as 20 = .ok (.ifCond .ne 6, 3) := by decide +kernel
theorem dX10_as_23 : decode cX10_as 23 = .ok (.bipush (-102), 2) := by decide +kernel
theorem dX10_as_25 : decode cX10_as 25 = .ok (.ireturn, 1) := by decide +kernel
theorem dX10_as_26 : decode cX10_as 26 = .ok (.iload_n 2, 1) := by decide +kernel
theorem dX10_as_27 : decode cX10_as 27 = .ok (.ifCond .eq 28, 3) := by decide +kernel
theorem dX10_as_30 : decode cX10_as 30 = .ok (.iload_n 2, 1) := by decide +kernel
theorem dX10_as_31 : decode cX10_as 31 = .ok (.aload_n 0, 1) := by decide +kernel
theorem dX10_as_32 : decode cX10_as 32 = .ok (.getfield 22, 3) := by decide +kernel
theorem dX10_as_35 : decode cX10_as 35 = .ok (.iload_n 1, 1) := by decide +kernel
theorem dX10_as_36 : decode cX10_as 36 = .ok (.iaload, 1) := by decide +kernel
theorem dX10_as_37 : decode cX10_as 37 = .ok (.if_icmp .eq 18, 3) := by decide +kernel
theorem dX10_as_40 : decode cX10_as 40 = .ok (.iload_n 2, 1) := by decide +kernel
theorem dX10_as_41 : decode cX10_as 41 = .ok (.iconst 1, 1) := by decide +kernel
theorem dX10_as_42 : decode cX10_as 42 = .ok (.if_icmp .ne 17, 3) := by decide +kernel
theorem dX10_as_45 : decode cX10_as 45 = .ok (.aload_n 0, 1) := by decide +kernel
theorem dX10_as_46 : decode cX10_as 46 = .ok (.getfield 22, 3) := by decide +kernel
theorem dX10_as_49 : decode cX10_as 49 = .ok (.iload_n 1, 1) := by decide +kernel
theorem dX10_as_50 : decode cX10_as 50 = .ok (.iaload, 1) := by decide +kernel
theorem dX10_as_51 : decode cX10_as 51 = .ok (.iconst 4, 1) := by decide +kernel
theorem dX10_as_52 : decode cX10_as 52 = .ok (.if_icmp .ne 7, 3) := by decide +kernel
theorem dX10_as_55 : decode cX10_as 55 = .ok (.iconst 1, 1) := by decide +kernel
theorem dX10_as_56 : decode cX10_as 56 = .ok (.goto 4, 3) := by decide +kernel
theorem dX10_as_59 : decode cX10_as 59 = .ok (.iconst 0, 1) := by decide +kernel
theorem dX10_as_60 : decode cX10_as 60 = .ok (.istore_n 3, 1) := by decide +kernel
theorem dX10_as_61 : decode cX10_as 61 = .ok (.iload_n 3, 1) := by decide +kernel
theorem dX10_as_62 : decode cX10_as 62 = .ok (.ifCond .eq 7, 3) := by decide +kernel
theorem dX10_as_65 : decode cX10_as 65 = .ok (.iload_n 1, 1) := by decide +kernel
theorem dX10_as_66 : decode cX10_as 66 = .ok (.goto 4, 3) := by decide +kernel
theorem dX10_as_69 : decode cX10_as 69 = .ok (.iconst (-1), 1) := by decide +kernel
theorem dX10_as_70 : decode cX10_as 70 = .ok (.ireturn, 1) := by decide +kernel
theorem dX10_ask_0 : decode cX10_ask 0 = .ok (.aload_n 0, 1) := by decide +kernel
theorem dX10_ask_1 : decode cX10_ask 1 = .ok (.iload_n 1, 1) := by decide +kernel
theorem dX10_ask_2 : decode cX10_ask 2 = .ok (.invokevirtual 168, 3) := by decide +kernel
theorem dX10_ask_5 : decode cX10_ask 5 = .ok (.ifCond .ne 6, 3) := by decide +kernel
theorem dX10_ask_8 : decode cX10_ask 8 = .ok (.bipush (-101), 2) := by decide +kernel
theorem dX10_ask_10 : decode cX10_ask 10 = .ok (.ireturn, 1) := by decide +kernel
theorem dX10_ask_11 : decode cX10_ask 11 = .ok (.aload_n 0, 1) := by decide +kernel
theorem dX10_ask_12 : decode cX10_ask 12 = .ok (.getfield 108, 3) := by decide +kernel
theorem dX10_ask_15 : decode cX10_ask 15 = .ok (.sipush 999, 3) := by decide +kernel
theorem dX10_ask_18 : decode cX10_ask 18 = .ok (.if_icmp .ne 6, 3) := by decide +kernel
theorem dX10_ask_21 : decode cX10_ask 21 = .ok (.bipush (-104), 2) := by decide +kernel
theorem dX10_ask_23 : decode cX10_ask 23 = .ok (.ireturn, 1) := by decide +kernel
theorem dX10_ask_24 : decode cX10_ask 24 = .ok (.aload_n 0, 1) := by decide +kernel
theorem dX10_ask_25 : decode cX10_ask 25 = .ok (.invokevirtual 136, 3) := by decide +kernel
theorem dX10_ask_28 : decode cX10_ask 28 = .ok (.aload_n 0, 1) := by decide +kernel
theorem dX10_ask_29 : decode cX10_ask 29 = .ok (.iload_n 1, 1) := by decide +kernel
theorem dX10_ask_30 : decode cX10_ask 30 = .ok (.invokevirtual 158, 3) := by decide +kernel
theorem dX10_ask_33 : decode cX10_ask 33 = .ok (.aload_n 0, 1) := by decide +kernel
theorem dX10_ask_34 : decode cX10_ask 34 = .ok (.invokevirtual 176, 3) := by decide +kernel
theorem dX10_ask_37 : decode cX10_ask 37 = .ok (.aload_n 0, 1) := by decide +kernel
theorem dX10_ask_38 : decode cX10_ask 38 = .ok (.dup, 1) := by decide +kernel
theorem dX10_ask_39 : decode cX10_ask 39 = .ok (.getfield 108, 3) := by decide +kernel
theorem dX10_ask_42 : decode cX10_ask 42 = .ok (.iconst 1, 1) := by decide +kernel
theorem dX10_ask_43 : decode cX10_ask 43 = .ok (.iadd, 1) := by decide +kernel
theorem dX10_ask_44 : decode cX10_ask 44 = .ok (.putfield 108, 3) := by decide +kernel
theorem dX10_ask_47 : decode cX10_ask 47 = .ok (.aload_n 0, 1) := by decide +kernel
theorem dX10_ask_48 : decode cX10_ask 48 = .ok (.getfield 99, 3) := by decide +kernel
theorem dX10_ask_51 : decode cX10_ask 51 = .ok (.ireturn, 1) := by decide +kernel
theorem dX10_thank_0 : decode cX10_thank 0 = .ok (.aload_n 0, 1) := by decide +kernel
theorem dX10_thank_1 : decode cX10_thank 1 = .ok (.invokevirtual 179, 3) := by decide +kernel
theorem dX10_thank_4 : decode cX10_thank 4 = .ok (.ifCond .eq 6, 3) := by decide +kernel
theorem dX10_thank_7 : decode cX10_thank 7 = .ok (.bipush (-103), 2) := by decide +kernel
theorem dX10_thank_9 : decode cX10_thank 9 = .ok (.ireturn, 1) := by decide +kernel
theorem dX10_thank_10 : decode cX10_thank 10 = .ok (.aload_n 0, 1) := by decide +kernel
theorem dX10_thank_11 : decode cX10_thank 11 = .ok (.getfield 108, 3) := by decide +kernel
theorem dX10_thank_14 : decode cX10_thank 14 = .ok (.sipush 999, 3) := by decide +kernel
theorem dX10_thank_17 : decode cX10_thank 17 = .ok (.if_icmp .ne 6, 3) := by decide +kernel
theorem dX10_thank_20 : decode cX10_thank 20 = .ok (.bipush (-104), 2) := by decide +kernel
theorem dX10_thank_22 : decode cX10_thank 22 = .ok (.ireturn, 1) := by decide +kernel
theorem dX10_thank_23 : decode cX10_thank 23 = .ok (.aload_n 0, 1) := by decide +kernel
theorem dX10_thank_24 : decode cX10_thank 24 = .ok (.invokevirtual 136, 3) := by decide +kernel
theorem dX10_thank_27 : decode cX10_thank 27 = .ok (.aload_n 0, 1) := by decide +kernel
theorem dX10_thank_28 : decode cX10_thank 28 = .ok (.invokevirtual 183, 3) := by decide +kernel
theorem dX10_thank_31 : decode cX10_thank 31 = .ok (.aload_n 0, 1) := by decide +kernel
theorem dX10_thank_32 : decode cX10_thank 32 = .ok (.invokevirtual 176, 3) := by decide +kernel
theorem dX10_thank_35 : decode cX10_thank 35 = .ok (.aload_n 0, 1) := by decide +kernel
theorem dX10_thank_36 : decode cX10_thank 36 = .ok (.dup, 1) := by decide +kernel
theorem dX10_thank_37 : decode cX10_thank 37 = .ok (.getfield 108, 3) := by decide +kernel
theorem dX10_thank_40 : decode cX10_thank 40 = .ok (.iconst 1, 1) := by decide +kernel
theorem dX10_thank_41 : decode cX10_thank 41 = .ok (.iadd, 1) := by decide +kernel
theorem dX10_thank_42 : decode cX10_thank 42 = .ok (.putfield 108, 3) := by decide +kernel
theorem dX10_thank_45 : decode cX10_thank 45 = .ok (.aload_n 0, 1) := by decide +kernel
theorem dX10_thank_46 : decode cX10_thank 46 = .ok (.getfield 99, 3) := by decide +kernel
theorem dX10_thank_49 : decode cX10_thank 49 = .ok (.ireturn, 1) := by decide +kernel
theorem dX10_draw_0 : decode cX10_draw 0 = .ok (.aload_n 0, 1) := by decide +kernel
theorem dX10_draw_1 : decode cX10_draw 1 = .ok (.iload_n 1, 1) := by decide +kernel
theorem dX10_draw_2 : decode cX10_draw 2 = .ok (.invokevirtual 152, 3) := by decide +kernel
theorem dX10_draw_5 : decode cX10_draw 5 = .ok (.ifCond .eq 11, 3) := by decide +kernel
theorem dX10_draw_8 : decode cX10_draw 8 = .ok (.aload_n 0, 1) := by decide +kernel
theorem dX10_draw_9 : decode cX10_draw 9 = .ok (.iload_n 2, 1) := by decide +kernel
theorem dX10_draw_10 : decode cX10_draw 10 = .ok (.invokevirtual 142, 3) := by decide +kernel
theorem dX10_draw_13 : decode cX10_draw 13 = .ok (.ifCond .ne 6, 3) := by decide +kernel
theorem dX10_draw_16 : decode cX10_draw 16 = .ok (.bipush (-101), 2) := by decide +kernel
theorem dX10_draw_18 : decode cX10_draw 18 = .ok (.ireturn, 1) := by decide +kernel
theorem dX10_draw_19 : decode cX10_draw 19 = .ok (.aload_n 0, 1) := by decide +kernel
theorem dX10_draw_20 : decode cX10_draw 20 = .ok (.getfield 16, 3) := by decide +kernel
theorem dX10_draw_23 : decode cX10_draw 23 = .ok (.iload_n 1, 1) := by decide +kernel
theorem dX10_draw_24 : decode cX10_draw 24 = .ok (.iaload, 1) := by decide +kernel
theorem dX10_draw_25 : decode cX10_draw 25 = .ok (.istore_n 3, 1) := by decide +kernel
theorem dX10_draw_26 : decode cX10_draw 26 = .ok (.aload_n 0, 1) := by decide +kernel
theorem dX10_draw_27 : decode cX10_draw 27 = .ok (.getfield 16, 3) := by decide +kernel
theorem dX10_draw_30 : decode cX10_draw 30 = .ok (.iload_n 1, 1) := by decide +kernel
theorem dX10_draw_31 : decode cX10_draw 31 = .ok (.iload_n 2, 1) := by decide +kernel
theorem dX10_draw_32 : decode cX10_draw 32 = .ok (.iastore, 1) := by decide +kernel
theorem dX10_draw_33 : decode cX10_draw 33 = .ok (.iload_n 3, 1) := by decide +kernel
theorem dX10_draw_34 : decode cX10_draw 34 = .ok (.ireturn, 1) := by decide +kernel
theorem dX10_heap_0 : decode cX10_heap 0 = .ok (.aload_n 0, 1) := by decide +kernel
theorem dX10_heap_1 : decode cX10_heap 1 = .ok (.iload_n 1, 1) := by decide +kernel
theorem dX10_heap_2 : decode cX10_heap 2 = .ok (.invokevirtual 142, 3) := by decide +kernel
theorem dX10_heap_5 : decode cX10_heap 5 = .ok (.ifCond .ne 6, 3) := by decide +kernel
theorem dX10_heap_8 : decode cX10_heap 8 = .ok (.bipush (-101), 2) := by decide +kernel
theorem dX10_heap_10 : decode cX10_heap 10 = .ok (.ireturn, 1) := by decide +kernel
theorem dX10_heap_11 : decode cX10_heap 11 = .ok (.iload_n 2, 1) := by decide +kernel
theorem dX10_heap_12 : decode cX10_heap 12 = .ok (.i2l, 1) := by decide +kernel
theorem dX10_heap_13 : decode cX10_heap 13 = .ok (.lconst 0, 1) := by decide +kernel
theorem dX10_heap_14 : decode cX10_heap 14 = .ok (.ldc2_w 186, 3) := by decide +kernel
theorem dX10_heap_17 : decode cX10_heap 17 = .ok (.invokestatic 52, 3) := by decide +kernel
theorem dX10_heap_20 : decode cX10_heap 20 = .ok (.ifCond .ne 6, 3) := by decide +kernel
theorem dX10_heap_23 : decode cX10_heap 23 = .ok (.bipush (-102), 2) := by decide +kernel
theorem dX10_heap_25 : decode cX10_heap 25 = .ok (.ireturn, 1) := by decide +kernel
theorem dX10_heap_26 : decode cX10_heap 26 = .ok (.aload_n 0, 1) := by decide +kernel
theorem dX10_heap_27 : decode cX10_heap 27 = .ok (.getfield 13, 3) := by decide +kernel
theorem dX10_heap_30 : decode cX10_heap 30 = .ok (.iload_n 1, 1) := by decide +kernel
theorem dX10_heap_31 : decode cX10_heap 31 = .ok (.iaload, 1) := by decide +kernel
theorem dX10_heap_32 : decode cX10_heap 32 = .ok (.istore_n 3, 1) := by decide +kernel
theorem dX10_heap_33 : decode cX10_heap 33 = .ok (.aload_n 0, 1) := by decide +kernel
theorem dX10_heap_34 : decode cX10_heap 34 = .ok (.getfield 13, 3) := by decide +kernel
theorem dX10_heap_37 : decode cX10_heap 37 = .ok (.iload_n 1, 1) := by decide +kernel
theorem dX10_heap_38 : decode cX10_heap 38 = .ok (.iload_n 2, 1) := by decide +kernel
theorem dX10_heap_39 : decode cX10_heap 39 = .ok (.iastore, 1) := by decide +kernel
theorem dX10_heap_40 : decode cX10_heap 40 = .ok (.iload_n 3, 1) := by decide +kernel
theorem dX10_heap_41 : decode cX10_heap 41 = .ok (.ireturn, 1) := by decide +kernel
theorem dX10_teach_0 : decode cX10_teach 0 = .ok (.aload_n 0, 1) := by decide +kernel
theorem dX10_teach_1 : decode cX10_teach 1 = .ok (.iload_n 1, 1) := by decide +kernel
theorem dX10_teach_2 : decode cX10_teach 2 = .ok (.invokevirtual 168, 3) := by decide +kernel
theorem dX10_teach_5 : decode cX10_teach 5 = .ok (.ifCond .ne 6, 3) := by decide +kernel
theorem dX10_teach_8 : decode cX10_teach 8 = .ok (.bipush (-101), 2) := by decide +kernel
theorem dX10_teach_10 : decode cX10_teach 10 = .ok (.ireturn, 1) := by decide +kernel
theorem dX10_teach_11 : decode cX10_teach 11 = .ok (.iload_n 2, 1) := by decide +kernel
theorem dX10_teach_12 : decode cX10_teach 12 = .ok (.i2l, 1) := by decide +kernel
theorem dX10_teach_13 : decode cX10_teach 13 = .ok (.lconst 0, 1) := by decide +kernel
theorem dX10_teach_14 : decode cX10_teach 14 = .ok (.ldc2_w 174, 3) := by decide +kernel
theorem dX10_teach_17 : decode cX10_teach 17 = .ok (.invokestatic 52, 3) := by decide +kernel
theorem dX10_teach_20 : decode cX10_teach 20 = .ok (.ifCond .eq 15, 3) := by decide +kernel
theorem dX10_teach_23 : decode cX10_teach 23 = .ok (.iload_n 3, 1) := by decide +kernel
theorem dX10_teach_24 : decode cX10_teach 24 = .ok (.i2l, 1) := by decide +kernel
theorem dX10_teach_25 : decode cX10_teach 25 = .ok (.lconst 0, 1) := by decide +kernel
theorem dX10_teach_26 : decode cX10_teach 26 = .ok (.ldc2_w 186, 3) := by decide +kernel
theorem dX10_teach_29 : decode cX10_teach 29 = .ok (.invokestatic 52, 3) := by decide +kernel
theorem dX10_teach_32 : decode cX10_teach 32 = .ok (.ifCond .ne 6, 3) := by decide +kernel
theorem dX10_teach_35 : decode cX10_teach 35 = .ok (.bipush (-102), 2) := by decide +kernel
theorem dX10_teach_37 : decode cX10_teach 37 = .ok (.ireturn, 1) := by decide +kernel
theorem dX10_teach_38 : decode cX10_teach 38 = .ok (.aload_n 0, 1) := by decide +kernel
theorem dX10_teach_39 : decode cX10_teach 39 = .ok (.getfield 22, 3) := by decide +kernel
theorem dX10_teach_42 : decode cX10_teach 42 = .ok (.iload_n 1, 1) := by decide +kernel
theorem dX10_teach_43 : decode cX10_teach 43 = .ok (.iaload, 1) := by decide +kernel
theorem dX10_teach_44 : decode cX10_teach 44 = .ok (.istore 4, 2) := by decide +kernel
theorem dX10_teach_46 : decode cX10_teach 46 = .ok (.aload_n 0, 1) := by decide +kernel
theorem dX10_teach_47 : decode cX10_teach 47 = .ok (.getfield 22, 3) := by decide +kernel
theorem dX10_teach_50 : decode cX10_teach 50 = .ok (.iload_n 1, 1) := by decide +kernel
theorem dX10_teach_51 : decode cX10_teach 51 = .ok (.iload_n 2, 1) := by decide +kernel
theorem dX10_teach_52 : decode cX10_teach 52 = .ok (.iastore, 1) := by decide +kernel
theorem dX10_teach_53 : decode cX10_teach 53 = .ok (.aload_n 0, 1) := by decide +kernel
theorem dX10_teach_54 : decode cX10_teach 54 = .ok (.getfield 25, 3) := by decide +kernel
theorem dX10_teach_57 : decode cX10_teach 57 = .ok (.iload_n 1, 1) := by decide +kernel
theorem dX10_teach_58 : decode cX10_teach 58 = .ok (.iload_n 3, 1) := by decide +kernel
theorem dX10_teach_59 : decode cX10_teach 59 = .ok (.iastore, 1) := by decide +kernel
theorem dX10_teach_60 : decode cX10_teach 60 = .ok (.iload 4, 2) := by decide +kernel
theorem dX10_teach_62 : decode cX10_teach 62 = .ok (.ireturn, 1) := by decide +kernel
theorem dX10_figure_0 : decode cX10_figure 0 = .ok (.iload_n 1, 1) := by decide +kernel
theorem dX10_figure_1 : decode cX10_figure 1 = .ok (.istore 5, 2) := by decide +kernel
theorem dX10_figure_3 : decode cX10_figure 3 = .ok (.iload 4, 2) := by decide +kernel
theorem dX10_figure_5 : decode cX10_figure 5 = .ok (.iconst 1, 1) := by decide +kernel
theorem dX10_figure_6 : decode cX10_figure 6 = .ok (.iadd, 1) := by decide +kernel
theorem dX10_figure_7 : decode cX10_figure 7 = .ok (.istore 6, 2) := by decide +kernel
theorem dX10_figure_9 : decode cX10_figure 9 = .ok (.iload 6, 2) := by decide +kernel
theorem dX10_figure_11 : decode cX10_figure 11 = .ok (.iload_n 3, 1) := by decide +kernel
theorem dX10_figure_12 : decode cX10_figure 12 = .ok (.if_icmp .ge 15, 3) := by decide +kernel
theorem dX10_figure_15 : decode cX10_figure 15 = .ok (.iload 5, 2) := by decide +kernel
theorem dX10_figure_17 : decode cX10_figure 17 = .ok (.iload_n 2, 1) := by decide +kernel
theorem dX10_figure_18 : decode cX10_figure 18 = .ok (.idiv, 1) := by decide +kernel
theorem dX10_figure_19 : decode cX10_figure 19 = .ok (.istore 5, 2) := by decide +kernel
theorem dX10_figure_21 : decode cX10_figure 21 = .ok (.iinc 6 1, 3) := by decide +kernel
theorem dX10_figure_24 : decode cX10_figure 24 = .ok (.goto (-15), 3) := by decide +kernel
theorem dX10_figure_27 : decode cX10_figure 27 = .ok (.iload 5, 2) := by decide +kernel
theorem dX10_figure_29 : decode cX10_figure 29 = .ok (.iload_n 2, 1) := by decide +kernel
theorem dX10_figure_30 : decode cX10_figure 30 = .ok (.irem, 1) := by decide +kernel
theorem dX10_figure_31 : decode cX10_figure 31 = .ok (.ireturn, 1) := by decide +kernel
theorem dX10_power_0 : decode cX10_power 0 = .ok (.iconst 1, 1) := by decide +kernel
theorem dX10_power_1 : decode cX10_power 1 = .ok (.istore_n 2, 1) := by decide +kernel
theorem dX10_power_2 : decode cX10_power 2 = .ok (.iconst 0, 1) := by decide +kernel
theorem dX10_power_3 : decode cX10_power 3 = .ok (.istore_n 3, 1) := by decide +kernel
theorem dX10_power_4 : decode cX10_power 4 = .ok (.iload_n 3, 1) := by decide +kernel
theorem dX10_power_5 : decode cX10_power 5 = .ok (.iload_n 1, 1) := by decide +kernel
theorem dX10_power_6 : decode cX10_power 6 = .ok (.if_icmp .ge 13, 3) := by decide +kernel
theorem dX10_power_9 : decode cX10_power 9 = .ok (.iload_n 2, 1) := by decide +kernel
theorem dX10_power_10 : decode cX10_power 10 = .ok (.iload_n 0, 1) := by decide +kernel
theorem dX10_power_11 : decode cX10_power 11 = .ok (.imul, 1) := by decide +kernel
theorem dX10_power_12 : decode cX10_power 12 = .ok (.istore_n 2, 1) := by decide +kernel
theorem dX10_power_13 : decode cX10_power 13 = .ok (.iinc 3 1, 3) := by decide +kernel
theorem dX10_power_16 : decode cX10_power 16 = .ok (.goto (-12), 3) := by decide +kernel
theorem dX10_power_19 : decode cX10_power 19 = .ok (.iload_n 2, 1) := by decide +kernel
theorem dX10_power_20 : decode cX10_power 20 = .ok (.ireturn, 1) := by decide +kernel
theorem dX10_orderBy_0 : decode cX10_orderBy 0 = .ok (.aload_n 0, 1) := by decide +kernel
theorem dX10_orderBy_1 : decode cX10_orderBy 1 = .ok (.invokevirtual 136, 3) := by decide +kernel
theorem dX10_orderBy_4 : decode cX10_orderBy 4 = .ok (.iconst 0, 1) := by decide +kernel
theorem dX10_orderBy_5 : decode cX10_orderBy 5 = .ok (.istore_n 2, 1) := by decide +kernel
theorem dX10_orderBy_6 : decode cX10_orderBy 6 = .ok (.iconst 0, 1) := by decide +kernel
theorem dX10_orderBy_7 : decode cX10_orderBy 7 = .ok (.istore_n 3, 1) := by decide +kernel
theorem dX10_orderBy_8 : decode cX10_orderBy 8 = .ok (.iload_n 3, 1) := by decide +kernel
theorem dX10_orderBy_9 : decode cX10_orderBy 9 = .ok (.aload_n 0, 1) := by decide +kernel
theorem dX10_orderBy_10 : decode cX10_orderBy 10 = .ok (.getfield 96, 3) := by decide +kernel
theorem dX10_orderBy_13 : decode cX10_orderBy 13 = .ok (.if_icmp .ge 50, 3) := by decide +kernel
theorem dX10_orderBy_16 : decode cX10_orderBy 16 = .ok (.aload_n 0, 1) := by decide +kernel
theorem dX10_orderBy_17 : decode cX10_orderBy 17 = .ok (.iload_n 1, 1) := by decide +kernel
theorem dX10_orderBy_18 : decode cX10_orderBy 18 = .ok (.aload_n 0, 1) := by decide +kernel
theorem dX10_orderBy_19 : decode cX10_orderBy 19 = .ok (.getfield 96, 3) := by decide +kernel
theorem dX10_orderBy_22 : decode cX10_orderBy 22 = .ok (.aload_n 0, 1) := by decide +kernel
theorem dX10_orderBy_23 : decode cX10_orderBy 23 = .ok (.getfield 96, 3) := by decide +kernel
theorem dX10_orderBy_26 : decode cX10_orderBy 26 = .ok (.iload_n 3, 1) := by decide +kernel
theorem dX10_orderBy_27 : decode cX10_orderBy 27 = .ok (.invokevirtual 188, 3) := by decide +kernel
theorem dX10_orderBy_30 : decode cX10_orderBy 30 = .ok (.istore 4, 2) := by decide +kernel
theorem dX10_orderBy_32 : decode cX10_orderBy 32 = .ok (.iload_n 2, 1) := by decide +kernel
theorem dX10_orderBy_33 : decode cX10_orderBy 33 = .ok (.iload 4, 2) := by decide +kernel
theorem dX10_orderBy_35 : decode cX10_orderBy 35 = .ok (.ishr, 1) := by decide +kernel
theorem dX10_orderBy_36 : decode cX10_orderBy 36 = .ok (.iconst 1, 1) := by decide +kernel
theorem dX10_orderBy_37 : decode cX10_orderBy 37 = .ok (.iand, 1) := by decide +kernel
theorem dX10_orderBy_38 : decode cX10_orderBy 38 = .ok (.iconst 1, 1) := by decide +kernel
theorem dX10_orderBy_39 : decode cX10_orderBy 39 = .ok (.if_icmp .ne 5, 3) := by decide +kernel
theorem dX10_orderBy_42 : decode cX10_orderBy 42 = .ok (.iconst (-1), 1) := by decide +kernel
theorem dX10_orderBy_43 : decode cX10_orderBy 43 = .ok (.ireturn, 1) := by decide +kernel
theorem dX10_orderBy_44 : decode cX10_orderBy 44 = .ok (.iload_n 2, 1) := by decide +kernel
theorem dX10_orderBy_45 : decode cX10_orderBy 45 = .ok (.iconst 1, 1) := by decide +kernel
theorem dX10_orderBy_46 : decode cX10_orderBy 46 = .ok (.iload 4, 2) := by decide +kernel
theorem dX10_orderBy_48 : decode cX10_orderBy 48 = .ok (.ishl, 1) := by decide +kernel
theorem dX10_orderBy_49 : decode cX10_orderBy 49 = .ok (.ior, 1) := by decide +kernel
theorem dX10_orderBy_50 : decode cX10_orderBy 50 = .ok (.istore_n 2, 1) := by decide +kernel
theorem dX10_orderBy_51 : decode cX10_orderBy 51 = .ok (.aload_n 0, 1) := by decide +kernel
theorem dX10_orderBy_52 : decode cX10_orderBy 52 = .ok (.iload 4, 2) := by decide +kernel
theorem dX10_orderBy_54 : decode cX10_orderBy 54 = .ok (.invokevirtual 158, 3) := by decide +kernel
theorem dX10_orderBy_57 : decode cX10_orderBy 57 = .ok (.iinc 3 1, 3) := by decide +kernel
theorem dX10_orderBy_60 : decode cX10_orderBy 60 = .ok (.goto (-52), 3) := by decide +kernel
theorem dX10_orderBy_63 : decode cX10_orderBy 63 = .ok (.sipush 10000, 3) := by decide +kernel
theorem dX10_orderBy_66 : decode cX10_orderBy 66 = .ok (.aload_n 0, 1) := by decide +kernel
theorem dX10_orderBy_67 : decode cX10_orderBy 67 = .ok (.invokevirtual 192, 3) := by decide +kernel
theorem dX10_orderBy_70 : decode cX10_orderBy 70 = .ok (.imul, 1) := by decide +kernel
theorem dX10_orderBy_71 : decode cX10_orderBy 71 = .ok (.bipush 100, 2) := by decide +kernel
theorem dX10_orderBy_73 : decode cX10_orderBy 73 = .ok (.bipush 9, 2) := by decide +kernel
theorem dX10_orderBy_75 : decode cX10_orderBy 75 = .ok (.aload_n 0, 1) := by decide +kernel
theorem dX10_orderBy_76 : decode cX10_orderBy 76 = .ok (.getfield 120, 3) := by decide +kernel
theorem dX10_orderBy_79 : decode cX10_orderBy 79 = .ok (.isub, 1) := by decide +kernel
theorem dX10_orderBy_80 : decode cX10_orderBy 80 = .ok (.imul, 1) := by decide +kernel
theorem dX10_orderBy_81 : decode cX10_orderBy 81 = .ok (.iadd, 1) := by decide +kernel
theorem dX10_orderBy_82 : decode cX10_orderBy 82 = .ok (.aload_n 0, 1) := by decide +kernel
theorem dX10_orderBy_83 : decode cX10_orderBy 83 = .ok (.getfield 117, 3) := by decide +kernel
theorem dX10_orderBy_86 : decode cX10_orderBy 86 = .ok (.iadd, 1) := by decide +kernel
theorem dX10_orderBy_87 : decode cX10_orderBy 87 = .ok (.ireturn, 1) := by decide +kernel
theorem dX10_orderOf_0 : decode cX10_orderOf 0 = .ok (.iconst 0, 1) := by decide +kernel
theorem dX10_orderOf_1 : decode cX10_orderOf 1 = .ok (.istore_n 2, 1) := by decide +kernel
theorem dX10_orderOf_2 : decode cX10_orderOf 2 = .ok (.iconst (-1), 1) := by decide +kernel
theorem dX10_orderOf_3 : decode cX10_orderOf 3 = .ok (.istore_n 3, 1) := by decide +kernel
theorem dX10_orderOf_4 : decode cX10_orderOf 4 = .ok (.iconst 0, 1) := by decide +kernel
theorem dX10_orderOf_5 : decode cX10_orderOf 5 = .ok (.istore 4, 2) := by decide +kernel
theorem dX10_orderOf_7 : decode cX10_orderOf 7 = .ok (.iload 4, 2) := by decide +kernel
theorem dX10_orderOf_9 : decode cX10_orderOf 9 = .ok (.aload_n 0, 1) := by decide +kernel
theorem dX10_orderOf_10 : decode cX10_orderOf 10 = .ok (.getfield 96, 3) := by decide +kernel
theorem dX10_orderOf_13 : decode cX10_orderOf 13 = .ok (.aload_n 0, 1) := by decide +kernel
theorem dX10_orderOf_14 : decode cX10_orderOf 14 = .ok (.getfield 96, 3) := by decide +kernel
theorem dX10_orderOf_17 : decode cX10_orderOf 17 = .ok (.invokestatic 195, 3) := by decide +kernel
theorem dX10_orderOf_20 : decode cX10_orderOf 20 = .ok (.if_icmp .ge 43, 3) := by decide +kernel
theorem dX10_orderOf_23 : decode cX10_orderOf 23 = .ok (.aload_n 0, 1) := by decide +kernel
theorem dX10_orderOf_24 : decode cX10_orderOf 24 = .ok (.iload 4, 2) := by decide +kernel
theorem dX10_orderOf_26 : decode cX10_orderOf 26 = .ok (.invokevirtual 198, 3) := by decide +kernel
theorem dX10_orderOf_29 : decode cX10_orderOf 29 = .ok (.istore 5, 2) := by decide +kernel
theorem dX10_orderOf_31 : decode cX10_orderOf 31 = .ok (.iload 5, 2) := by decide +kernel
theorem dX10_orderOf_33 : decode cX10_orderOf 33 = .ok (.iload_n 3, 1) := by decide +kernel
theorem dX10_orderOf_34 : decode cX10_orderOf 34 = .ok (.if_icmp .le 8, 3) := by decide +kernel
theorem dX10_orderOf_37 : decode cX10_orderOf 37 = .ok (.iload 4, 2) := by decide +kernel
theorem dX10_orderOf_39 : decode cX10_orderOf 39 = .ok (.goto 4, 3) := by decide +kernel
theorem dX10_orderOf_42 : decode cX10_orderOf 42 = .ok (.iload_n 2, 1) := by decide +kernel
theorem dX10_orderOf_43 : decode cX10_orderOf 43 = .ok (.istore_n 2, 1) := by decide +kernel
theorem dX10_orderOf_44 : decode cX10_orderOf 44 = .ok (.iload 5, 2) := by decide +kernel
theorem dX10_orderOf_46 : decode cX10_orderOf 46 = .ok (.iload_n 3, 1) := by decide +kernel
theorem dX10_orderOf_47 : decode cX10_orderOf 47 = .ok (.if_icmp .le 8, 3) := by decide +kernel
theorem dX10_orderOf_50 : decode cX10_orderOf 50 = .ok (.iload 5, 2) := by decide +kernel
theorem dX10_orderOf_52 : decode cX10_orderOf 52 = .ok (.goto 4, 3) := by decide +kernel
theorem dX10_orderOf_55 : decode cX10_orderOf 55 = .ok (.iload_n 3, 1) := by decide +kernel
theorem dX10_orderOf_56 : decode cX10_orderOf 56 = .ok (.istore_n 3, 1) := by decide +kernel
theorem dX10_orderOf_57 : decode cX10_orderOf 57 = .ok (.iinc 4 1, 3) := by decide +kernel
theorem dX10_orderOf_60 : decode cX10_orderOf 60 = .ok (.goto (-53), 3) := by decide +kernel
theorem dX10_orderOf_63 : decode cX10_orderOf 63 = .ok (.iload_n 1, 1) := by decide +kernel
theorem dX10_orderOf_64 : decode cX10_orderOf 64 = .ok (.tableswitch 50 0 2 #[28, 34, 45], 28) := by decide +kernel
theorem dX10_orderOf_92 : decode cX10_orderOf 92 = .ok (.iload_n 3, 1) := by decide +kernel
theorem dX10_orderOf_93 : decode cX10_orderOf 93 = .ok (.sipush 10000, 3) := by decide +kernel
theorem dX10_orderOf_96 : decode cX10_orderOf 96 = .ok (.idiv, 1) := by decide +kernel
theorem dX10_orderOf_97 : decode cX10_orderOf 97 = .ok (.ireturn, 1) := by decide +kernel
theorem dX10_orderOf_98 : decode cX10_orderOf 98 = .ok (.bipush 9, 2) := by decide +kernel
theorem dX10_orderOf_100 : decode cX10_orderOf 100 = .ok (.iload_n 3, 1) := by decide +kernel
theorem dX10_orderOf_101 : decode cX10_orderOf 101 = .ok (.bipush 100, 2) := by decide +kernel
theorem dX10_orderOf_103 : decode cX10_orderOf 103 = .ok (.idiv, 1) := by decide +kernel
theorem dX10_orderOf_104 : decode cX10_orderOf 104 = .ok (.bipush 100, 2) := by decide +kernel
theorem dX10_orderOf_106 : decode cX10_orderOf 106 = .ok (.irem, 1) := by decide +kernel
theorem dX10_orderOf_107 : decode cX10_orderOf 107 = .ok (.isub, 1) := by decide +kernel
theorem dX10_orderOf_108 : decode cX10_orderOf 108 = .ok (.ireturn, 1) := by decide +kernel
theorem dX10_orderOf_109 : decode cX10_orderOf 109 = .ok (.iload_n 3, 1) := by decide +kernel
theorem dX10_orderOf_110 : decode cX10_orderOf 110 = .ok (.bipush 100, 2) := by decide +kernel
theorem dX10_orderOf_112 : decode cX10_orderOf 112 = .ok (.irem, 1) := by decide +kernel
theorem dX10_orderOf_113 : decode cX10_orderOf 113 = .ok (.ireturn, 1) := by decide +kernel
theorem dX10_orderOf_114 : decode cX10_orderOf 114 = .ok (.iload_n 1, 1) := by decide +kernel
theorem dX10_orderOf_115 : decode cX10_orderOf 115 = .ok (.bipush 10, 2) := by decide +kernel
theorem dX10_orderOf_117 : decode cX10_orderOf 117 = .ok (.isub, 1) := by decide +kernel
theorem dX10_orderOf_118 : decode cX10_orderOf 118 = .ok (.aload_n 0, 1) := by decide +kernel
theorem dX10_orderOf_119 : decode cX10_orderOf 119 = .ok (.getfield 96, 3) := by decide +kernel
theorem dX10_orderOf_122 : decode cX10_orderOf 122 = .ok (.if_icmp .ge 23, 3) := by decide +kernel
theorem dX10_orderOf_125 : decode cX10_orderOf 125 = .ok (.aload_n 0, 1) := by decide +kernel
theorem dX10_orderOf_126 : decode cX10_orderOf 126 = .ok (.iload_n 2, 1) := by decide +kernel
theorem dX10_orderOf_127 : decode cX10_orderOf 127 = .ok (.aload_n 0, 1) := by decide +kernel
theorem dX10_orderOf_128 : decode cX10_orderOf 128 = .ok (.getfield 96, 3) := by decide +kernel
theorem dX10_orderOf_131 : decode cX10_orderOf 131 = .ok (.aload_n 0, 1) := by decide +kernel
theorem dX10_orderOf_132 : decode cX10_orderOf 132 = .ok (.getfield 96, 3) := by decide +kernel
theorem dX10_orderOf_135 : decode cX10_orderOf 135 = .ok (.iload_n 1, 1) := by decide +kernel
theorem dX10_orderOf_136 : decode cX10_orderOf 136 = .ok (.bipush 10, 2) := by decide +kernel
theorem dX10_orderOf_138 : decode cX10_orderOf 138 = .ok (.isub, 1) := by decide +kernel
theorem dX10_orderOf_139 : decode cX10_orderOf 139 = .ok (.invokevirtual 188, 3) := by decide +kernel
theorem dX10_orderOf_142 : decode cX10_orderOf 142 = .ok (.goto 4, 3) := by decide +kernel
theorem dX10_orderOf_145 : decode cX10_orderOf 145 = .ok (.iconst (-1), 1) := by decide +kernel
theorem dX10_orderOf_146 : decode cX10_orderOf 146 = .ok (.ireturn, 1) := by decide +kernel
theorem dX10_order_0 : decode cX10_order 0 = .ok (.iload_n 1, 1) := by decide +kernel
theorem dX10_order_1 : decode cX10_order 1 = .ok (.i2l, 1) := by decide +kernel
theorem dX10_order_2 : decode cX10_order 2 = .ok (.lconst 0, 1) := by decide +kernel
theorem dX10_order_3 : decode cX10_order 3 = .ok (.ldc2_w 201, 3) := by decide +kernel
theorem dX10_order_6 : decode cX10_order 6 = .ok (.invokestatic 52, 3) := by decide +kernel
theorem dX10_order_9 : decode cX10_order 9 = .ok (.ifCond .ne 20, 3) := by decide +kernel
theorem dX10_order_12 : decode cX10_order 12 = .ok (.iload_n 1, 1) := by decide +kernel
theorem dX10_order_13 : decode cX10_order 13 = .ok (.i2l, 1) := by decide +kernel
theorem dX10_order_14 : decode cX10_order 14 = .ok (.ldc2_w 203, 3) := by decide +kernel
theorem dX10_order_17 : decode cX10_order 17 = .ok (.ldc2_w 205, 3) := by decide +kernel
theorem dX10_order_20 : decode cX10_order 20 = .ok (.invokestatic 52, 3) := by decide +kernel
theorem dX10_order_23 : decode cX10_order 23 = .ok (.ifCond .ne 6, 3) := by decide +kernel
theorem dX10_order_26 : decode cX10_order 26 = .ok (.bipush (-102), 2) := by decide +kernel
theorem dX10_order_28 : decode cX10_order 28 = .ok (.ireturn, 1) := by decide +kernel
theorem dX10_order_29 : decode cX10_order 29 = .ok (.aload_n 0, 1) := by decide +kernel
theorem dX10_order_30 : decode cX10_order 30 = .ok (.invokevirtual 179, 3) := by decide +kernel
theorem dX10_order_33 : decode cX10_order 33 = .ok (.ifCond .eq 8, 3) := by decide +kernel
theorem dX10_order_36 : decode cX10_order 36 = .ok (.bipush (-103), 2) := by decide +kernel
theorem dX10_order_38 : decode cX10_order 38 = .ok (.goto 8, 3) := by decide +kernel
theorem dX10_order_41 : decode cX10_order 41 = .ok (.aload_n 0, 1) := by decide +kernel
theorem dX10_order_42 : decode cX10_order 42 = .ok (.iload_n 1, 1) := by decide +kernel
theorem dX10_order_43 : decode cX10_order 43 = .ok (.invokevirtual 207, 3) := by decide +kernel
theorem dX10_order_46 : decode cX10_order 46 = .ok (.ireturn, 1) := by decide +kernel
theorem dX10_isAfloat_0 : decode cX10_isAfloat 0 = .ok (.aload_n 0, 1) := by decide +kernel
theorem dX10_isAfloat_1 : decode cX10_isAfloat 1 = .ok (.invokevirtual 136, 3) := by decide +kernel
theorem dX10_isAfloat_4 : decode cX10_isAfloat 4 = .ok (.iconst 0, 1) := by decide +kernel
theorem dX10_isAfloat_5 : decode cX10_isAfloat 5 = .ok (.istore 4, 2) := by decide +kernel
theorem dX10_isAfloat_7 : decode cX10_isAfloat 7 = .ok (.iload 4, 2) := by decide +kernel
theorem dX10_isAfloat_9 : decode cX10_isAfloat 9 = .ok (.iload_n 3, 1) := by decide +kernel
theorem dX10_isAfloat_10 : decode cX10_isAfloat 10 = .ok (.if_icmp .ge 47, 3) := by decide +kernel
theorem dX10_isAfloat_13 : decode cX10_isAfloat 13 = .ok (.aload_n 0, 1) := by decide +kernel
theorem dX10_isAfloat_14 : decode cX10_isAfloat 14 = .ok (.iload_n 2, 1) := by decide +kernel
theorem dX10_isAfloat_15 : decode cX10_isAfloat 15 = .ok (.aload_n 0, 1) := by decide +kernel
theorem dX10_isAfloat_16 : decode cX10_isAfloat 16 = .ok (.getfield 96, 3) := by decide +kernel
theorem dX10_isAfloat_19 : decode cX10_isAfloat 19 = .ok (.iconst 1, 1) := by decide +kernel
theorem dX10_isAfloat_20 : decode cX10_isAfloat 20 = .ok (.iadd, 1) := by decide +kernel
theorem dX10_isAfloat_21 : decode cX10_isAfloat 21 = .ok (.iload_n 3, 1) := by decide +kernel
theorem dX10_isAfloat_22 : decode cX10_isAfloat 22 = .ok (.iload 4, 2) := by decide +kernel
theorem dX10_isAfloat_24 : decode cX10_isAfloat 24 = .ok (.invokevirtual 188, 3) := by decide +kernel
theorem dX10_isAfloat_27 : decode cX10_isAfloat 27 = .ok (.istore 5, 2) := by decide +kernel
theorem dX10_isAfloat_29 : decode cX10_isAfloat 29 = .ok (.iload 5, 2) := by decide +kernel
theorem dX10_isAfloat_31 : decode cX10_isAfloat 31 = .ok (.aload_n 0, 1) := by decide +kernel
theorem dX10_isAfloat_32 : decode cX10_isAfloat 32 = .ok (.getfield 96, 3) := by decide +kernel
theorem dX10_isAfloat_35 : decode cX10_isAfloat 35 = .ok (.if_icmp .ge 12, 3) := by decide +kernel
theorem dX10_isAfloat_38 : decode cX10_isAfloat 38 = .ok (.aload_n 0, 1) := by decide +kernel
theorem dX10_isAfloat_39 : decode cX10_isAfloat 39 = .ok (.iload 5, 2) := by decide +kernel
theorem dX10_isAfloat_41 : decode cX10_isAfloat 41 = .ok (.invokevirtual 158, 3) := by decide +kernel
theorem dX10_isAfloat_44 : decode cX10_isAfloat 44 = .ok (.goto 7, 3) := by decide +kernel
theorem dX10_isAfloat_47 : decode cX10_isAfloat 47 = .ok (.aload_n 0, 1) := by decide +kernel
theorem dX10_isAfloat_48 : decode cX10_isAfloat 48 = .ok (.invokevirtual 183, 3) := by decide +kernel
theorem dX10_isAfloat_51 : decode cX10_isAfloat 51 = .ok (.iinc 4 1, 3) := by decide +kernel
theorem dX10_isAfloat_54 : decode cX10_isAfloat 54 = .ok (.goto (-47), 3) := by decide +kernel
theorem dX10_isAfloat_57 : decode cX10_isAfloat 57 = .ok (.aload_n 0, 1) := by decide +kernel
theorem dX10_isAfloat_58 : decode cX10_isAfloat 58 = .ok (.iload_n 1, 1) := by decide +kernel
theorem dX10_isAfloat_59 : decode cX10_isAfloat 59 = .ok (.invokevirtual 133, 3) := by decide +kernel
theorem dX10_isAfloat_62 : decode cX10_isAfloat 62 = .ok (.ireturn, 1) := by decide +kernel
theorem dX10_fewOf_0 : decode cX10_fewOf 0 = .ok (.iconst 0, 1) := by decide +kernel
theorem dX10_fewOf_1 : decode cX10_fewOf 1 = .ok (.istore_n 3, 1) := by decide +kernel
theorem dX10_fewOf_2 : decode cX10_fewOf 2 = .ok (.iload_n 3, 1) := by decide +kernel
theorem dX10_fewOf_3 : decode cX10_fewOf 3 = .ok (.bipush 6, 2) := by decide +kernel
theorem dX10_fewOf_5 : decode cX10_fewOf 5 = .ok (.if_icmp .ge 104, 3) := by decide +kernel
theorem dX10_fewOf_8 : decode cX10_fewOf 8 = .ok (.iconst 0, 1) := by decide +kernel
theorem dX10_fewOf_9 : decode cX10_fewOf 9 = .ok (.istore 4, 2) := by decide +kernel
theorem dX10_fewOf_11 : decode cX10_fewOf 11 = .ok (.iload 4, 2) := by decide +kernel
theorem dX10_fewOf_13 : decode cX10_fewOf 13 = .ok (.aload_n 0, 1) := by decide +kernel
theorem dX10_fewOf_14 : decode cX10_fewOf 14 = .ok (.getfield 96, 3) := by decide +kernel
theorem dX10_fewOf_17 : decode cX10_fewOf 17 = .ok (.iconst 1, 1) := by decide +kernel
theorem dX10_fewOf_18 : decode cX10_fewOf 18 = .ok (.iadd, 1) := by decide +kernel
theorem dX10_fewOf_19 : decode cX10_fewOf 19 = .ok (.iload_n 3, 1) := by decide +kernel
theorem dX10_fewOf_20 : decode cX10_fewOf 20 = .ok (.invokestatic 195, 3) := by decide +kernel
theorem dX10_fewOf_23 : decode cX10_fewOf 23 = .ok (.if_icmp .ge 80, 3) := by decide +kernel
theorem dX10_fewOf_26 : decode cX10_fewOf 26 = .ok (.aload_n 0, 1) := by decide +kernel
theorem dX10_fewOf_27 : decode cX10_fewOf 27 = .ok (.iload_n 1, 1) := by decide +kernel
theorem dX10_fewOf_28 : decode cX10_fewOf 28 = .ok (.iload 4, 2) := by decide +kernel
theorem dX10_fewOf_30 : decode cX10_fewOf 30 = .ok (.iload_n 3, 1) := by decide +kernel
theorem dX10_fewOf_31 : decode cX10_fewOf 31 = .ok (.invokevirtual 210, 3) := by decide +kernel
theorem dX10_fewOf_34 : decode cX10_fewOf 34 = .ok (.ifCond .eq 63, 3) := by decide +kernel
theorem dX10_fewOf_37 : decode cX10_fewOf 37 = .ok (.iload_n 2, 1) := by decide +kernel
theorem dX10_fewOf_38 : decode cX10_fewOf 38 = .ok (.bipush 10, 2) := by decide +kernel
theorem dX10_fewOf_40 : decode cX10_fewOf 40 = .ok (.isub, 1) := by decide +kernel
theorem dX10_fewOf_41 : decode cX10_fewOf 41 = .ok (.iload_n 3, 1) := by decide +kernel
theorem dX10_fewOf_42 : decode cX10_fewOf 42 = .ok (.if_icmp .ge 27, 3) := by decide +kernel
theorem dX10_fewOf_45 : decode cX10_fewOf 45 = .ok (.iload_n 2, 1) := by decide +kernel
theorem dX10_fewOf_46 : decode cX10_fewOf 46 = .ok (.ifCond .le 23, 3) := by decide +kernel
theorem dX10_fewOf_49 : decode cX10_fewOf 49 = .ok (.aload_n 0, 1) := by decide +kernel
theorem dX10_fewOf_50 : decode cX10_fewOf 50 = .ok (.iload 4, 2) := by decide +kernel
theorem dX10_fewOf_52 : decode cX10_fewOf 52 = .ok (.aload_n 0, 1) := by decide +kernel
theorem dX10_fewOf_53 : decode cX10_fewOf 53 = .ok (.getfield 96, 3) := by decide +kernel
theorem dX10_fewOf_56 : decode cX10_fewOf 56 = .ok (.iconst 1, 1) := by decide +kernel
theorem dX10_fewOf_57 : decode cX10_fewOf 57 = .ok (.iadd, 1) := by decide +kernel
theorem dX10_fewOf_58 : decode cX10_fewOf 58 = .ok (.iload_n 3, 1) := by decide +kernel
theorem dX10_fewOf_59 : decode cX10_fewOf 59 = .ok (.iload_n 2, 1) := by decide +kernel
theorem dX10_fewOf_60 : decode cX10_fewOf 60 = .ok (.bipush 10, 2) := by decide +kernel
theorem dX10_fewOf_62 : decode cX10_fewOf 62 = .ok (.isub, 1) := by decide +kernel
theorem dX10_fewOf_63 : decode cX10_fewOf 63 = .ok (.invokevirtual 188, 3) := by decide +kernel
theorem dX10_fewOf_66 : decode cX10_fewOf 66 = .ok (.goto 4, 3) := by decide +kernel
theorem dX10_fewOf_69 : decode cX10_fewOf 69 = .ok (.iconst (-1), 1) := by decide +kernel
theorem dX10_fewOf_70 : decode cX10_fewOf 70 = .ok (.istore 5, 2) := by decide +kernel
theorem dX10_fewOf_72 : decode cX10_fewOf 72 = .ok (.iload_n 2, 1) := by decide +kernel
theorem dX10_fewOf_73 : decode cX10_fewOf 73 = .ok (.ifCond .ne 7, 3) := by decide +kernel
theorem dX10_fewOf_76 : decode cX10_fewOf 76 = .ok (.iload_n 3, 1) := by decide +kernel
theorem dX10_fewOf_77 : decode cX10_fewOf 77 = .ok (.goto 19, 3) := by decide +kernel
theorem dX10_fewOf_80 : decode cX10_fewOf 80 = .ok (.iload 5, 2) := by decide +kernel
theorem dX10_fewOf_82 : decode cX10_fewOf 82 = .ok (.aload_n 0, 1) := by decide +kernel
theorem dX10_fewOf_83 : decode cX10_fewOf 83 = .ok (.getfield 96, 3) := by decide +kernel
theorem dX10_fewOf_86 : decode cX10_fewOf 86 = .ok (.if_icmp .ne 8, 3) := by decide +kernel
theorem dX10_fewOf_89 : decode cX10_fewOf 89 = .ok (.bipush 9, 2) := by decide +kernel
theorem dX10_fewOf_91 : decode cX10_fewOf 91 = .ok (.goto 5, 3) := by decide +kernel
theorem dX10_fewOf_94 : decode cX10_fewOf 94 = .ok (.iload 5, 2) := by decide +kernel
theorem dX10_fewOf_96 : decode cX10_fewOf 96 = .ok (.ireturn, 1) := by decide +kernel
theorem dX10_fewOf_97 : decode cX10_fewOf 97 = .ok (.iinc 4 1, 3) := by decide +kernel
theorem dX10_fewOf_100 : decode cX10_fewOf 100 = .ok (.goto (-89), 3) := by decide +kernel
theorem dX10_fewOf_103 : decode cX10_fewOf 103 = .ok (.iinc 3 1, 3) := by decide +kernel
theorem dX10_fewOf_106 : decode cX10_fewOf 106 = .ok (.goto (-104), 3) := by decide +kernel
theorem dX10_fewOf_109 : decode cX10_fewOf 109 = .ok (.iconst (-1), 1) := by decide +kernel
theorem dX10_fewOf_110 : decode cX10_fewOf 110 = .ok (.ireturn, 1) := by decide +kernel
theorem dX10_few_0 : decode cX10_few 0 = .ok (.aload_n 0, 1) := by decide +kernel
theorem dX10_few_1 : decode cX10_few 1 = .ok (.iload_n 1, 1) := by decide +kernel
theorem dX10_few_2 : decode cX10_few 2 = .ok (.invokevirtual 152, 3) := by decide +kernel
theorem dX10_few_5 : decode cX10_few 5 = .ok (.ifCond .ne 6, 3) := by decide +kernel
theorem dX10_few_8 : decode cX10_few 8 = .ok (.bipush (-101), 2) := by decide +kernel
theorem dX10_few_10 : decode cX10_few 10 = .ok (.ireturn, 1) := by decide +kernel
theorem dX10_few_11 : decode cX10_few 11 = .ok (.iload_n 2, 1) := by decide +kernel
theorem dX10_few_12 : decode cX10_few 12 = .ok (.ifCond .eq 20, 3) := by decide +kernel
theorem dX10_few_15 : decode cX10_few 15 = .ok (.iload_n 2, 1) := by decide +kernel
theorem dX10_few_16 : decode cX10_few 16 = .ok (.i2l, 1) := by decide +kernel
theorem dX10_few_17 : decode cX10_few 17 = .ok (.ldc2_w 203, 3) := by decide +kernel
theorem dX10_few_20 : decode cX10_few 20 = .ok (.ldc2_w 205, 3) := by decide +kernel
theorem dX10_few_23 : decode cX10_few 23 = .ok (.invokestatic 52, 3) := by decide +kernel
theorem dX10_few_26 : decode cX10_few 26 = .ok (.ifCond .ne 6, 3) := by decide +kernel
theorem dX10_few_29 : decode cX10_few 29 = .ok (.bipush (-102), 2) := by decide +kernel
theorem dX10_few_31 : decode cX10_few 31 = .ok (.ireturn, 1) := by decide +kernel
theorem dX10_few_32 : decode cX10_few 32 = .ok (.aload_n 0, 1) := by decide +kernel
theorem dX10_few_33 : decode cX10_few 33 = .ok (.getfield 214, 3) := by decide +kernel
theorem dX10_few_36 : decode cX10_few 36 = .ok (.bipush 12, 2) := by decide +kernel
theorem dX10_few_38 : decode cX10_few 38 = .ok (.if_icmp .ne 6, 3) := by decide +kernel
theorem dX10_few_41 : decode cX10_few 41 = .ok (.bipush (-103), 2) := by decide +kernel
theorem dX10_few_43 : decode cX10_few 43 = .ok (.ireturn, 1) := by decide +kernel
theorem dX10_few_44 : decode cX10_few 44 = .ok (.aload_n 0, 1) := by decide +kernel
theorem dX10_few_45 : decode cX10_few 45 = .ok (.dup, 1) := by decide +kernel
theorem dX10_few_46 : decode cX10_few 46 = .ok (.getfield 214, 3) := by decide +kernel
theorem dX10_few_49 : decode cX10_few 49 = .ok (.iconst 1, 1) := by decide +kernel
theorem dX10_few_50 : decode cX10_few 50 = .ok (.iadd, 1) := by decide +kernel
theorem dX10_few_51 : decode cX10_few 51 = .ok (.putfield 214, 3) := by decide +kernel
theorem dX10_few_54 : decode cX10_few 54 = .ok (.aload_n 0, 1) := by decide +kernel
theorem dX10_few_55 : decode cX10_few 55 = .ok (.iload_n 1, 1) := by decide +kernel
theorem dX10_few_56 : decode cX10_few 56 = .ok (.iload_n 2, 1) := by decide +kernel
theorem dX10_few_57 : decode cX10_few 57 = .ok (.invokevirtual 217, 3) := by decide +kernel
theorem dX10_few_60 : decode cX10_few 60 = .ok (.ireturn, 1) := by decide +kernel
theorem dX10_goodOf_0 : decode cX10_goodOf 0 = .ok (.aload_n 0, 1) := by decide +kernel
theorem dX10_goodOf_1 : decode cX10_goodOf 1 = .ok (.invokevirtual 136, 3) := by decide +kernel
theorem dX10_goodOf_4 : decode cX10_goodOf 4 = .ok (.iconst 0, 1) := by decide +kernel
theorem dX10_goodOf_5 : decode cX10_goodOf 5 = .ok (.istore_n 1, 1) := by decide +kernel
theorem dX10_goodOf_6 : decode cX10_goodOf 6 = .ok (.aload_n 0, 1) := by decide +kernel
theorem dX10_goodOf_7 : decode cX10_goodOf 7 = .ok (.getfield 120, 3) := by decide +kernel
theorem dX10_goodOf_10 : decode cX10_goodOf 10 = .ok (.ifCond .le 13, 3) := by decide +kernel
theorem dX10_goodOf_13 : decode cX10_goodOf 13 = .ok (.aload_n 0, 1) := by decide +kernel
theorem dX10_goodOf_14 : decode cX10_goodOf 14 = .ok (.invokevirtual 183, 3) := by decide +kernel
theorem dX10_goodOf_17 : decode cX10_goodOf 17 = .ok (.iinc 1 1, 3) := by decide +kernel
theorem dX10_goodOf_20 : decode cX10_goodOf 20 = .ok (.goto (-14), 3) := by decide +kernel
theorem dX10_goodOf_23 : decode cX10_goodOf 23 = .ok (.aload_n 0, 1) := by decide +kernel
theorem dX10_goodOf_24 : decode cX10_goodOf 24 = .ok (.getfield 117, 3) := by decide +kernel
theorem dX10_goodOf_27 : decode cX10_goodOf 27 = .ok (.aload_n 0, 1) := by decide +kernel
theorem dX10_goodOf_28 : decode cX10_goodOf 28 = .ok (.getfield 99, 3) := by decide +kernel
theorem dX10_goodOf_31 : decode cX10_goodOf 31 = .ok (.if_icmp .ge 16, 3) := by decide +kernel
theorem dX10_goodOf_34 : decode cX10_goodOf 34 = .ok (.aload_n 0, 1) := by decide +kernel
theorem dX10_goodOf_35 : decode cX10_goodOf 35 = .ok (.iconst 0, 1) := by decide +kernel
theorem dX10_goodOf_36 : decode cX10_goodOf 36 = .ok (.bipush 9, 2) := by decide +kernel
theorem dX10_goodOf_38 : decode cX10_goodOf 38 = .ok (.invokevirtual 126, 3) := by decide +kernel
theorem dX10_goodOf_41 : decode cX10_goodOf 41 = .ok (.iinc 1 1, 3) := by decide +kernel
theorem dX10_goodOf_44 : decode cX10_goodOf 44 = .ok (.goto (-21), 3) := by decide +kernel
theorem dX10_goodOf_47 : decode cX10_goodOf 47 = .ok (.iload_n 1, 1) := by decide +kernel
theorem dX10_goodOf_48 : decode cX10_goodOf 48 = .ok (.ireturn, 1) := by decide +kernel
theorem dX10_good_0 : decode cX10_good 0 = .ok (.aload_n 0, 1) := by decide +kernel
theorem dX10_good_1 : decode cX10_good 1 = .ok (.invokevirtual 179, 3) := by decide +kernel
theorem dX10_good_4 : decode cX10_good 4 = .ok (.ifCond .eq 8, 3) := by decide +kernel
theorem dX10_good_7 : decode cX10_good 7 = .ok (.bipush (-103), 2) := by decide +kernel
theorem dX10_good_9 : decode cX10_good 9 = .ok (.goto 7, 3) := by decide +kernel
theorem dX10_good_12 : decode cX10_good 12 = .ok (.aload_n 0, 1) := by decide +kernel
theorem dX10_good_13 : decode cX10_good 13 = .ok (.invokevirtual 220, 3) := by decide +kernel
theorem dX10_good_16 : decode cX10_good 16 = .ok (.ireturn, 1) := by decide +kernel
theorem dX10_oddsOf_0 : decode cX10_oddsOf 0 = .ok (.bipush 10, 2) := by decide +kernel
theorem dX10_oddsOf_2 : decode cX10_oddsOf 2 = .ok (.aload_n 0, 1) := by decide +kernel
theorem dX10_oddsOf_3 : decode cX10_oddsOf 3 = .ok (.getfield 96, 3) := by decide +kernel
theorem dX10_oddsOf_6 : decode cX10_oddsOf 6 = .ok (.invokestatic 195, 3) := by decide +kernel
theorem dX10_oddsOf_9 : decode cX10_oddsOf 9 = .ok (.istore 4, 2) := by decide +kernel
theorem dX10_oddsOf_11 : decode cX10_oddsOf 11 = .ok (.iconst 0, 1) := by decide +kernel
theorem dX10_oddsOf_12 : decode cX10_oddsOf 12 = .ok (.istore 5, 2) := by decide +kernel
theorem dX10_oddsOf_14 : decode cX10_oddsOf 14 = .ok (.iconst 0, 1) := by decide +kernel
theorem dX10_oddsOf_15 : decode cX10_oddsOf 15 = .ok (.istore 6, 2) := by decide +kernel
theorem dX10_oddsOf_17 : decode cX10_oddsOf 17 = .ok (.iload 6, 2) := by decide +kernel
theorem dX10_oddsOf_19 : decode cX10_oddsOf 19 = .ok (.iconst 1, 1) := by decide +kernel
