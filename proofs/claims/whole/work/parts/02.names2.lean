theorem dX7_next_38 : decode cX7_next 38 = .ok (.iconst 0, 1) := by decide +kernel
theorem dX7_next_39 : decode cX7_next 39 = .ok (.ireturn, 1) := by decide +kernel
theorem dX8_init_0 : decode cX8_init 0 = .ok (.aload_n 0, 1) := by decide +kernel
theorem dX8_init_1 : decode cX8_init 1 = .ok (.invokespecial 3, 3) := by decide +kernel
theorem dX8_init_4 : decode cX8_init 4 = .ok (.aload_n 0, 1) := by decide +kernel
theorem dX8_init_5 : decode cX8_init 5 = .ok (.bipush 8, 2) := by decide +kernel
theorem dX8_init_7 : decode cX8_init 7 = .ok (.newarray .int, 2) := by decide +kernel
theorem dX8_init_9 : decode cX8_init 9 = .ok (.putfield 9, 3) := by decide +kernel
theorem dX8_init_12 : decode cX8_init 12 = .ok (.aload_n 0, 1) := by decide +kernel
theorem dX8_init_13 : decode cX8_init 13 = .ok (.iconst 3, 1) := by decide +kernel
theorem dX8_init_14 : decode cX8_init 14 = .ok (.newarray .int, 2) := by decide +kernel
theorem dX8_init_16 : decode cX8_init 16 = .ok (.putfield 15, 3) := by decide +kernel
theorem dX8_init_19 : decode cX8_init 19 = .ok (.aload_n 0, 1) := by decide +kernel
theorem dX8_init_20 : decode cX8_init 20 = .ok (.iconst 3, 1) := by decide +kernel
theorem dX8_init_21 : decode cX8_init 21 = .ok (.newarray .int, 2) := by decide +kernel
theorem dX8_init_23 : decode cX8_init 23 = .ok (.putfield 18, 3) := by decide +kernel
theorem dX8_init_26 : decode cX8_init 26 = .ok (.aload_n 0, 1) := by decide +kernel
theorem dX8_init_27 : decode cX8_init 27 = .ok (.iconst 5, 1) := by decide +kernel
theorem dX8_init_28 : decode cX8_init 28 = .ok (.newarray .int, 2) := by decide +kernel
theorem dX8_init_30 : decode cX8_init 30 = .ok (.putfield 21, 3) := by decide +kernel
theorem dX8_init_33 : decode cX8_init 33 = .ok (.aload_n 0, 1) := by decide +kernel
theorem dX8_init_34 : decode cX8_init 34 = .ok (.iconst 5, 1) := by decide +kernel
theorem dX8_init_35 : decode cX8_init 35 = .ok (.newarray .int, 2) := by decide +kernel
theorem dX8_init_37 : decode cX8_init 37 = .ok (.putfield 24, 3) := by decide +kernel
theorem dX8_init_40 : decode cX8_init 40 = .ok (.aload_n 0, 1) := by decide +kernel
theorem dX8_init_41 : decode cX8_init 41 = .ok (.bipush 6, 2) := by decide +kernel
theorem dX8_init_43 : decode cX8_init 43 = .ok (.newarray .int, 2) := by decide +kernel
theorem dX8_init_45 : decode cX8_init 45 = .ok (.putfield 27, 3) := by decide +kernel
theorem dX8_init_48 : decode cX8_init 48 = .ok (.aload_n 0, 1) := by decide +kernel
theorem dX8_init_49 : decode cX8_init 49 = .ok (.bipush 6, 2) := by decide +kernel
theorem dX8_init_51 : decode cX8_init 51 = .ok (.newarray .int, 2) := by decide +kernel
theorem dX8_init_53 : decode cX8_init 53 = .ok (.putfield 30, 3) := by decide +kernel
theorem dX8_init_56 : decode cX8_init 56 = .ok (.aload_n 0, 1) := by decide +kernel
theorem dX8_init_57 : decode cX8_init 57 = .ok (.new 33, 3) := by decide +kernel
theorem dX8_init_60 : decode cX8_init 60 = .ok (.dup, 1) := by decide +kernel
theorem dX8_init_61 : decode cX8_init 61 = .ok (.invokespecial 35, 3) := by decide +kernel
theorem dX8_init_64 : decode cX8_init 64 = .ok (.putfield 36, 3) := by decide +kernel
theorem dX8_init_67 : decode cX8_init 67 = .ok (.aload_n 0, 1) := by decide +kernel
theorem dX8_init_68 : decode cX8_init 68 = .ok (.iconst 0, 1) := by decide +kernel
theorem dX8_init_69 : decode cX8_init 69 = .ok (.putfield 40, 3) := by decide +kernel
theorem dX8_init_72 : decode cX8_init 72 = .ok (.aload_n 0, 1) := by decide +kernel
theorem dX8_init_73 : decode cX8_init 73 = .ok (.iconst 0, 1) := by decide +kernel
theorem dX8_init_74 : decode cX8_init 74 = .ok (.putfield 44, 3) := by decide +kernel
theorem dX8_init_77 : decode cX8_init 77 = .ok (.aload_n 0, 1) := by decide +kernel
theorem dX8_init_78 : decode cX8_init 78 = .ok (.iconst 0, 1) := by decide +kernel
theorem dX8_init_79 : decode cX8_init 79 = .ok (.putfield 47, 3) := by decide +kernel
theorem dX8_init_82 : decode cX8_init 82 = .ok (.aload_n 0, 1) := by decide +kernel
theorem dX8_init_83 : decode cX8_init 83 = .ok (.iconst 0, 1) := by decide +kernel
theorem dX8_init_84 : decode cX8_init 84 = .ok (.putfield 50, 3) := by decide +kernel
theorem dX8_init_87 : decode cX8_init 87 = .ok (.aload_n 0, 1) := by decide +kernel
theorem dX8_init_88 : decode cX8_init 88 = .ok (.iconst 0, 1) := by decide +kernel
theorem dX8_init_89 : decode cX8_init 89 = .ok (.putfield 53, 3) := by decide +kernel
theorem dX8_init_92 : decode cX8_init 92 = .ok (.return_, 1) := by decide +kernel
theorem dX8_become_0 : decode cX8_become 0 = .ok (.aload_n 1, 1) := by decide +kernel
theorem dX8_become_1 : decode cX8_become 1 = .ok (.getfield 9, 3) := by decide +kernel
theorem dX8_become_4 : decode cX8_become 4 = .ok (.iconst 0, 1) := by decide +kernel
theorem dX8_become_5 : decode cX8_become 5 = .ok (.aload_n 0, 1) := by decide +kernel
theorem dX8_become_6 : decode cX8_become 6 = .ok (.getfield 9, 3) := by decide +kernel
theorem dX8_become_9 : decode cX8_become 9 = .ok (.iconst 0, 1) := by decide +kernel
theorem dX8_become_10 : decode cX8_become 10 = .ok (.bipush 8, 2) := by decide +kernel
theorem dX8_become_12 : decode cX8_become 12 = .ok (.invokestatic 56, 3) := by decide +kernel
theorem dX8_become_15 : decode cX8_become 15 = .ok (.aload_n 1, 1) := by decide +kernel
theorem dX8_become_16 : decode cX8_become 16 = .ok (.getfield 15, 3) := by decide +kernel
theorem dX8_become_19 : decode cX8_become 19 = .ok (.iconst 0, 1) := by decide +kernel
theorem dX8_become_20 : decode cX8_become 20 = .ok (.aload_n 0, 1) := by decide +kernel
theorem dX8_become_21 : decode cX8_become 21 = .ok (.getfield 15, 3) := by decide +kernel
theorem dX8_become_24 : decode cX8_become 24 = .ok (.iconst 0, 1) := by decide +kernel
theorem dX8_become_25 : decode cX8_become 25 = .ok (.iconst 3, 1) := by decide +kernel
theorem dX8_become_26 : decode cX8_become 26 = .ok (.invokestatic 56, 3) := by decide +kernel
theorem dX8_become_29 : decode cX8_become 29 = .ok (.aload_n 1, 1) := by decide +kernel
theorem dX8_become_30 : decode cX8_become 30 = .ok (.getfield 18, 3) := by decide +kernel
theorem dX8_become_33 : decode cX8_become 33 = .ok (.iconst 0, 1) := by decide +kernel
theorem dX8_become_34 : decode cX8_become 34 = .ok (.aload_n 0, 1) := by decide +kernel
theorem dX8_become_35 : decode cX8_become 35 = .ok (.getfield 18, 3) := by decide +kernel
theorem dX8_become_38 : decode cX8_become 38 = .ok (.iconst 0, 1) := by decide +kernel
theorem dX8_become_39 : decode cX8_become 39 = .ok (.iconst 3, 1) := by decide +kernel
theorem dX8_become_40 : decode cX8_become 40 = .ok (.invokestatic 56, 3) := by decide +kernel
theorem dX8_become_43 : decode cX8_become 43 = .ok (.aload_n 1, 1) := by decide +kernel
theorem dX8_become_44 : decode cX8_become 44 = .ok (.getfield 21, 3) := by decide +kernel
theorem dX8_become_47 : decode cX8_become 47 = .ok (.iconst 0, 1) := by decide +kernel
theorem dX8_become_48 : decode cX8_become 48 = .ok (.aload_n 0, 1) := by decide +kernel
theorem dX8_become_49 : decode cX8_become 49 = .ok (.getfield 21, 3) := by decide +kernel
theorem dX8_become_52 : decode cX8_become 52 = .ok (.iconst 0, 1) := by decide +kernel
theorem dX8_become_53 : decode cX8_become 53 = .ok (.iconst 5, 1) := by decide +kernel
theorem dX8_become_54 : decode cX8_become 54 = .ok (.invokestatic 56, 3) := by decide +kernel
theorem dX8_become_57 : decode cX8_become 57 = .ok (.aload_n 1, 1) := by decide +kernel
theorem dX8_become_58 : decode cX8_become 58 = .ok (.getfield 24, 3) := by decide +kernel
theorem dX8_become_61 : decode cX8_become 61 = .ok (.iconst 0, 1) := by decide +kernel
theorem dX8_become_62 : decode cX8_become 62 = .ok (.aload_n 0, 1) := by decide +kernel
theorem dX8_become_63 : decode cX8_become 63 = .ok (.getfield 24, 3) := by decide +kernel
theorem dX8_become_66 : decode cX8_become 66 = .ok (.iconst 0, 1) := by decide +kernel
theorem dX8_become_67 : decode cX8_become 67 = .ok (.iconst 5, 1) := by decide +kernel
theorem dX8_become_68 : decode cX8_become 68 = .ok (.invokestatic 56, 3) := by decide +kernel
theorem dX8_become_71 : decode cX8_become 71 = .ok (.aload_n 1, 1) := by decide +kernel
theorem dX8_become_72 : decode cX8_become 72 = .ok (.getfield 27, 3) := by decide +kernel
theorem dX8_become_75 : decode cX8_become 75 = .ok (.iconst 0, 1) := by decide +kernel
theorem dX8_become_76 : decode cX8_become 76 = .ok (.aload_n 0, 1) := by decide +kernel
theorem dX8_become_77 : decode cX8_become 77 = .ok (.getfield 27, 3) := by decide +kernel
theorem dX8_become_80 : decode cX8_become 80 = .ok (.iconst 0, 1) := by decide +kernel
theorem dX8_become_81 : decode cX8_become 81 = .ok (.bipush 6, 2) := by decide +kernel
theorem dX8_become_83 : decode cX8_become 83 = .ok (.invokestatic 56, 3) := by decide +kernel
theorem dX8_become_86 : decode cX8_become 86 = .ok (.aload_n 1, 1) := by decide +kernel
theorem dX8_become_87 : decode cX8_become 87 = .ok (.getfield 30, 3) := by decide +kernel
theorem dX8_become_90 : decode cX8_become 90 = .ok (.iconst 0, 1) := by decide +kernel
theorem dX8_become_91 : decode cX8_become 91 = .ok (.aload_n 0, 1) := by decide +kernel
theorem dX8_become_92 : decode cX8_become 92 = .ok (.getfield 30, 3) := by decide +kernel
theorem dX8_become_95 : decode cX8_become 95 = .ok (.iconst 0, 1) := by decide +kernel
theorem dX8_become_96 : decode cX8_become 96 = .ok (.bipush 6, 2) := by decide +kernel
theorem dX8_become_98 : decode cX8_become 98 = .ok (.invokestatic 56, 3) := by decide +kernel
theorem dX8_become_101 : decode cX8_become 101 = .ok (.aload_n 0, 1) := by decide +kernel
theorem dX8_become_102 : decode cX8_become 102 = .ok (.getfield 36, 3) := by decide +kernel
theorem dX8_become_105 : decode cX8_become 105 = .ok (.aload_n 1, 1) := by decide +kernel
theorem dX8_become_106 : decode cX8_become 106 = .ok (.getfield 36, 3) := by decide +kernel
theorem dX8_become_109 : decode cX8_become 109 = .ok (.invokevirtual 62, 3) := by decide +kernel
theorem dX8_become_112 : decode cX8_become 112 = .ok (.aload_n 0, 1) := by decide +kernel
theorem dX8_become_113 : decode cX8_become 113 = .ok (.aload_n 1, 1) := by decide +kernel
theorem dX8_become_114 : decode cX8_become 114 = .ok (.getfield 40, 3) := by decide +kernel
theorem dX8_become_117 : decode cX8_become 117 = .ok (.putfield 40, 3) := by decide +kernel
theorem dX8_become_120 : decode cX8_become 120 = .ok (.aload_n 0, 1) := by decide +kernel
theorem dX8_become_121 : decode cX8_become 121 = .ok (.aload_n 1, 1) := by decide +kernel
theorem dX8_become_122 : decode cX8_become 122 = .ok (.getfield 44, 3) := by decide +kernel
theorem dX8_become_125 : decode cX8_become 125 = .ok (.putfield 44, 3) := by decide +kernel
theorem dX8_become_128 : decode cX8_become 128 = .ok (.aload_n 0, 1) := by decide +kernel
theorem dX8_become_129 : decode cX8_become 129 = .ok (.aload_n 1, 1) := by decide +kernel
theorem dX8_become_130 : decode cX8_become 130 = .ok (.getfield 47, 3) := by decide +kernel
theorem dX8_become_133 : decode cX8_become 133 = .ok (.putfield 47, 3) := by decide +kernel
theorem dX8_become_136 : decode cX8_become 136 = .ok (.aload_n 0, 1) := by decide +kernel
theorem dX8_become_137 : decode cX8_become 137 = .ok (.aload_n 1, 1) := by decide +kernel
theorem dX8_become_138 : decode cX8_become 138 = .ok (.getfield 50, 3) := by decide +kernel
theorem dX8_become_141 : decode cX8_become 141 = .ok (.putfield 50, 3) := by decide +kernel
theorem dX8_become_144 : decode cX8_become 144 = .ok (.aload_n 0, 1) := by decide +kernel
theorem dX8_become_145 : decode cX8_become 145 = .ok (.aload_n 1, 1) := by decide +kernel
theorem dX8_become_146 : decode cX8_become 146 = .ok (.getfield 53, 3) := by decide +kernel
theorem dX8_become_149 : decode cX8_become 149 = .ok (.putfield 53, 3) := by decide +kernel
theorem dX8_become_152 : decode cX8_become 152 = .ok (.return_, 1) := by decide +kernel
theorem dX8_isThere_0 : decode cX8_isThere 0 = .ok (.aload_n 0, 1) := by decide +kernel
theorem dX8_isThere_1 : decode cX8_isThere 1 = .ok (.getfield 47, 3) := by decide +kernel
theorem dX8_isThere_4 : decode cX8_isThere 4 = .ok (.ifCond .le 7, 3) := by decide +kernel
theorem dX8_isThere_7 : decode cX8_isThere 7 = .ok (.iconst 1, 1) := by decide +kernel
theorem dX8_isThere_8 : decode cX8_isThere 8 = .ok (.goto 4, 3) := by decide +kernel
theorem dX8_isThere_11 : decode cX8_isThere 11 = .ok (.iconst 0, 1) := by decide +kernel
theorem dX8_isThere_12 : decode cX8_isThere 12 = .ok (.ireturn, 1) := by decide +kernel
theorem dX8_hasSand_0 : decode cX8_hasSand 0 = .ok (.iload_n 1, 1) := by decide +kernel
theorem dX8_hasSand_1 : decode cX8_hasSand 1 = .ok (.ifCond .lt 15, 3) := by decide +kernel
theorem dX8_hasSand_4 : decode cX8_hasSand 4 = .ok (.iload_n 1, 1) := by decide +kernel
theorem dX8_hasSand_5 : decode cX8_hasSand 5 = .ok (.aload_n 0, 1) := by decide +kernel
theorem dX8_hasSand_6 : decode cX8_hasSand 6 = .ok (.getfield 40, 3) := by decide +kernel
theorem dX8_hasSand_9 : decode cX8_hasSand 9 = .ok (.if_icmp .ge 7, 3) := by decide +kernel
theorem dX8_hasSand_12 : decode cX8_hasSand 12 = .ok (.iconst 1, 1) := by decide +kernel
theorem dX8_hasSand_13 : decode cX8_hasSand 13 = .ok (.goto 4, 3) := by decide +kernel
theorem dX8_hasSand_16 : decode cX8_hasSand 16 = .ok (.iconst 0, 1) := by decide +kernel
theorem dX8_hasSand_17 : decode cX8_hasSand 17 = .ok (.ireturn, 1) := by decide +kernel
theorem dX8_hasBoat_0 : decode cX8_hasBoat 0 = .ok (.iload_n 1, 1) := by decide +kernel
theorem dX8_hasBoat_1 : decode cX8_hasBoat 1 = .ok (.ifCond .lt 15, 3) := by decide +kernel
theorem dX8_hasBoat_4 : decode cX8_hasBoat 4 = .ok (.iload_n 1, 1) := by decide +kernel
theorem dX8_hasBoat_5 : decode cX8_hasBoat 5 = .ok (.aload_n 0, 1) := by decide +kernel
theorem dX8_hasBoat_6 : decode cX8_hasBoat 6 = .ok (.getfield 44, 3) := by decide +kernel
theorem dX8_hasBoat_9 : decode cX8_hasBoat 9 = .ok (.if_icmp .ge 7, 3) := by decide +kernel
theorem dX8_hasBoat_12 : decode cX8_hasBoat 12 = .ok (.iconst 1, 1) := by decide +kernel
theorem dX8_hasBoat_13 : decode cX8_hasBoat 13 = .ok (.goto 4, 3) := by decide +kernel
theorem dX8_hasBoat_16 : decode cX8_hasBoat 16 = .ok (.iconst 0, 1) := by decide +kernel
theorem dX8_hasBoat_17 : decode cX8_hasBoat 17 = .ok (.ireturn, 1) := by decide +kernel
theorem dX8_hasAsker_0 : decode cX8_hasAsker 0 = .ok (.iload_n 1, 1) := by decide +kernel
theorem dX8_hasAsker_1 : decode cX8_hasAsker 1 = .ok (.ifCond .lt 15, 3) := by decide +kernel
theorem dX8_hasAsker_4 : decode cX8_hasAsker 4 = .ok (.iload_n 1, 1) := by decide +kernel
theorem dX8_hasAsker_5 : decode cX8_hasAsker 5 = .ok (.aload_n 0, 1) := by decide +kernel
theorem dX8_hasAsker_6 : decode cX8_hasAsker 6 = .ok (.getfield 47, 3) := by decide +kernel
theorem dX8_hasAsker_9 : decode cX8_hasAsker 9 = .ok (.if_icmp .ge 7, 3) := by decide +kernel
theorem dX8_hasAsker_12 : decode cX8_hasAsker 12 = .ok (.iconst 1, 1) := by decide +kernel
theorem dX8_hasAsker_13 : decode cX8_hasAsker 13 = .ok (.goto 4, 3) := by decide +kernel
theorem dX8_hasAsker_16 : decode cX8_hasAsker 16 = .ok (.iconst 0, 1) := by decide +kernel
theorem dX8_hasAsker_17 : decode cX8_hasAsker 17 = .ok (.ireturn, 1) := by decide +kernel
theorem dX8_letAsk_0 : decode cX8_letAsk 0 = .ok (.aload_n 0, 1) := by decide +kernel
theorem dX8_letAsk_1 : decode cX8_letAsk 1 = .ok (.iload_n 1, 1) := by decide +kernel
theorem dX8_letAsk_2 : decode cX8_letAsk 2 = .ok (.invokevirtual 66, 3) := by decide +kernel
theorem dX8_letAsk_5 : decode cX8_letAsk 5 = .ok (.ifCond .eq 19, 3) := by decide +kernel
theorem dX8_letAsk_8 : decode cX8_letAsk 8 = .ok (.aload_n 2, 1) := by decide +kernel
theorem dX8_letAsk_9 : decode cX8_letAsk 9 = .ok (.aload_n 0, 1) := by decide +kernel
theorem dX8_letAsk_10 : decode cX8_letAsk 10 = .ok (.getfield 21, 3) := by decide +kernel
theorem dX8_letAsk_13 : decode cX8_letAsk 13 = .ok (.iload_n 1, 1) := by decide +kernel
theorem dX8_letAsk_14 : decode cX8_letAsk 14 = .ok (.iaload, 1) := by decide +kernel
theorem dX8_letAsk_15 : decode cX8_letAsk 15 = .ok (.aload_n 0, 1) := by decide +kernel
theorem dX8_letAsk_16 : decode cX8_letAsk 16 = .ok (.getfield 24, 3) := by decide +kernel
theorem dX8_letAsk_19 : decode cX8_letAsk 19 = .ok (.iload_n 1, 1) := by decide +kernel
theorem dX8_letAsk_20 : decode cX8_letAsk 20 = .ok (.iaload, 1) := by decide +kernel
theorem dX8_letAsk_21 : decode cX8_letAsk 21 = .ok (.invokevirtual 70, 3) := by decide +kernel
theorem dX8_letAsk_24 : decode cX8_letAsk 24 = .ok (.return_, 1) := by decide +kernel
theorem dX8_reaches_0 : decode cX8_reaches 0 = .ok (.iconst 0, 1) := by decide +kernel
theorem dX8_reaches_1 : decode cX8_reaches 1 = .ok (.istore_n 3, 1) := by decide +kernel
theorem dX8_reaches_2 : decode cX8_reaches 2 = .ok (.iload_n 3, 1) := by decide +kernel
theorem dX8_reaches_3 : decode cX8_reaches 3 = .ok (.iload_n 1, 1) := by decide +kernel
theorem dX8_reaches_4 : decode cX8_reaches 4 = .ok (.if_icmp .gt 29, 3) := by decide +kernel
theorem dX8_reaches_7 : decode cX8_reaches 7 = .ok (.iload_n 3, 1) := by decide +kernel
theorem dX8_reaches_8 : decode cX8_reaches 8 = .ok (.aload_n 0, 1) := by decide +kernel
theorem dX8_reaches_9 : decode cX8_reaches 9 = .ok (.getfield 40, 3) := by decide +kernel
theorem dX8_reaches_12 : decode cX8_reaches 12 = .ok (.if_icmp .ge 21, 3) := by decide +kernel
theorem dX8_reaches_15 : decode cX8_reaches 15 = .ok (.aload_n 0, 1) := by decide +kernel
theorem dX8_reaches_16 : decode cX8_reaches 16 = .ok (.getfield 9, 3) := by decide +kernel
theorem dX8_reaches_19 : decode cX8_reaches 19 = .ok (.iload_n 3, 1) := by decide +kernel
theorem dX8_reaches_20 : decode cX8_reaches 20 = .ok (.iaload, 1) := by decide +kernel
theorem dX8_reaches_21 : decode cX8_reaches 21 = .ok (.iload_n 2, 1) := by decide +kernel
theorem dX8_reaches_22 : decode cX8_reaches 22 = .ok (.if_icmp .lt 5, 3) := by decide +kernel
theorem dX8_reaches_25 : decode cX8_reaches 25 = .ok (.iconst 0, 1) := by decide +kernel
theorem dX8_reaches_26 : decode cX8_reaches 26 = .ok (.ireturn, 1) := by decide +kernel
theorem dX8_reaches_27 : decode cX8_reaches 27 = .ok (.iinc 3 1, 3) := by decide +kernel
theorem dX8_reaches_30 : decode cX8_reaches 30 = .ok (.goto (-28), 3) := by decide +kernel
theorem dX8_reaches_33 : decode cX8_reaches 33 = .ok (.iconst 1, 1) := by decide +kernel
theorem dX8_reaches_34 : decode cX8_reaches 34 = .ok (.ireturn, 1) := by decide +kernel
theorem dX8_leastTide_0 : decode cX8_leastTide 0 = .ok (.iconst 0, 1) := by decide +kernel
theorem dX8_leastTide_1 : decode cX8_leastTide 1 = .ok (.istore_n 2, 1) := by decide +kernel
theorem dX8_leastTide_2 : decode cX8_leastTide 2 = .ok (.iconst 0, 1) := by decide +kernel
theorem dX8_leastTide_3 : decode cX8_leastTide 3 = .ok (.istore_n 3, 1) := by decide +kernel
theorem dX8_leastTide_4 : decode cX8_leastTide 4 = .ok (.iconst 0, 1) := by decide +kernel
theorem dX8_leastTide_5 : decode cX8_leastTide 5 = .ok (.istore 4, 2) := by decide +kernel
theorem dX8_leastTide_7 : decode cX8_leastTide 7 = .ok (.iload 4, 2) := by decide +kernel
theorem dX8_leastTide_9 : decode cX8_leastTide 9 = .ok (.aload_n 0, 1) := by decide +kernel
theorem dX8_leastTide_10 : decode cX8_leastTide 10 = .ok (.getfield 15, 3) := by decide +kernel
theorem dX8_leastTide_13 : decode cX8_leastTide 13 = .ok (.iload_n 1, 1) := by decide +kernel
theorem dX8_leastTide_14 : decode cX8_leastTide 14 = .ok (.iaload, 1) := by decide +kernel
theorem dX8_leastTide_15 : decode cX8_leastTide 15 = .ok (.if_icmp .gt 32, 3) := by decide +kernel
theorem dX8_leastTide_18 : decode cX8_leastTide 18 = .ok (.iload 4, 2) := by decide +kernel
theorem dX8_leastTide_20 : decode cX8_leastTide 20 = .ok (.aload_n 0, 1) := by decide +kernel
theorem dX8_leastTide_21 : decode cX8_leastTide 21 = .ok (.getfield 40, 3) := by decide +kernel
theorem dX8_leastTide_24 : decode cX8_leastTide 24 = .ok (.if_icmp .ge 23, 3) := by decide +kernel
theorem dX8_leastTide_27 : decode cX8_leastTide 27 = .ok (.aload_n 0, 1) := by decide +kernel
theorem dX8_leastTide_28 : decode cX8_leastTide 28 = .ok (.getfield 9, 3) := by decide +kernel
theorem dX8_leastTide_31 : decode cX8_leastTide 31 = .ok (.iload 4, 2) := by decide +kernel
theorem dX8_leastTide_33 : decode cX8_leastTide 33 = .ok (.iaload, 1) := by decide +kernel
theorem dX8_leastTide_34 : decode cX8_leastTide 34 = .ok (.istore_n 3, 1) := by decide +kernel
theorem dX8_leastTide_35 : decode cX8_leastTide 35 = .ok (.iload_n 2, 1) := by decide +kernel
theorem dX8_leastTide_36 : decode cX8_leastTide 36 = .ok (.iload_n 3, 1) := by decide +kernel
theorem dX8_leastTide_37 : decode cX8_leastTide 37 = .ok (.invokestatic 74, 3) := by decide +kernel
theorem dX8_leastTide_40 : decode cX8_leastTide 40 = .ok (.istore_n 2, 1) := by decide +kernel
theorem dX8_leastTide_41 : decode cX8_leastTide 41 = .ok (.iinc 4 1, 3) := by decide +kernel
theorem dX8_leastTide_44 : decode cX8_leastTide 44 = .ok (.goto (-37), 3) := by decide +kernel
theorem dX8_leastTide_47 : decode cX8_leastTide 47 = .ok (.iload_n 2, 1) := by decide +kernel
theorem dX8_leastTide_48 : decode cX8_leastTide 48 = .ok (.iconst 1, 1) := by decide +kernel
theorem dX8_leastTide_49 : decode cX8_leastTide 49 = .ok (.iadd, 1) := by decide +kernel
theorem dX8_leastTide_50 : decode cX8_leastTide 50 = .ok (.iload_n 3, 1) := by decide +kernel
theorem dX8_leastTide_51 : decode cX8_leastTide 51 = .ok (.aload_n 0, 1) := by decide +kernel
theorem dX8_leastTide_52 : decode cX8_leastTide 52 = .ok (.getfield 18, 3) := by decide +kernel
theorem dX8_leastTide_55 : decode cX8_leastTide 55 = .ok (.iload_n 1, 1) := by decide +kernel
theorem dX8_leastTide_56 : decode cX8_leastTide 56 = .ok (.iaload, 1) := by decide +kernel
theorem dX8_leastTide_57 : decode cX8_leastTide 57 = .ok (.iadd, 1) := by decide +kernel
theorem dX8_leastTide_58 : decode cX8_leastTide 58 = .ok (.invokestatic 74, 3) := by decide +kernel
theorem dX8_leastTide_61 : decode cX8_leastTide 61 = .ok (.ireturn, 1) := by decide +kernel
theorem dX8_boatsOn_0 : decode cX8_boatsOn 0 = .ok (.iconst 0, 1) := by decide +kernel
theorem dX8_boatsOn_1 : decode cX8_boatsOn 1 = .ok (.istore_n 2, 1) := by decide +kernel
theorem dX8_boatsOn_2 : decode cX8_boatsOn 2 = .ok (.iconst 0, 1) := by decide +kernel
theorem dX8_boatsOn_3 : decode cX8_boatsOn 3 = .ok (.istore_n 3, 1) := by decide +kernel
theorem dX8_boatsOn_4 : decode cX8_boatsOn 4 = .ok (.iload_n 3, 1) := by decide +kernel
theorem dX8_boatsOn_5 : decode cX8_boatsOn 5 = .ok (.aload_n 0, 1) := by decide +kernel
theorem dX8_boatsOn_6 : decode cX8_boatsOn 6 = .ok (.getfield 44, 3) := by decide +kernel
theorem dX8_boatsOn_9 : decode cX8_boatsOn 9 = .ok (.if_icmp .ge 25, 3) := by decide +kernel
theorem dX8_boatsOn_12 : decode cX8_boatsOn 12 = .ok (.aload_n 0, 1) := by decide +kernel
theorem dX8_boatsOn_13 : decode cX8_boatsOn 13 = .ok (.getfield 15, 3) := by decide +kernel
theorem dX8_boatsOn_16 : decode cX8_boatsOn 16 = .ok (.iload_n 3, 1) := by decide +kernel
theorem dX8_boatsOn_17 : decode cX8_boatsOn 17 = .ok (.iaload, 1) := by decide +kernel
theorem dX8_boatsOn_18 : decode cX8_boatsOn 18 = .ok (.iload_n 1, 1) := by decide +kernel
theorem dX8_boatsOn_19 : decode cX8_boatsOn 19 = .ok (.if_icmp .ne 9, 3) := by decide +kernel
theorem dX8_boatsOn_22 : decode cX8_boatsOn 22 = .ok (.iload_n 2, 1) := by decide +kernel
theorem dX8_boatsOn_23 : decode cX8_boatsOn 23 = .ok (.iconst 1, 1) := by decide +kernel
theorem dX8_boatsOn_24 : decode cX8_boatsOn 24 = .ok (.iload_n 3, 1) := by decide +kernel
theorem dX8_boatsOn_25 : decode cX8_boatsOn 25 = .ok (.ishl, 1) := by decide +kernel
theorem dX8_boatsOn_26 : decode cX8_boatsOn 26 = .ok (.ior, 1) := by decide +kernel
theorem dX8_boatsOn_27 : decode cX8_boatsOn 27 = .ok (.istore_n 2, 1) := by decide +kernel
theorem dX8_boatsOn_28 : decode cX8_boatsOn 28 = .ok (.iinc 3 1, 3) := by decide +kernel
theorem dX8_boatsOn_31 : decode cX8_boatsOn 31 = .ok (.goto (-27), 3) := by decide +kernel
theorem dX8_boatsOn_34 : decode cX8_boatsOn 34 = .ok (.iload_n 2, 1) := by decide +kernel
theorem dX8_boatsOn_35 : decode cX8_boatsOn 35 = .ok (.ireturn, 1) := by decide +kernel
theorem dX8_boatsAfloat_0 : decode cX8_boatsAfloat 0 = .ok (.iconst 0, 1) := by decide +kernel
theorem dX8_boatsAfloat_1 : decode cX8_boatsAfloat 1 = .ok (.istore_n 2, 1) := by decide +kernel
theorem dX8_boatsAfloat_2 : decode cX8_boatsAfloat 2 = .ok (.iconst 0, 1) := by decide +kernel
theorem dX8_boatsAfloat_3 : decode cX8_boatsAfloat 3 = .ok (.istore_n 3, 1) := by decide +kernel
theorem dX8_boatsAfloat_4 : decode cX8_boatsAfloat 4 = .ok (.iload_n 3, 1) := by decide +kernel
theorem dX8_boatsAfloat_5 : decode cX8_boatsAfloat 5 = .ok (.aload_n 0, 1) := by decide +kernel
theorem dX8_boatsAfloat_6 : decode cX8_boatsAfloat 6 = .ok (.getfield 44, 3) := by decide +kernel
theorem dX8_boatsAfloat_9 : decode cX8_boatsAfloat 9 = .ok (.if_icmp .ge 21, 3) := by decide +kernel
theorem dX8_boatsAfloat_12 : decode cX8_boatsAfloat 12 = .ok (.iload_n 1, 1) := by decide +kernel
theorem dX8_boatsAfloat_13 : decode cX8_boatsAfloat 13 = .ok (.aload_n 0, 1) := by decide +kernel
theorem dX8_boatsAfloat_14 : decode cX8_boatsAfloat 14 = .ok (.iload_n 3, 1) := by decide +kernel
theorem dX8_boatsAfloat_15 : decode cX8_boatsAfloat 15 = .ok (.invokevirtual 80, 3) := by decide +kernel
theorem dX8_boatsAfloat_18 : decode cX8_boatsAfloat 18 = .ok (.if_icmp .lt 6, 3) := by decide +kernel
theorem dX8_boatsAfloat_21 : decode cX8_boatsAfloat 21 = .ok (.iinc 2 1, 3) := by decide +kernel
theorem dX8_boatsAfloat_24 : decode cX8_boatsAfloat 24 = .ok (.iinc 3 1, 3) := by decide +kernel
theorem dX8_boatsAfloat_27 : decode cX8_boatsAfloat 27 = .ok (.goto (-23), 3) := by decide +kernel
theorem dX8_boatsAfloat_30 : decode cX8_boatsAfloat 30 = .ok (.iload_n 2, 1) := by decide +kernel
theorem dX8_boatsAfloat_31 : decode cX8_boatsAfloat 31 = .ok (.ireturn, 1) := by decide +kernel
theorem dX8_sandsReached_0 : decode cX8_sandsReached 0 = .ok (.iconst 0, 1) := by decide +kernel
theorem dX8_sandsReached_1 : decode cX8_sandsReached 1 = .ok (.istore_n 2, 1) := by decide +kernel
theorem dX8_sandsReached_2 : decode cX8_sandsReached 2 = .ok (.iconst 0, 1) := by decide +kernel
theorem dX8_sandsReached_3 : decode cX8_sandsReached 3 = .ok (.istore_n 3, 1) := by decide +kernel
theorem dX8_sandsReached_4 : decode cX8_sandsReached 4 = .ok (.iload_n 3, 1) := by decide +kernel
theorem dX8_sandsReached_5 : decode cX8_sandsReached 5 = .ok (.aload_n 0, 1) := by decide +kernel
theorem dX8_sandsReached_6 : decode cX8_sandsReached 6 = .ok (.getfield 40, 3) := by decide +kernel
theorem dX8_sandsReached_9 : decode cX8_sandsReached 9 = .ok (.if_icmp .ge 21, 3) := by decide +kernel
theorem dX8_sandsReached_12 : decode cX8_sandsReached 12 = .ok (.aload_n 0, 1) := by decide +kernel
theorem dX8_sandsReached_13 : decode cX8_sandsReached 13 = .ok (.iload_n 3, 1) := by decide +kernel
theorem dX8_sandsReached_14 : decode cX8_sandsReached 14 = .ok (.iload_n 1, 1) := by decide +kernel
theorem dX8_sandsReached_15 : decode cX8_sandsReached 15 = .ok (.invokevirtual 84, 3) := by decide +kernel
theorem dX8_sandsReached_18 : decode cX8_sandsReached 18 = .ok (.ifCond .eq 6, 3) := by decide +kernel
theorem dX8_sandsReached_21 : decode cX8_sandsReached 21 = .ok (.iinc 2 1, 3) := by decide +kernel
theorem dX8_sandsReached_24 : decode cX8_sandsReached 24 = .ok (.iinc 3 1, 3) := by decide +kernel
theorem dX8_sandsReached_27 : decode cX8_sandsReached 27 = .ok (.goto (-23), 3) := by decide +kernel
theorem dX8_sandsReached_30 : decode cX8_sandsReached 30 = .ok (.iload_n 2, 1) := by decide +kernel
theorem dX8_sandsReached_31 : decode cX8_sandsReached 31 = .ok (.ireturn, 1) := by decide +kernel
theorem dX8_keepSeen_0 : decode cX8_keepSeen 0 = .ok (.aload_n 0, 1) := by decide +kernel
theorem dX8_keepSeen_1 : decode cX8_keepSeen 1 = .ok (.getfield 53, 3) := by decide +kernel
theorem dX8_keepSeen_4 : decode cX8_keepSeen 4 = .ok (.ifCond .lt 12, 3) := by decide +kernel
theorem dX8_keepSeen_7 : decode cX8_keepSeen 7 = .ok (.aload_n 0, 1) := by decide +kernel
theorem dX8_keepSeen_8 : decode cX8_keepSeen 8 = .ok (.getfield 53, 3) := by decide +kernel
theorem dX8_keepSeen_11 : decode cX8_keepSeen 11 = .ok (.bipush 6, 2) := by decide +kernel
theorem dX8_keepSeen_13 : decode cX8_keepSeen 13 = .ok (.if_icmp .lt 5, 3) := by decide +kernel
theorem dX8_keepSeen_16 : decode cX8_keepSeen 16 = .ok (.iconst 0, 1) := by decide +kernel
theorem dX8_keepSeen_17 : decode cX8_keepSeen 17 = .ok (.ireturn, 1) := by decide +kernel
theorem dX8_keepSeen_18 : decode cX8_keepSeen 18 = .ok (.aload_n 0, 1) := by decide +kernel
theorem dX8_keepSeen_19 : decode cX8_keepSeen 19 = .ok (.getfield 27, 3) := by decide +kernel
theorem dX8_keepSeen_22 : decode cX8_keepSeen 22 = .ok (.aload_n 0, 1) := by decide +kernel
theorem dX8_keepSeen_23 : decode cX8_keepSeen 23 = .ok (.getfield 53, 3) := by decide +kernel
theorem dX8_keepSeen_26 : decode cX8_keepSeen 26 = .ok (.iload_n 1, 1) := by decide +kernel
theorem dX8_keepSeen_27 : decode cX8_keepSeen 27 = .ok (.iastore, 1) := by decide +kernel
theorem dX8_keepSeen_28 : decode cX8_keepSeen 28 = .ok (.aload_n 0, 1) := by decide +kernel
theorem dX8_keepSeen_29 : decode cX8_keepSeen 29 = .ok (.getfield 30, 3) := by decide +kernel
theorem dX8_keepSeen_32 : decode cX8_keepSeen 32 = .ok (.aload_n 0, 1) := by decide +kernel
theorem dX8_keepSeen_33 : decode cX8_keepSeen 33 = .ok (.getfield 53, 3) := by decide +kernel
theorem dX8_keepSeen_36 : decode cX8_keepSeen 36 = .ok (.iload_n 2, 1) := by decide +kernel
theorem dX8_keepSeen_37 : decode cX8_keepSeen 37 = .ok (.iastore, 1) := by decide +kernel
theorem dX8_keepSeen_38 : decode cX8_keepSeen 38 = .ok (.aload_n 0, 1) := by decide +kernel
theorem dX8_keepSeen_39 : decode cX8_keepSeen 39 = .ok (.dup, 1) := by decide +kernel
theorem dX8_keepSeen_40 : decode cX8_keepSeen 40 = .ok (.getfield 53, 3) := by decide +kernel
theorem dX8_keepSeen_43 : decode cX8_keepSeen 43 = .ok (.iconst 1, 1) := by decide +kernel
theorem dX8_keepSeen_44 : decode cX8_keepSeen 44 = .ok (.iadd, 1) := by decide +kernel
theorem dX8_keepSeen_45 : decode cX8_keepSeen 45 = .ok (.putfield 53, 3) := by decide +kernel
theorem dX8_keepSeen_48 : decode cX8_keepSeen 48 = .ok (.iconst 1, 1) := by decide +kernel
theorem dX8_keepSeen_49 : decode cX8_keepSeen 49 = .ok (.ireturn, 1) := by decide +kernel
theorem dX8_agreesWithSeen_0 : decode cX8_agreesWithSeen 0 = .ok (.iconst 0, 1) := by decide +kernel
theorem dX8_agreesWithSeen_1 : decode cX8_agreesWithSeen 1 = .ok (.istore_n 3, 1) := by decide +kernel
theorem dX8_agreesWithSeen_2 : decode cX8_agreesWithSeen 2 = .ok (.iload_n 3, 1) := by decide +kernel
theorem dX8_agreesWithSeen_3 : decode cX8_agreesWithSeen 3 = .ok (.aload_n 0, 1) := by decide +kernel
theorem dX8_agreesWithSeen_4 : decode cX8_agreesWithSeen 4 = .ok (.getfield 53, 3) := by decide +kernel
theorem dX8_agreesWithSeen_7 : decode cX8_agreesWithSeen 7 = .ok (.if_icmp .ge 31, 3) := by decide +kernel
theorem dX8_agreesWithSeen_10 : decode cX8_agreesWithSeen 10 = .ok (.aload_n 0, 1) := by decide +kernel
theorem dX8_agreesWithSeen_11 : decode cX8_agreesWithSeen 11 = .ok (.getfield 27, 3) := by decide +kernel
theorem dX8_agreesWithSeen_14 : decode cX8_agreesWithSeen 14 = .ok (.iload_n 3, 1) := by decide +kernel
theorem dX8_agreesWithSeen_15 : decode cX8_agreesWithSeen 15 = .ok (.iaload, 1) := by decide +kernel
theorem dX8_agreesWithSeen_16 : decode cX8_agreesWithSeen 16 = .ok (.iload_n 1, 1) := by decide +kernel
theorem dX8_agreesWithSeen_17 : decode cX8_agreesWithSeen 17 = .ok (.if_icmp .ne 15, 3) := by decide +kernel
theorem dX8_agreesWithSeen_20 : decode cX8_agreesWithSeen 20 = .ok (.aload_n 0, 1) := by decide +kernel
theorem dX8_agreesWithSeen_21 : decode cX8_agreesWithSeen 21 = .ok (.getfield 30, 3) := by decide +kernel
theorem dX8_agreesWithSeen_24 : decode cX8_agreesWithSeen 24 = .ok (.iload_n 3, 1) := by decide +kernel
theorem dX8_agreesWithSeen_25 : decode cX8_agreesWithSeen 25 = .ok (.iaload, 1) := by decide +kernel
theorem dX8_agreesWithSeen_26 : decode cX8_agreesWithSeen 26 = .ok (.iload_n 2, 1) := by decide +kernel
theorem dX8_agreesWithSeen_27 : decode cX8_agreesWithSeen 27 = .ok (.if_icmp .eq 5, 3) := by decide +kernel
theorem dX8_agreesWithSeen_30 : decode cX8_agreesWithSeen 30 = .ok (.iconst 0, 1) := by decide +kernel
theorem dX8_agreesWithSeen_31 : decode cX8_agreesWithSeen 31 = .ok (.ireturn, 1) := by decide +kernel
theorem dX8_agreesWithSeen_32 : decode cX8_agreesWithSeen 32 = .ok (.iinc 3 1, 3) := by decide +kernel
theorem dX8_agreesWithSeen_35 : decode cX8_agreesWithSeen 35 = .ok (.goto (-33), 3) := by decide +kernel
theorem dX8_agreesWithSeen_38 : decode cX8_agreesWithSeen 38 = .ok (.iconst 1, 1) := by decide +kernel
theorem dX8_agreesWithSeen_39 : decode cX8_agreesWithSeen 39 = .ok (.ireturn, 1) := by decide +kernel
theorem dX9_init_0 : decode cX9_init 0 = .ok (.aload_n 0, 1) := by decide +kernel
theorem dX9_init_1 : decode cX9_init 1 = .ok (.invokespecial 1, 3) := by decide +kernel
theorem dX9_init_4 : decode cX9_init 4 = .ok (.aload_n 0, 1) := by decide +kernel
theorem dX9_init_5 : decode cX9_init 5 = .ok (.new 7, 3) := by decide +kernel
theorem dX9_init_8 : decode cX9_init 8 = .ok (.dup, 1) := by decide +kernel
theorem dX9_init_9 : decode cX9_init 9 = .ok (.invokespecial 9, 3) := by decide +kernel
theorem dX9_init_12 : decode cX9_init 12 = .ok (.putfield 10, 3) := by decide +kernel
theorem dX9_init_15 : decode cX9_init 15 = .ok (.aload_n 0, 1) := by decide +kernel
theorem dX9_init_16 : decode cX9_init 16 = .ok (.new 16, 3) := by decide +kernel
theorem dX9_init_19 : decode cX9_init 19 = .ok (.dup, 1) := by decide +kernel
theorem dX9_init_20 : decode cX9_init 20 = .ok (.invokespecial 18, 3) := by decide +kernel
theorem dX9_init_23 : decode cX9_init 23 = .ok (.putfield 19, 3) := by decide +kernel
theorem dX9_init_26 : decode cX9_init 26 = .ok (.aload_n 0, 1) := by decide +kernel
theorem dX9_init_27 : decode cX9_init 27 = .ok (.new 23, 3) := by decide +kernel
theorem dX9_init_30 : decode cX9_init 30 = .ok (.dup, 1) := by decide +kernel
theorem dX9_init_31 : decode cX9_init 31 = .ok (.invokespecial 25, 3) := by decide +kernel
theorem dX9_init_34 : decode cX9_init 34 = .ok (.putfield 26, 3) := by decide +kernel
theorem dX9_init_37 : decode cX9_init 37 = .ok (.aload_n 0, 1) := by decide +kernel
theorem dX9_init_38 : decode cX9_init 38 = .ok (.new 23, 3) := by decide +kernel
theorem dX9_init_41 : decode cX9_init 41 = .ok (.dup, 1) := by decide +kernel
theorem dX9_init_42 : decode cX9_init 42 = .ok (.invokespecial 25, 3) := by decide +kernel
theorem dX9_init_45 : decode cX9_init 45 = .ok (.putfield 30, 3) := by decide +kernel
theorem dX9_init_48 : decode cX9_init 48 = .ok (.aload_n 0, 1) := by decide +kernel
theorem dX9_init_49 : decode cX9_init 49 = .ok (.new 33, 3) := by decide +kernel
theorem dX9_init_52 : decode cX9_init 52 = .ok (.dup, 1) := by decide +kernel
theorem dX9_init_53 : decode cX9_init 53 = .ok (.invokespecial 35, 3) := by decide +kernel
theorem dX9_init_56 : decode cX9_init 56 = .ok (.putfield 36, 3) := by decide +kernel
theorem dX9_init_59 : decode cX9_init 59 = .ok (.aload_n 0, 1) := by decide +kernel
theorem dX9_init_60 : decode cX9_init 60 = .ok (.new 40, 3) := by decide +kernel
theorem dX9_init_63 : decode cX9_init 63 = .ok (.dup, 1) := by decide +kernel
theorem dX9_init_64 : decode cX9_init 64 = .ok (.invokespecial 42, 3) := by decide +kernel
theorem dX9_init_67 : decode cX9_init 67 = .ok (.putfield 43, 3) := by decide +kernel
theorem dX9_init_70 : decode cX9_init 70 = .ok (.aload_n 0, 1) := by decide +kernel
theorem dX9_init_71 : decode cX9_init 71 = .ok (.new 47, 3) := by decide +kernel
theorem dX9_init_74 : decode cX9_init 74 = .ok (.dup, 1) := by decide +kernel
theorem dX9_init_75 : decode cX9_init 75 = .ok (.invokespecial 49, 3) := by decide +kernel
theorem dX9_init_78 : decode cX9_init 78 = .ok (.putfield 50, 3) := by decide +kernel
theorem dX9_init_81 : decode cX9_init 81 = .ok (.aload_n 0, 1) := by decide +kernel
theorem dX9_init_82 : decode cX9_init 82 = .ok (.new 54, 3) := by decide +kernel
theorem dX9_init_85 : decode cX9_init 85 = .ok (.dup, 1) := by decide +kernel
theorem dX9_init_86 : decode cX9_init 86 = .ok (.invokespecial 56, 3) := by decide +kernel
theorem dX9_init_89 : decode cX9_init 89 = .ok (.putfield 57, 3) := by decide +kernel
theorem dX9_init_92 : decode cX9_init 92 = .ok (.aload_n 0, 1) := by decide +kernel
theorem dX9_init_93 : decode cX9_init 93 = .ok (.new 61, 3) := by decide +kernel
theorem dX9_init_96 : decode cX9_init 96 = .ok (.dup, 1) := by decide +kernel
theorem dX9_init_97 : decode cX9_init 97 = .ok (.invokespecial 63, 3) := by decide +kernel
theorem dX9_init_100 : decode cX9_init 100 = .ok (.putfield 64, 3) := by decide +kernel
theorem dX9_init_103 : decode cX9_init 103 = .ok (.aload_n 0, 1) := by decide +kernel
theorem dX9_init_104 : decode cX9_init 104 = .ok (.iconst 0, 1) := by decide +kernel
theorem dX9_init_105 : decode cX9_init 105 = .ok (.putfield 68, 3) := by decide +kernel
theorem dX9_init_108 : decode cX9_init 108 = .ok (.aload_n 0, 1) := by decide +kernel
theorem dX9_init_109 : decode cX9_init 109 = .ok (.iconst 0, 1) := by decide +kernel
theorem dX9_init_110 : decode cX9_init 110 = .ok (.putfield 72, 3) := by decide +kernel
theorem dX9_init_113 : decode cX9_init 113 = .ok (.aload_n 0, 1) := by decide +kernel
theorem dX9_init_114 : decode cX9_init 114 = .ok (.iconst 0, 1) := by decide +kernel
theorem dX9_init_115 : decode cX9_init 115 = .ok (.putfield 76, 3) := by decide +kernel
theorem dX9_init_118 : decode cX9_init 118 = .ok (.return_, 1) := by decide +kernel
theorem dX9_letter_0 : decode cX9_letter 0 = .ok (.iload_n 1, 1) := by decide +kernel
theorem dX9_letter_1 : decode cX9_letter 1 = .ok (.iconst 1, 1) := by decide +kernel
theorem dX9_letter_2 : decode cX9_letter 2 = .ok (.if_icmp .lt 9, 3) := by decide +kernel
theorem dX9_letter_5 : decode cX9_letter 5 = .ok (.iload_n 1, 1) := by decide +kernel
theorem dX9_letter_6 : decode cX9_letter 6 = .ok (.bipush 126, 2) := by decide +kernel
theorem dX9_letter_8 : decode cX9_letter 8 = .ok (.if_icmp .le 6, 3) := by decide +kernel
theorem dX9_letter_11 : decode cX9_letter 11 = .ok (.bipush (-102), 2) := by decide +kernel
theorem dX9_letter_13 : decode cX9_letter 13 = .ok (.ireturn, 1) := by decide +kernel
theorem dX9_letter_14 : decode cX9_letter 14 = .ok (.aload_n 0, 1) := by decide +kernel
theorem dX9_letter_15 : decode cX9_letter 15 = .ok (.getfield 10, 3) := by decide +kernel
theorem dX9_letter_18 : decode cX9_letter 18 = .ok (.iload_n 1, 1) := by decide +kernel
theorem dX9_letter_19 : decode cX9_letter 19 = .ok (.invokevirtual 79, 3) := by decide +kernel
theorem dX9_letter_22 : decode cX9_letter 22 = .ok (.ifCond .eq 13, 3) := by decide +kernel
theorem dX9_letter_25 : decode cX9_letter 25 = .ok (.aload_n 0, 1) := by decide +kernel
theorem dX9_letter_26 : decode cX9_letter 26 = .ok (.getfield 10, 3) := by decide +kernel
theorem dX9_letter_29 : decode cX9_letter 29 = .ok (.getfield 83, 3) := by decide +kernel
theorem dX9_letter_32 : decode cX9_letter 32 = .ok (.goto 5, 3) := by decide +kernel
theorem dX9_letter_35 : decode cX9_letter 35 = .ok (.bipush (-104), 2) := by decide +kernel
theorem dX9_letter_37 : decode cX9_letter 37 = .ok (.ireturn, 1) := by decide +kernel
theorem dX9_blank_0 : decode cX9_blank 0 = .ok (.aload_n 0, 1) := by decide +kernel
theorem dX9_blank_1 : decode cX9_blank 1 = .ok (.getfield 10, 3) := by decide +kernel
theorem dX9_blank_4 : decode cX9_blank 4 = .ok (.getfield 83, 3) := by decide +kernel
theorem dX9_blank_7 : decode cX9_blank 7 = .ok (.istore_n 1, 1) := by decide +kernel
theorem dX9_blank_8 : decode cX9_blank 8 = .ok (.aload_n 0, 1) := by decide +kernel
theorem dX9_blank_9 : decode cX9_blank 9 = .ok (.getfield 10, 3) := by decide +kernel
theorem dX9_blank_12 : decode cX9_blank 12 = .ok (.iconst 0, 1) := by decide +kernel
theorem dX9_blank_13 : decode cX9_blank 13 = .ok (.putfield 83, 3) := by decide +kernel
theorem dX9_blank_16 : decode cX9_blank 16 = .ok (.iload_n 1, 1) := by decide +kernel
theorem dX9_blank_17 : decode cX9_blank 17 = .ok (.ireturn, 1) := by decide +kernel
theorem dX9_fault_0 : decode cX9_fault 0 = .ok (.aload_n 0, 1) := by decide +kernel
theorem dX9_fault_1 : decode cX9_fault 1 = .ok (.getfield 19, 3) := by decide +kernel
theorem dX9_fault_4 : decode cX9_fault 4 = .ok (.aload_n 0, 1) := by decide +kernel
theorem dX9_fault_5 : decode cX9_fault 5 = .ok (.getfield 10, 3) := by decide +kernel
theorem dX9_fault_8 : decode cX9_fault 8 = .ok (.invokevirtual 86, 3) := by decide +kernel
theorem dX9_fault_11 : decode cX9_fault 11 = .ok (.ireturn, 1) := by decide +kernel
theorem dX9_shore_0 : decode cX9_shore 0 = .ok (.aload_n 0, 1) := by decide +kernel
theorem dX9_shore_1 : decode cX9_shore 1 = .ok (.getfield 19, 3) := by decide +kernel
theorem dX9_shore_4 : decode cX9_shore 4 = .ok (.aload_n 0, 1) := by decide +kernel
theorem dX9_shore_5 : decode cX9_shore 5 = .ok (.getfield 10, 3) := by decide +kernel
theorem dX9_shore_8 : decode cX9_shore 8 = .ok (.invokevirtual 86, 3) := by decide +kernel
theorem dX9_shore_11 : decode cX9_shore 11 = .ok (.aload_n 0, 1) := by decide +kernel
theorem dX9_shore_12 : decode cX9_shore 12 = .ok (.getfield 10, 3) := by decide +kernel
theorem dX9_shore_15 : decode cX9_shore 15 = .ok (.getfield 83, 3) := by decide +kernel
theorem dX9_shore_18 : decode cX9_shore 18 = .ok (.if_icmp .lt 13, 3) := by decide +kernel
theorem dX9_shore_21 : decode cX9_shore 21 = .ok (.aload_n 0, 1) := by decide +kernel
theorem dX9_shore_22 : decode cX9_shore 22 = .ok (.getfield 19, 3) := by decide +kernel
theorem dX9_shore_25 : decode cX9_shore 25 = .ok (.invokevirtual 90, 3) := by decide +kernel
theorem dX9_shore_28 : decode cX9_shore 28 = .ok (.ifCond .ne 6, 3) := by decide +kernel
theorem dX9_shore_31 : decode cX9_shore 31 = .ok (.bipush (-103), 2) := by decide +kernel
theorem dX9_shore_33 : decode cX9_shore 33 = .ok (.ireturn, 1) := by decide +kernel
theorem dX9_shore_34 : decode cX9_shore 34 = .ok (.aload_n 0, 1) := by decide +kernel
theorem dX9_shore_35 : decode cX9_shore 35 = .ok (.getfield 26, 3) := by decide +kernel
theorem dX9_shore_38 : decode cX9_shore 38 = .ok (.aload_n 0, 1) := by decide +kernel
theorem dX9_shore_39 : decode cX9_shore 39 = .ok (.getfield 19, 3) := by decide +kernel
theorem dX9_shore_42 : decode cX9_shore 42 = .ok (.getfield 94, 3) := by decide +kernel
theorem dX9_shore_45 : decode cX9_shore 45 = .ok (.invokevirtual 97, 3) := by decide +kernel
theorem dX9_shore_48 : decode cX9_shore 48 = .ok (.aload_n 0, 1) := by decide +kernel
theorem dX9_shore_49 : decode cX9_shore 49 = .ok (.getfield 10, 3) := by decide +kernel
theorem dX9_shore_52 : decode cX9_shore 52 = .ok (.iconst 0, 1) := by decide +kernel
theorem dX9_shore_53 : decode cX9_shore 53 = .ok (.putfield 83, 3) := by decide +kernel
theorem dX9_shore_56 : decode cX9_shore 56 = .ok (.aload_n 0, 1) := by decide +kernel
theorem dX9_shore_57 : decode cX9_shore 57 = .ok (.iconst 0, 1) := by decide +kernel
theorem dX9_shore_58 : decode cX9_shore 58 = .ok (.putfield 68, 3) := by decide +kernel
theorem dX9_shore_61 : decode cX9_shore 61 = .ok (.aload_n 0, 1) := by decide +kernel
theorem dX9_shore_62 : decode cX9_shore 62 = .ok (.dup, 1) := by decide +kernel
theorem dX9_shore_63 : decode cX9_shore 63 = .ok (.getfield 72, 3) := by decide +kernel
theorem dX9_shore_66 : decode cX9_shore 66 = .ok (.iconst 1, 1) := by decide +kernel
theorem dX9_shore_67 : decode cX9_shore 67 = .ok (.iadd, 1) := by decide +kernel
theorem dX9_shore_68 : decode cX9_shore 68 = .ok (.putfield 72, 3) := by decide +kernel
theorem dX9_shore_71 : decode cX9_shore 71 = .ok (.aload_n 0, 1) := by decide +kernel
theorem dX9_shore_72 : decode cX9_shore 72 = .ok (.getfield 26, 3) := by decide +kernel
theorem dX9_shore_75 : decode cX9_shore 75 = .ok (.getfield 101, 3) := by decide +kernel
theorem dX9_shore_78 : decode cX9_shore 78 = .ok (.ireturn, 1) := by decide +kernel
theorem dX9_sand_0 : decode cX9_sand 0 = .ok (.aload_n 0, 1) := by decide +kernel
theorem dX9_sand_1 : decode cX9_sand 1 = .ok (.getfield 26, 3) := by decide +kernel
theorem dX9_sand_4 : decode cX9_sand 4 = .ok (.iload_n 1, 1) := by decide +kernel
theorem dX9_sand_5 : decode cX9_sand 5 = .ok (.invokevirtual 104, 3) := by decide +kernel
theorem dX9_sand_8 : decode cX9_sand 8 = .ok (.ifCond .ne 6, 3) := by decide +kernel
theorem dX9_sand_11 : decode cX9_sand 11 = .ok (.bipush (-101), 2) := by decide +kernel
theorem dX9_sand_13 : decode cX9_sand 13 = .ok (.ireturn, 1) := by decide +kernel
theorem dX9_sand_14 : decode cX9_sand 14 = .ok (.iload_n 2, 1) := by decide +kernel
theorem dX9_sand_15 : decode cX9_sand 15 = .ok (.tableswitch 71 0 2 #[25, 35, 62], 25) := by decide +kernel
theorem dX9_sand_40 : decode cX9_sand 40 = .ok (.aload_n 0, 1) := by decide +kernel
theorem dX9_sand_41 : decode cX9_sand 41 = .ok (.getfield 26, 3) := by decide +kernel
theorem dX9_sand_44 : decode cX9_sand 44 = .ok (.getfield 107, 3) := by decide +kernel
theorem dX9_sand_47 : decode cX9_sand 47 = .ok (.iload_n 1, 1) := by decide +kernel
theorem dX9_sand_48 : decode cX9_sand 48 = .ok (.iaload, 1) := by decide +kernel
theorem dX9_sand_49 : decode cX9_sand 49 = .ok (.ireturn, 1) := by decide +kernel
theorem dX9_sand_50 : decode cX9_sand 50 = .ok (.aload_n 0, 1) := by decide +kernel
theorem dX9_sand_51 : decode cX9_sand 51 = .ok (.getfield 26, 3) := by decide +kernel
theorem dX9_sand_54 : decode cX9_sand 54 = .ok (.iload_n 1, 1) := by decide +kernel
theorem dX9_sand_55 : decode cX9_sand 55 = .ok (.aload_n 0, 1) := by decide +kernel
theorem dX9_sand_56 : decode cX9_sand 56 = .ok (.getfield 26, 3) := by decide +kernel
theorem dX9_sand_59 : decode cX9_sand 59 = .ok (.getfield 111, 3) := by decide +kernel
theorem dX9_sand_62 : decode cX9_sand 62 = .ok (.getfield 115, 3) := by decide +kernel
theorem dX9_sand_65 : decode cX9_sand 65 = .ok (.invokevirtual 120, 3) := by decide +kernel
theorem dX9_sand_68 : decode cX9_sand 68 = .ok (.ifCond .eq 7, 3) := by decide +kernel
theorem dX9_sand_71 : decode cX9_sand 71 = .ok (.iconst 1, 1) := by decide +kernel
theorem dX9_sand_72 : decode cX9_sand 72 = .ok (.goto 4, 3) := by decide +kernel
theorem dX9_sand_75 : decode cX9_sand 75 = .ok (.iconst 0, 1) := by decide +kernel
theorem dX9_sand_76 : decode cX9_sand 76 = .ok (.ireturn, 1) := by decide +kernel
theorem dX9_sand_77 : decode cX9_sand 77 = .ok (.aload_n 0, 1) := by decide +kernel
theorem dX9_sand_78 : decode cX9_sand 78 = .ok (.getfield 26, 3) := by decide +kernel
theorem dX9_sand_81 : decode cX9_sand 81 = .ok (.iload_n 1, 1) := by decide +kernel
theorem dX9_sand_82 : decode cX9_sand 82 = .ok (.invokevirtual 124, 3) := by decide +kernel
theorem dX9_sand_85 : decode cX9_sand 85 = .ok (.ireturn, 1) := by decide +kernel
theorem dX9_sand_86 : decode cX9_sand 86 = .ok (.bipush (-102), 2) := by decide +kernel
theorem dX9_sand_88 : decode cX9_sand 88 = .ok (.ireturn, 1) := by decide +kernel
theorem dX9_boat_0 : decode cX9_boat 0 = .ok (.aload_n 0, 1) := by decide +kernel
theorem dX9_boat_1 : decode cX9_boat 1 = .ok (.getfield 26, 3) := by decide +kernel
theorem dX9_boat_4 : decode cX9_boat 4 = .ok (.iload_n 1, 1) := by decide +kernel
theorem dX9_boat_5 : decode cX9_boat 5 = .ok (.invokevirtual 128, 3) := by decide +kernel
theorem dX9_boat_8 : decode cX9_boat 8 = .ok (.ifCond .ne 6, 3) := by decide +kernel
theorem dX9_boat_11 : decode cX9_boat 11 = .ok (.bipush (-101), 2) := by decide +kernel
theorem dX9_boat_13 : decode cX9_boat 13 = .ok (.ireturn, 1) := by decide +kernel
theorem dX9_boat_14 : decode cX9_boat 14 = .ok (.iload_n 2, 1) := by decide +kernel
theorem dX9_boat_15 : decode cX9_boat 15 = .ok (.tableswitch 85 0 3 #[29, 39, 49, 76], 29) := by decide +kernel
theorem dX9_boat_44 : decode cX9_boat 44 = .ok (.aload_n 0, 1) := by decide +kernel
theorem dX9_boat_45 : decode cX9_boat 45 = .ok (.getfield 26, 3) := by decide +kernel
theorem dX9_boat_48 : decode cX9_boat 48 = .ok (.getfield 131, 3) := by decide +kernel
theorem dX9_boat_51 : decode cX9_boat 51 = .ok (.iload_n 1, 1) := by decide +kernel
theorem dX9_boat_52 : decode cX9_boat 52 = .ok (.iaload, 1) := by decide +kernel
theorem dX9_boat_53 : decode cX9_boat 53 = .ok (.ireturn, 1) := by decide +kernel
theorem dX9_boat_54 : decode cX9_boat 54 = .ok (.aload_n 0, 1) := by decide +kernel
theorem dX9_boat_55 : decode cX9_boat 55 = .ok (.getfield 26, 3) := by decide +kernel
theorem dX9_boat_58 : decode cX9_boat 58 = .ok (.getfield 134, 3) := by decide +kernel
theorem dX9_boat_61 : decode cX9_boat 61 = .ok (.iload_n 1, 1) := by decide +kernel
theorem dX9_boat_62 : decode cX9_boat 62 = .ok (.iaload, 1) := by decide +kernel
theorem dX9_boat_63 : decode cX9_boat 63 = .ok (.ireturn, 1) := by decide +kernel
theorem dX9_boat_64 : decode cX9_boat 64 = .ok (.aload_n 0, 1) := by decide +kernel
theorem dX9_boat_65 : decode cX9_boat 65 = .ok (.getfield 26, 3) := by decide +kernel
theorem dX9_boat_68 : decode cX9_boat 68 = .ok (.getfield 111, 3) := by decide +kernel
theorem dX9_boat_71 : decode cX9_boat 71 = .ok (.getfield 115, 3) := by decide +kernel
theorem dX9_boat_74 : decode cX9_boat 74 = .ok (.aload_n 0, 1) := by decide +kernel
theorem dX9_boat_75 : decode cX9_boat 75 = .ok (.getfield 26, 3) := by decide +kernel
theorem dX9_boat_78 : decode cX9_boat 78 = .ok (.iload_n 1, 1) := by decide +kernel
theorem dX9_boat_79 : decode cX9_boat 79 = .ok (.invokevirtual 137, 3) := by decide +kernel
theorem dX9_boat_82 : decode cX9_boat 82 = .ok (.if_icmp .lt 7, 3) := by decide +kernel
theorem dX9_boat_85 : decode cX9_boat 85 = .ok (.iconst 1, 1) := by decide +kernel
theorem dX9_boat_86 : decode cX9_boat 86 = .ok (.goto 4, 3) := by decide +kernel
theorem dX9_boat_89 : decode cX9_boat 89 = .ok (.iconst 0, 1) := by decide +kernel
theorem dX9_boat_90 : decode cX9_boat 90 = .ok (.ireturn, 1) := by decide +kernel
theorem dX9_boat_91 : decode cX9_boat 91 = .ok (.aload_n 0, 1) := by decide +kernel
theorem dX9_boat_92 : decode cX9_boat 92 = .ok (.getfield 26, 3) := by decide +kernel
theorem dX9_boat_95 : decode cX9_boat 95 = .ok (.iload_n 1, 1) := by decide +kernel
theorem dX9_boat_96 : decode cX9_boat 96 = .ok (.invokevirtual 137, 3) := by decide +kernel
theorem dX9_boat_99 : decode cX9_boat 99 = .ok (.ireturn, 1) := by decide +kernel
theorem dX9_boat_100 : decode cX9_boat 100 = .ok (.bipush (-102), 2) := by decide +kernel
theorem dX9_boat_102 : decode cX9_boat 102 = .ok (.ireturn, 1) := by decide +kernel
theorem dX9_asker_0 : decode cX9_asker 0 = .ok (.aload_n 0, 1) := by decide +kernel
theorem dX9_asker_1 : decode cX9_asker 1 = .ok (.getfield 26, 3) := by decide +kernel
theorem dX9_asker_4 : decode cX9_asker 4 = .ok (.iload_n 1, 1) := by decide +kernel
theorem dX9_asker_5 : decode cX9_asker 5 = .ok (.invokevirtual 140, 3) := by decide +kernel
theorem dX9_asker_8 : decode cX9_asker 8 = .ok (.ifCond .ne 6, 3) := by decide +kernel
theorem dX9_asker_11 : decode cX9_asker 11 = .ok (.bipush (-101), 2) := by decide +kernel
theorem dX9_asker_13 : decode cX9_asker 13 = .ok (.ireturn, 1) := by decide +kernel
theorem dX9_asker_14 : decode cX9_asker 14 = .ok (.iload_n 2, 1) := by decide +kernel
theorem dX9_asker_15 : decode cX9_asker 15 = .ok (.tableswitch 147 0 5 #[37, 47, 57, 82, 107, 127], 37) := by decide +kernel
theorem dX9_asker_52 : decode cX9_asker 52 = .ok (.aload_n 0, 1) := by decide +kernel
theorem dX9_asker_53 : decode cX9_asker 53 = .ok (.getfield 26, 3) := by decide +kernel
theorem dX9_asker_56 : decode cX9_asker 56 = .ok (.getfield 143, 3) := by decide +kernel
theorem dX9_asker_59 : decode cX9_asker 59 = .ok (.iload_n 1, 1) := by decide +kernel
theorem dX9_asker_60 : decode cX9_asker 60 = .ok (.iaload, 1) := by decide +kernel
theorem dX9_asker_61 : decode cX9_asker 61 = .ok (.ireturn, 1) := by decide +kernel
theorem dX9_asker_62 : decode cX9_asker 62 = .ok (.aload_n 0, 1) := by decide +kernel
theorem dX9_asker_63 : decode cX9_asker 63 = .ok (.getfield 26, 3) := by decide +kernel
theorem dX9_asker_66 : decode cX9_asker 66 = .ok (.getfield 146, 3) := by decide +kernel
theorem dX9_asker_69 : decode cX9_asker 69 = .ok (.iload_n 1, 1) := by decide +kernel
theorem dX9_asker_70 : decode cX9_asker 70 = .ok (.iaload, 1) := by decide +kernel
theorem dX9_asker_71 : decode cX9_asker 71 = .ok (.ireturn, 1) := by decide +kernel
theorem dX9_asker_72 : decode cX9_asker 72 = .ok (.aload_n 0, 1) := by decide +kernel
theorem dX9_asker_73 : decode cX9_asker 73 = .ok (.getfield 57, 3) := by decide +kernel
theorem dX9_asker_76 : decode cX9_asker 76 = .ok (.aload_n 0, 1) := by decide +kernel
theorem dX9_asker_77 : decode cX9_asker 77 = .ok (.getfield 26, 3) := by decide +kernel
theorem dX9_asker_80 : decode cX9_asker 80 = .ok (.iload_n 1, 1) := by decide +kernel
theorem dX9_asker_81 : decode cX9_asker 81 = .ok (.aload_n 0, 1) := by decide +kernel
theorem dX9_asker_82 : decode cX9_asker 82 = .ok (.getfield 26, 3) := by decide +kernel
theorem dX9_asker_85 : decode cX9_asker 85 = .ok (.getfield 146, 3) := by decide +kernel
theorem dX9_asker_88 : decode cX9_asker 88 = .ok (.iload_n 1, 1) := by decide +kernel
theorem dX9_asker_89 : decode cX9_asker 89 = .ok (.iaload, 1) := by decide +kernel
theorem dX9_asker_90 : decode cX9_asker 90 = .ok (.invokevirtual 149, 3) := by decide +kernel
theorem dX9_asker_93 : decode cX9_asker 93 = .ok (.getfield 115, 3) := by decide +kernel
theorem dX9_asker_96 : decode cX9_asker 96 = .ok (.ireturn, 1) := by decide +kernel
theorem dX9_asker_97 : decode cX9_asker 97 = .ok (.aload_n 0, 1) := by decide +kernel
theorem dX9_asker_98 : decode cX9_asker 98 = .ok (.getfield 57, 3) := by decide +kernel
theorem dX9_asker_101 : decode cX9_asker 101 = .ok (.aload_n 0, 1) := by decide +kernel
theorem dX9_asker_102 : decode cX9_asker 102 = .ok (.getfield 26, 3) := by decide +kernel
theorem dX9_asker_105 : decode cX9_asker 105 = .ok (.iload_n 1, 1) := by decide +kernel
theorem dX9_asker_106 : decode cX9_asker 106 = .ok (.aload_n 0, 1) := by decide +kernel
theorem dX9_asker_107 : decode cX9_asker 107 = .ok (.getfield 26, 3) := by decide +kernel
theorem dX9_asker_110 : decode cX9_asker 110 = .ok (.getfield 146, 3) := by decide +kernel
theorem dX9_asker_113 : decode cX9_asker 113 = .ok (.iload_n 1, 1) := by decide +kernel
theorem dX9_asker_114 : decode cX9_asker 114 = .ok (.iaload, 1) := by decide +kernel
theorem dX9_asker_115 : decode cX9_asker 115 = .ok (.invokevirtual 149, 3) := by decide +kernel
theorem dX9_asker_118 : decode cX9_asker 118 = .ok (.getfield 153, 3) := by decide +kernel
theorem dX9_asker_121 : decode cX9_asker 121 = .ok (.ireturn, 1) := by decide +kernel
theorem dX9_asker_122 : decode cX9_asker 122 = .ok (.aload_n 0, 1) := by decide +kernel
theorem dX9_asker_123 : decode cX9_asker 123 = .ok (.getfield 57, 3) := by decide +kernel
theorem dX9_asker_126 : decode cX9_asker 126 = .ok (.aload_n 0, 1) := by decide +kernel
theorem dX9_asker_127 : decode cX9_asker 127 = .ok (.getfield 26, 3) := by decide +kernel
theorem dX9_asker_130 : decode cX9_asker 130 = .ok (.iload_n 1, 1) := by decide +kernel
theorem dX9_asker_131 : decode cX9_asker 131 = .ok (.invokevirtual 156, 3) := by decide +kernel
theorem dX9_asker_134 : decode cX9_asker 134 = .ok (.aload_n 0, 1) := by decide +kernel
theorem dX9_asker_135 : decode cX9_asker 135 = .ok (.getfield 57, 3) := by decide +kernel
theorem dX9_asker_138 : decode cX9_asker 138 = .ok (.getfield 160, 3) := by decide +kernel
theorem dX9_asker_141 : decode cX9_asker 141 = .ok (.ireturn, 1) := by decide +kernel
theorem dX9_asker_142 : decode cX9_asker 142 = .ok (.aload_n 0, 1) := by decide +kernel
theorem dX9_asker_143 : decode cX9_asker 143 = .ok (.getfield 57, 3) := by decide +kernel
theorem dX9_asker_146 : decode cX9_asker 146 = .ok (.aload_n 0, 1) := by decide +kernel
theorem dX9_asker_147 : decode cX9_asker 147 = .ok (.getfield 26, 3) := by decide +kernel
theorem dX9_asker_150 : decode cX9_asker 150 = .ok (.iload_n 1, 1) := by decide +kernel
theorem dX9_asker_151 : decode cX9_asker 151 = .ok (.invokevirtual 156, 3) := by decide +kernel
theorem dX9_asker_154 : decode cX9_asker 154 = .ok (.aload_n 0, 1) := by decide +kernel
theorem dX9_asker_155 : decode cX9_asker 155 = .ok (.getfield 57, 3) := by decide +kernel
theorem dX9_asker_158 : decode cX9_asker 158 = .ok (.getfield 163, 3) := by decide +kernel
theorem dX9_asker_161 : decode cX9_asker 161 = .ok (.ireturn, 1) := by decide +kernel
theorem dX9_asker_162 : decode cX9_asker 162 = .ok (.bipush (-102), 2) := by decide +kernel
theorem dX9_asker_164 : decode cX9_asker 164 = .ok (.ireturn, 1) := by decide +kernel
theorem dX9_as_0 : decode cX9_as 0 = .ok (.aload_n 0, 1) := by decide +kernel
theorem dX9_as_1 : decode cX9_as 1 = .ok (.getfield 26, 3) := by decide +kernel
theorem dX9_as_4 : decode cX9_as 4 = .ok (.iload_n 1, 1) := by decide +kernel
theorem dX9_as_5 : decode cX9_as 5 = .ok (.invokevirtual 140, 3) := by decide +kernel
theorem dX9_as_8 : decode cX9_as 8 = .ok (.ifCond .ne 6, 3) := by decide +kernel
theorem dX9_as_11 : decode cX9_as 11 = .ok (.bipush (-101), 2) := by decide +kernel
theorem dX9_as_13 : decode cX9_as 13 = .ok (.ireturn, 1) := by decide +kernel
theorem dX9_as_14 : decode cX9_as 14 = .ok (.iload_n 2, 1) := by decide +kernel
theorem dX9_as_15 : decode cX9_as 15 = .ok (.invokestatic 166, 3) := by decide +kernel
theorem dX9_as_18 : decode cX9_as 18 = .ok (.ifCond .ne 6, 3) := by decide +kernel
theorem dX9_as_21 : decode cX9_as 21 = .ok (.bipush (-102), 2) := by decide +kernel
theorem dX9_as_23 : decode cX9_as 23 = .ok (.ireturn, 1) := by decide +kernel
theorem dX9_as_24 : decode cX9_as 24 = .ok (.aload_n 0, 1) := by decide +kernel
theorem dX9_as_25 : decode cX9_as 25 = .ok (.getfield 26, 3) := by decide +kernel
theorem dX9_as_28 : decode cX9_as 28 = .ok (.getfield 143, 3) := by decide +kernel
theorem dX9_as_31 : decode cX9_as 31 = .ok (.iload_n 1, 1) := by decide +kernel
theorem dX9_as_32 : decode cX9_as 32 = .ok (.iaload, 1) := by decide +kernel
theorem dX9_as_33 : decode cX9_as 33 = .ok (.iload_n 2, 1) := by decide +kernel
theorem dX9_as_34 : decode cX9_as 34 = .ok (.invokestatic 169, 3) := by decide +kernel
theorem dX9_as_37 : decode cX9_as 37 = .ok (.ifCond .eq 7, 3) := by decide +kernel
theorem dX9_as_40 : decode cX9_as 40 = .ok (.iload_n 1, 1) := by decide +kernel
theorem dX9_as_41 : decode cX9_as 41 = .ok (.goto 4, 3) := by decide +kernel
theorem dX9_as_44 : decode cX9_as 44 = .ok (.iconst (-1), 1) := by decide +kernel
theorem dX9_as_45 : decode cX9_as 45 = .ok (.ireturn, 1) := by decide +kernel
theorem dX9_ask_0 : decode cX9_ask 0 = .ok (.aload_n 0, 1) := by decide +kernel
theorem dX9_ask_1 : decode cX9_ask 1 = .ok (.getfield 26, 3) := by decide +kernel
theorem dX9_ask_4 : decode cX9_ask 4 = .ok (.iload_n 1, 1) := by decide +kernel
theorem dX9_ask_5 : decode cX9_ask 5 = .ok (.invokevirtual 140, 3) := by decide +kernel
theorem dX9_ask_8 : decode cX9_ask 8 = .ok (.ifCond .ne 6, 3) := by decide +kernel
theorem dX9_ask_11 : decode cX9_ask 11 = .ok (.bipush (-101), 2) := by decide +kernel
theorem dX9_ask_13 : decode cX9_ask 13 = .ok (.ireturn, 1) := by decide +kernel
theorem dX9_ask_14 : decode cX9_ask 14 = .ok (.aload_n 0, 1) := by decide +kernel
theorem dX9_ask_15 : decode cX9_ask 15 = .ok (.getfield 26, 3) := by decide +kernel
theorem dX9_ask_18 : decode cX9_ask 18 = .ok (.getfield 172, 3) := by decide +kernel
theorem dX9_ask_21 : decode cX9_ask 21 = .ok (.sipush 999, 3) := by decide +kernel
theorem dX9_ask_24 : decode cX9_ask 24 = .ok (.if_icmp .lt 6, 3) := by decide +kernel
theorem dX9_ask_27 : decode cX9_ask 27 = .ok (.bipush (-104), 2) := by decide +kernel
theorem dX9_ask_29 : decode cX9_ask 29 = .ok (.ireturn, 1) := by decide +kernel
theorem dX9_ask_30 : decode cX9_ask 30 = .ok (.aload_n 0, 1) := by decide +kernel
theorem dX9_ask_31 : decode cX9_ask 31 = .ok (.getfield 26, 3) := by decide +kernel
theorem dX9_ask_34 : decode cX9_ask 34 = .ok (.iload_n 1, 1) := by decide +kernel
theorem dX9_ask_35 : decode cX9_ask 35 = .ok (.aload_n 0, 1) := by decide +kernel
theorem dX9_ask_36 : decode cX9_ask 36 = .ok (.getfield 26, 3) := by decide +kernel
theorem dX9_ask_39 : decode cX9_ask 39 = .ok (.getfield 111, 3) := by decide +kernel
theorem dX9_ask_42 : decode cX9_ask 42 = .ok (.invokevirtual 175, 3) := by decide +kernel
theorem dX9_ask_45 : decode cX9_ask 45 = .ok (.aload_n 0, 1) := by decide +kernel
theorem dX9_ask_46 : decode cX9_ask 46 = .ok (.getfield 26, 3) := by decide +kernel
theorem dX9_ask_49 : decode cX9_ask 49 = .ok (.dup, 1) := by decide +kernel
theorem dX9_ask_50 : decode cX9_ask 50 = .ok (.getfield 172, 3) := by decide +kernel
theorem dX9_ask_53 : decode cX9_ask 53 = .ok (.iconst 1, 1) := by decide +kernel
theorem dX9_ask_54 : decode cX9_ask 54 = .ok (.iadd, 1) := by decide +kernel
theorem dX9_ask_55 : decode cX9_ask 55 = .ok (.putfield 172, 3) := by decide +kernel
theorem dX9_ask_58 : decode cX9_ask 58 = .ok (.aload_n 0, 1) := by decide +kernel
theorem dX9_ask_59 : decode cX9_ask 59 = .ok (.getfield 26, 3) := by decide +kernel
theorem dX9_ask_62 : decode cX9_ask 62 = .ok (.getfield 111, 3) := by decide +kernel
theorem dX9_ask_65 : decode cX9_ask 65 = .ok (.getfield 115, 3) := by decide +kernel
theorem dX9_ask_68 : decode cX9_ask 68 = .ok (.ireturn, 1) := by decide +kernel
theorem dX9_thank_0 : decode cX9_thank 0 = .ok (.aload_n 0, 1) := by decide +kernel
theorem dX9_thank_1 : decode cX9_thank 1 = .ok (.getfield 26, 3) := by decide +kernel
theorem dX9_thank_4 : decode cX9_thank 4 = .ok (.invokevirtual 179, 3) := by decide +kernel
theorem dX9_thank_7 : decode cX9_thank 7 = .ok (.ifCond .ne 6, 3) := by decide +kernel
theorem dX9_thank_10 : decode cX9_thank 10 = .ok (.bipush (-103), 2) := by decide +kernel
theorem dX9_thank_12 : decode cX9_thank 12 = .ok (.ireturn, 1) := by decide +kernel
theorem dX9_thank_13 : decode cX9_thank 13 = .ok (.aload_n 0, 1) := by decide +kernel
theorem dX9_thank_14 : decode cX9_thank 14 = .ok (.getfield 26, 3) := by decide +kernel
theorem dX9_thank_17 : decode cX9_thank 17 = .ok (.getfield 172, 3) := by decide +kernel
theorem dX9_thank_20 : decode cX9_thank 20 = .ok (.sipush 999, 3) := by decide +kernel
theorem dX9_thank_23 : decode cX9_thank 23 = .ok (.if_icmp .lt 6, 3) := by decide +kernel
theorem dX9_thank_26 : decode cX9_thank 26 = .ok (.bipush (-104), 2) := by decide +kernel
theorem dX9_thank_28 : decode cX9_thank 28 = .ok (.ireturn, 1) := by decide +kernel
theorem dX9_thank_29 : decode cX9_thank 29 = .ok (.aload_n 0, 1) := by decide +kernel
theorem dX9_thank_30 : decode cX9_thank 30 = .ok (.getfield 26, 3) := by decide +kernel
theorem dX9_thank_33 : decode cX9_thank 33 = .ok (.getfield 111, 3) := by decide +kernel
theorem dX9_thank_36 : decode cX9_thank 36 = .ok (.invokevirtual 182, 3) := by decide +kernel
theorem dX9_thank_39 : decode cX9_thank 39 = .ok (.aload_n 0, 1) := by decide +kernel
theorem dX9_thank_40 : decode cX9_thank 40 = .ok (.getfield 26, 3) := by decide +kernel
theorem dX9_thank_43 : decode cX9_thank 43 = .ok (.dup, 1) := by decide +kernel
theorem dX9_thank_44 : decode cX9_thank 44 = .ok (.getfield 172, 3) := by decide +kernel
theorem dX9_thank_47 : decode cX9_thank 47 = .ok (.iconst 1, 1) := by decide +kernel
theorem dX9_thank_48 : decode cX9_thank 48 = .ok (.iadd, 1) := by decide +kernel
theorem dX9_thank_49 : decode cX9_thank 49 = .ok (.putfield 172, 3) := by decide +kernel
theorem dX9_thank_52 : decode cX9_thank 52 = .ok (.aload_n 0, 1) := by decide +kernel
theorem dX9_thank_53 : decode cX9_thank 53 = .ok (.getfield 26, 3) := by decide +kernel
theorem dX9_thank_56 : decode cX9_thank 56 = .ok (.getfield 111, 3) := by decide +kernel
theorem dX9_thank_59 : decode cX9_thank 59 = .ok (.getfield 115, 3) := by decide +kernel
theorem dX9_thank_62 : decode cX9_thank 62 = .ok (.ireturn, 1) := by decide +kernel
theorem dX9_draw_0 : decode cX9_draw 0 = .ok (.aload_n 0, 1) := by decide +kernel
theorem dX9_draw_1 : decode cX9_draw 1 = .ok (.getfield 26, 3) := by decide +kernel
theorem dX9_draw_4 : decode cX9_draw 4 = .ok (.iload_n 1, 1) := by decide +kernel
theorem dX9_draw_5 : decode cX9_draw 5 = .ok (.invokevirtual 128, 3) := by decide +kernel
theorem dX9_draw_8 : decode cX9_draw 8 = .ok (.ifCond .eq 14, 3) := by decide +kernel
theorem dX9_draw_11 : decode cX9_draw 11 = .ok (.aload_n 0, 1) := by decide +kernel
theorem dX9_draw_12 : decode cX9_draw 12 = .ok (.getfield 26, 3) := by decide +kernel
theorem dX9_draw_15 : decode cX9_draw 15 = .ok (.iload_n 2, 1) := by decide +kernel
theorem dX9_draw_16 : decode cX9_draw 16 = .ok (.invokevirtual 104, 3) := by decide +kernel
theorem dX9_draw_19 : decode cX9_draw 19 = .ok (.ifCond .ne 6, 3) := by decide +kernel
theorem dX9_draw_22 : decode cX9_draw 22 = .ok (.bipush (-101), 2) := by decide +kernel
theorem dX9_draw_24 : decode cX9_draw 24 = .ok (.ireturn, 1) := by decide +kernel
theorem dX9_draw_25 : decode cX9_draw 25 = .ok (.aload_n 0, 1) := by decide +kernel
theorem dX9_draw_26 : decode cX9_draw 26 = .ok (.getfield 26, 3) := by decide +kernel
theorem dX9_draw_29 : decode cX9_draw 29 = .ok (.getfield 131, 3) := by decide +kernel
theorem dX9_draw_32 : decode cX9_draw 32 = .ok (.iload_n 1, 1) := by decide +kernel
theorem dX9_draw_33 : decode cX9_draw 33 = .ok (.iaload, 1) := by decide +kernel
theorem dX9_draw_34 : decode cX9_draw 34 = .ok (.istore_n 3, 1) := by decide +kernel
theorem dX9_draw_35 : decode cX9_draw 35 = .ok (.aload_n 0, 1) := by decide +kernel
theorem dX9_draw_36 : decode cX9_draw 36 = .ok (.getfield 26, 3) := by decide +kernel
theorem dX9_draw_39 : decode cX9_draw 39 = .ok (.getfield 131, 3) := by decide +kernel
theorem dX9_draw_42 : decode cX9_draw 42 = .ok (.iload_n 1, 1) := by decide +kernel
theorem dX9_draw_43 : decode cX9_draw 43 = .ok (.iload_n 2, 1) := by decide +kernel
theorem dX9_draw_44 : decode cX9_draw 44 = .ok (.iastore, 1) := by decide +kernel
theorem dX9_draw_45 : decode cX9_draw 45 = .ok (.iload_n 3, 1) := by decide +kernel
theorem dX9_draw_46 : decode cX9_draw 46 = .ok (.ireturn, 1) := by decide +kernel
theorem dX9_heap_0 : decode cX9_heap 0 = .ok (.aload_n 0, 1) := by decide +kernel
theorem dX9_heap_1 : decode cX9_heap 1 = .ok (.getfield 26, 3) := by decide +kernel
theorem dX9_heap_4 : decode cX9_heap 4 = .ok (.iload_n 1, 1) := by decide +kernel
theorem dX9_heap_5 : decode cX9_heap 5 = .ok (.invokevirtual 104, 3) := by decide +kernel
theorem dX9_heap_8 : decode cX9_heap 8 = .ok (.ifCond .ne 6, 3) := by decide +kernel
theorem dX9_heap_11 : decode cX9_heap 11 = .ok (.bipush (-101), 2) := by decide +kernel
theorem dX9_heap_13 : decode cX9_heap 13 = .ok (.ireturn, 1) := by decide +kernel
theorem dX9_heap_14 : decode cX9_heap 14 = .ok (.iload_n 2, 1) := by decide +kernel
theorem dX9_heap_15 : decode cX9_heap 15 = .ok (.invokestatic 185, 3) := by decide +kernel
theorem dX9_heap_18 : decode cX9_heap 18 = .ok (.ifCond .ne 6, 3) := by decide +kernel
theorem dX9_heap_21 : decode cX9_heap 21 = .ok (.bipush (-102), 2) := by decide +kernel
theorem dX9_heap_23 : decode cX9_heap 23 = .ok (.ireturn, 1) := by decide +kernel
theorem dX9_heap_24 : decode cX9_heap 24 = .ok (.aload_n 0, 1) := by decide +kernel
theorem dX9_heap_25 : decode cX9_heap 25 = .ok (.getfield 26, 3) := by decide +kernel
theorem dX9_heap_28 : decode cX9_heap 28 = .ok (.getfield 107, 3) := by decide +kernel
theorem dX9_heap_31 : decode cX9_heap 31 = .ok (.iload_n 1, 1) := by decide +kernel
theorem dX9_heap_32 : decode cX9_heap 32 = .ok (.iaload, 1) := by decide +kernel
theorem dX9_heap_33 : decode cX9_heap 33 = .ok (.istore_n 3, 1) := by decide +kernel
theorem dX9_heap_34 : decode cX9_heap 34 = .ok (.aload_n 0, 1) := by decide +kernel
theorem dX9_heap_35 : decode cX9_heap 35 = .ok (.getfield 26, 3) := by decide +kernel
theorem dX9_heap_38 : decode cX9_heap 38 = .ok (.getfield 107, 3) := by decide +kernel
theorem dX9_heap_41 : decode cX9_heap 41 = .ok (.iload_n 1, 1) := by decide +kernel
theorem dX9_heap_42 : decode cX9_heap 42 = .ok (.iload_n 2, 1) := by decide +kernel
theorem dX9_heap_43 : decode cX9_heap 43 = .ok (.iastore, 1) := by decide +kernel
theorem dX9_heap_44 : decode cX9_heap 44 = .ok (.iload_n 3, 1) := by decide +kernel
theorem dX9_heap_45 : decode cX9_heap 45 = .ok (.ireturn, 1) := by decide +kernel
theorem dX9_teach_0 : decode cX9_teach 0 = .ok (.aload_n 0, 1) := by decide +kernel
theorem dX9_teach_1 : decode cX9_teach 1 = .ok (.getfield 26, 3) := by decide +kernel
theorem dX9_teach_4 : decode cX9_teach 4 = .ok (.iload_n 1, 1) := by decide +kernel
theorem dX9_teach_5 : decode cX9_teach 5 = .ok (.invokevirtual 140, 3) := by decide +kernel
theorem dX9_teach_8 : decode cX9_teach 8 = .ok (.ifCond .ne 6, 3) := by decide +kernel
theorem dX9_teach_11 : decode cX9_teach 11 = .ok (.bipush (-101), 2) := by decide +kernel
theorem dX9_teach_13 : decode cX9_teach 13 = .ok (.ireturn, 1) := by decide +kernel
theorem dX9_teach_14 : decode cX9_teach 14 = .ok (.iload_n 2, 1) := by decide +kernel
theorem dX9_teach_15 : decode cX9_teach 15 = .ok (.invokestatic 166, 3) := by decide +kernel
theorem dX9_teach_18 : decode cX9_teach 18 = .ok (.ifCond .eq 10, 3) := by decide +kernel
theorem dX9_teach_21 : decode cX9_teach 21 = .ok (.iload_n 3, 1) := by decide +kernel
theorem dX9_teach_22 : decode cX9_teach 22 = .ok (.invokestatic 185, 3) := by decide +kernel
theorem dX9_teach_25 : decode cX9_teach 25 = .ok (.ifCond .ne 6, 3) := by decide +kernel
theorem dX9_teach_28 : decode cX9_teach 28 = .ok (.bipush (-102), 2) := by decide +kernel
theorem dX9_teach_30 : decode cX9_teach 30 = .ok (.ireturn, 1) := by decide +kernel
theorem dX9_teach_31 : decode cX9_teach 31 = .ok (.aload_n 0, 1) := by decide +kernel
theorem dX9_teach_32 : decode cX9_teach 32 = .ok (.getfield 26, 3) := by decide +kernel
theorem dX9_teach_35 : decode cX9_teach 35 = .ok (.getfield 143, 3) := by decide +kernel
theorem dX9_teach_38 : decode cX9_teach 38 = .ok (.iload_n 1, 1) := by decide +kernel
theorem dX9_teach_39 : decode cX9_teach 39 = .ok (.iaload, 1) := by decide +kernel
theorem dX9_teach_40 : decode cX9_teach 40 = .ok (.istore 4, 2) := by decide +kernel
theorem dX9_teach_42 : decode cX9_teach 42 = .ok (.aload_n 0, 1) := by decide +kernel
theorem dX9_teach_43 : decode cX9_teach 43 = .ok (.getfield 26, 3) := by decide +kernel
theorem dX9_teach_46 : decode cX9_teach 46 = .ok (.getfield 143, 3) := by decide +kernel
theorem dX9_teach_49 : decode cX9_teach 49 = .ok (.iload_n 1, 1) := by decide +kernel
theorem dX9_teach_50 : decode cX9_teach 50 = .ok (.iload_n 2, 1) := by decide +kernel
theorem dX9_teach_51 : decode cX9_teach 51 = .ok (.iastore, 1) := by decide +kernel
theorem dX9_teach_52 : decode cX9_teach 52 = .ok (.aload_n 0, 1) := by decide +kernel
theorem dX9_teach_53 : decode cX9_teach 53 = .ok (.getfield 26, 3) := by decide +kernel
theorem dX9_teach_56 : decode cX9_teach 56 = .ok (.getfield 146, 3) := by decide +kernel
theorem dX9_teach_59 : decode cX9_teach 59 = .ok (.iload_n 1, 1) := by decide +kernel
theorem dX9_teach_60 : decode cX9_teach 60 = .ok (.iload_n 3, 1) := by decide +kernel
theorem dX9_teach_61 : decode cX9_teach 61 = .ok (.iastore, 1) := by decide +kernel
theorem dX9_teach_62 : decode cX9_teach 62 = .ok (.iload 4, 2) := by decide +kernel
theorem dX9_teach_64 : decode cX9_teach 64 = .ok (.ireturn, 1) := by decide +kernel
theorem dX9_order_0 : decode cX9_order 0 = .ok (.iload_n 1, 1) := by decide +kernel
theorem dX9_order_1 : decode cX9_order 1 = .ok (.ifCond .lt 8, 3) := by decide +kernel
theorem dX9_order_4 : decode cX9_order 4 = .ok (.iload_n 1, 1) := by decide +kernel
theorem dX9_order_5 : decode cX9_order 5 = .ok (.iconst 2, 1) := by decide +kernel
theorem dX9_order_6 : decode cX9_order 6 = .ok (.if_icmp .le 13, 3) := by decide +kernel
theorem dX9_order_9 : decode cX9_order 9 = .ok (.iload_n 1, 1) := by decide +kernel
theorem dX9_order_10 : decode cX9_order 10 = .ok (.invokestatic 188, 3) := by decide +kernel
theorem dX9_order_13 : decode cX9_order 13 = .ok (.ifCond .ne 6, 3) := by decide +kernel
theorem dX9_order_16 : decode cX9_order 16 = .ok (.bipush (-102), 2) := by decide +kernel
theorem dX9_order_18 : decode cX9_order 18 = .ok (.ireturn, 1) := by decide +kernel
theorem dX9_order_19 : decode cX9_order 19 = .ok (.aload_n 0, 1) := by decide +kernel
theorem dX9_order_20 : decode cX9_order 20 = .ok (.getfield 26, 3) := by decide +kernel
theorem dX9_order_23 : decode cX9_order 23 = .ok (.invokevirtual 179, 3) := by decide +kernel
theorem dX9_order_26 : decode cX9_order 26 = .ok (.ifCond .ne 6, 3) := by decide +kernel
theorem dX9_order_29 : decode cX9_order 29 = .ok (.bipush (-103), 2) := by decide +kernel
theorem dX9_order_31 : decode cX9_order 31 = .ok (.ireturn, 1) := by decide +kernel
theorem dX9_order_32 : decode cX9_order 32 = .ok (.aload_n 0, 1) := by decide +kernel
theorem dX9_order_33 : decode cX9_order 33 = .ok (.getfield 36, 3) := by decide +kernel
theorem dX9_order_36 : decode cX9_order 36 = .ok (.aload_n 0, 1) := by decide +kernel
theorem dX9_order_37 : decode cX9_order 37 = .ok (.getfield 26, 3) := by decide +kernel
theorem dX9_order_40 : decode cX9_order 40 = .ok (.invokevirtual 191, 3) := by decide +kernel
theorem dX9_order_43 : decode cX9_order 43 = .ok (.aload_n 0, 1) := by decide +kernel
theorem dX9_order_44 : decode cX9_order 44 = .ok (.getfield 36, 3) := by decide +kernel
theorem dX9_order_47 : decode cX9_order 47 = .ok (.iload_n 1, 1) := by decide +kernel
theorem dX9_order_48 : decode cX9_order 48 = .ok (.invokevirtual 194, 3) := by decide +kernel
theorem dX9_order_51 : decode cX9_order 51 = .ok (.ireturn, 1) := by decide +kernel
theorem dX9_few_0 : decode cX9_few 0 = .ok (.aload_n 0, 1) := by decide +kernel
theorem dX9_few_1 : decode cX9_few 1 = .ok (.getfield 26, 3) := by decide +kernel
theorem dX9_few_4 : decode cX9_few 4 = .ok (.iload_n 1, 1) := by decide +kernel
theorem dX9_few_5 : decode cX9_few 5 = .ok (.invokevirtual 128, 3) := by decide +kernel
theorem dX9_few_8 : decode cX9_few 8 = .ok (.ifCond .ne 6, 3) := by decide +kernel
theorem dX9_few_11 : decode cX9_few 11 = .ok (.bipush (-101), 2) := by decide +kernel
theorem dX9_few_13 : decode cX9_few 13 = .ok (.ireturn, 1) := by decide +kernel
theorem dX9_few_14 : decode cX9_few 14 = .ok (.iload_n 2, 1) := by decide +kernel
theorem dX9_few_15 : decode cX9_few 15 = .ok (.ifCond .eq 13, 3) := by decide +kernel
theorem dX9_few_18 : decode cX9_few 18 = .ok (.iload_n 2, 1) := by decide +kernel
theorem dX9_few_19 : decode cX9_few 19 = .ok (.invokestatic 188, 3) := by decide +kernel
theorem dX9_few_22 : decode cX9_few 22 = .ok (.ifCond .ne 6, 3) := by decide +kernel
theorem dX9_few_25 : decode cX9_few 25 = .ok (.bipush (-102), 2) := by decide +kernel
theorem dX9_few_27 : decode cX9_few 27 = .ok (.ireturn, 1) := by decide +kernel
theorem dX9_few_28 : decode cX9_few 28 = .ok (.aload_n 0, 1) := by decide +kernel
theorem dX9_few_29 : decode cX9_few 29 = .ok (.getfield 76, 3) := by decide +kernel
theorem dX9_few_32 : decode cX9_few 32 = .ok (.bipush 12, 2) := by decide +kernel
theorem dX9_few_34 : decode cX9_few 34 = .ok (.if_icmp .lt 6, 3) := by decide +kernel
theorem dX9_few_37 : decode cX9_few 37 = .ok (.bipush (-103), 2) := by decide +kernel
theorem dX9_few_39 : decode cX9_few 39 = .ok (.ireturn, 1) := by decide +kernel
theorem dX9_few_40 : decode cX9_few 40 = .ok (.aload_n 0, 1) := by decide +kernel
theorem dX9_few_41 : decode cX9_few 41 = .ok (.dup, 1) := by decide +kernel
theorem dX9_few_42 : decode cX9_few 42 = .ok (.getfield 76, 3) := by decide +kernel
theorem dX9_few_45 : decode cX9_few 45 = .ok (.iconst 1, 1) := by decide +kernel
theorem dX9_few_46 : decode cX9_few 46 = .ok (.iadd, 1) := by decide +kernel
theorem dX9_few_47 : decode cX9_few 47 = .ok (.putfield 76, 3) := by decide +kernel
theorem dX9_few_50 : decode cX9_few 50 = .ok (.aload_n 0, 1) := by decide +kernel
theorem dX9_few_51 : decode cX9_few 51 = .ok (.getfield 43, 3) := by decide +kernel
theorem dX9_few_54 : decode cX9_few 54 = .ok (.aload_n 0, 1) := by decide +kernel
theorem dX9_few_55 : decode cX9_few 55 = .ok (.getfield 26, 3) := by decide +kernel
theorem dX9_few_58 : decode cX9_few 58 = .ok (.iload_n 1, 1) := by decide +kernel
theorem dX9_few_59 : decode cX9_few 59 = .ok (.invokevirtual 197, 3) := by decide +kernel
theorem dX9_few_62 : decode cX9_few 62 = .ok (.aload_n 0, 1) := by decide +kernel
theorem dX9_few_63 : decode cX9_few 63 = .ok (.getfield 43, 3) := by decide +kernel
theorem dX9_few_66 : decode cX9_few 66 = .ok (.iload_n 2, 1) := by decide +kernel
theorem dX9_few_67 : decode cX9_few 67 = .ok (.invokevirtual 199, 3) := by decide +kernel
theorem dX9_few_70 : decode cX9_few 70 = .ok (.ireturn, 1) := by decide +kernel
theorem dX9_good_0 : decode cX9_good 0 = .ok (.aload_n 0, 1) := by decide +kernel
theorem dX9_good_1 : decode cX9_good 1 = .ok (.getfield 26, 3) := by decide +kernel
theorem dX9_good_4 : decode cX9_good 4 = .ok (.invokevirtual 179, 3) := by decide +kernel
theorem dX9_good_7 : decode cX9_good 7 = .ok (.ifCond .ne 6, 3) := by decide +kernel
theorem dX9_good_10 : decode cX9_good 10 = .ok (.bipush (-103), 2) := by decide +kernel
theorem dX9_good_12 : decode cX9_good 12 = .ok (.ireturn, 1) := by decide +kernel
theorem dX9_good_13 : decode cX9_good 13 = .ok (.aload_n 0, 1) := by decide +kernel
theorem dX9_good_14 : decode cX9_good 14 = .ok (.getfield 26, 3) := by decide +kernel
theorem dX9_good_17 : decode cX9_good 17 = .ok (.getfield 111, 3) := by decide +kernel
theorem dX9_good_20 : decode cX9_good 20 = .ok (.invokevirtual 200, 3) := by decide +kernel
theorem dX9_good_23 : decode cX9_good 23 = .ok (.ireturn, 1) := by decide +kernel
theorem dX9_odds_0 : decode cX9_odds 0 = .ok (.aload_n 0, 1) := by decide +kernel
theorem dX9_odds_1 : decode cX9_odds 1 = .ok (.getfield 26, 3) := by decide +kernel
theorem dX9_odds_4 : decode cX9_odds 4 = .ok (.iload_n 1, 1) := by decide +kernel
theorem dX9_odds_5 : decode cX9_odds 5 = .ok (.invokevirtual 128, 3) := by decide +kernel
theorem dX9_odds_8 : decode cX9_odds 8 = .ok (.ifCond .ne 6, 3) := by decide +kernel
theorem dX9_odds_11 : decode cX9_odds 11 = .ok (.bipush (-101), 2) := by decide +kernel
theorem dX9_odds_13 : decode cX9_odds 13 = .ok (.ireturn, 1) := by decide +kernel
theorem dX9_odds_14 : decode cX9_odds 14 = .ok (.iload_n 2, 1) := by decide +kernel
theorem dX9_odds_15 : decode cX9_odds 15 = .ok (.ifCond .lt 18, 3) := by decide +kernel
theorem dX9_odds_18 : decode cX9_odds 18 = .ok (.iload_n 2, 1) := by decide +kernel
theorem dX9_odds_19 : decode cX9_odds 19 = .ok (.bipush 10, 2) := by decide +kernel
theorem dX9_odds_21 : decode cX9_odds 21 = .ok (.if_icmp .gt 12, 3) := by decide +kernel
theorem dX9_odds_24 : decode cX9_odds 24 = .ok (.iload_n 3, 1) := by decide +kernel
theorem dX9_odds_25 : decode cX9_odds 25 = .ok (.ifCond .lt 8, 3) := by decide +kernel
theorem dX9_odds_28 : decode cX9_odds 28 = .ok (.iload_n 3, 1) := by decide +kernel
theorem dX9_odds_29 : decode cX9_odds 29 = .ok (.iconst 1, 1) := by decide +kernel
theorem dX9_odds_30 : decode cX9_odds 30 = .ok (.if_icmp .le 6, 3) := by decide +kernel
theorem dX9_odds_33 : decode cX9_odds 33 = .ok (.bipush (-102), 2) := by decide +kernel
theorem dX9_odds_35 : decode cX9_odds 35 = .ok (.ireturn, 1) := by decide +kernel
theorem dX9_odds_36 : decode cX9_odds 36 = .ok (.aload_n 0, 1) := by decide +kernel
theorem dX9_odds_37 : decode cX9_odds 37 = .ok (.getfield 50, 3) := by decide +kernel
theorem dX9_odds_40 : decode cX9_odds 40 = .ok (.aload_n 0, 1) := by decide +kernel
theorem dX9_odds_41 : decode cX9_odds 41 = .ok (.getfield 26, 3) := by decide +kernel
theorem dX9_odds_44 : decode cX9_odds 44 = .ok (.iload_n 1, 1) := by decide +kernel
theorem dX9_odds_45 : decode cX9_odds 45 = .ok (.iload_n 2, 1) := by decide +kernel
theorem dX9_odds_46 : decode cX9_odds 46 = .ok (.invokevirtual 204, 3) := by decide +kernel
theorem dX9_odds_49 : decode cX9_odds 49 = .ok (.iload_n 3, 1) := by decide +kernel
theorem dX9_odds_50 : decode cX9_odds 50 = .ok (.ifCond .ne 13, 3) := by decide +kernel
theorem dX9_odds_53 : decode cX9_odds 53 = .ok (.aload_n 0, 1) := by decide +kernel
theorem dX9_odds_54 : decode cX9_odds 54 = .ok (.getfield 50, 3) := by decide +kernel
theorem dX9_odds_57 : decode cX9_odds 57 = .ok (.getfield 207, 3) := by decide +kernel
theorem dX9_odds_60 : decode cX9_odds 60 = .ok (.goto 10, 3) := by decide +kernel
theorem dX9_odds_63 : decode cX9_odds 63 = .ok (.aload_n 0, 1) := by decide +kernel
theorem dX9_odds_64 : decode cX9_odds 64 = .ok (.getfield 50, 3) := by decide +kernel
theorem dX9_odds_67 : decode cX9_odds 67 = .ok (.getfield 210, 3) := by decide +kernel
theorem dX9_odds_70 : decode cX9_odds 70 = .ok (.ireturn, 1) := by decide +kernel
theorem dX9_see_0 : decode cX9_see 0 = .ok (.aload_n 0, 1) := by decide +kernel
theorem dX9_see_1 : decode cX9_see 1 = .ok (.getfield 26, 3) := by decide +kernel
theorem dX9_see_4 : decode cX9_see 4 = .ok (.iload_n 1, 1) := by decide +kernel
theorem dX9_see_5 : decode cX9_see 5 = .ok (.invokevirtual 140, 3) := by decide +kernel
theorem dX9_see_8 : decode cX9_see 8 = .ok (.ifCond .ne 6, 3) := by decide +kernel
theorem dX9_see_11 : decode cX9_see 11 = .ok (.bipush (-101), 2) := by decide +kernel
theorem dX9_see_13 : decode cX9_see 13 = .ok (.ireturn, 1) := by decide +kernel
theorem dX9_see_14 : decode cX9_see 14 = .ok (.iload_n 2, 1) := by decide +kernel
theorem dX9_see_15 : decode cX9_see 15 = .ok (.invokestatic 213, 3) := by decide +kernel
theorem dX9_see_18 : decode cX9_see 18 = .ok (.ifCond .ne 6, 3) := by decide +kernel
theorem dX9_see_21 : decode cX9_see 21 = .ok (.bipush (-102), 2) := by decide +kernel
theorem dX9_see_23 : decode cX9_see 23 = .ok (.ireturn, 1) := by decide +kernel
theorem dX9_see_24 : decode cX9_see 24 = .ok (.aload_n 0, 1) := by decide +kernel
theorem dX9_see_25 : decode cX9_see 25 = .ok (.getfield 26, 3) := by decide +kernel
theorem dX9_see_28 : decode cX9_see 28 = .ok (.iload_n 1, 1) := by decide +kernel
theorem dX9_see_29 : decode cX9_see 29 = .ok (.iload_n 2, 1) := by decide +kernel
theorem dX9_see_30 : decode cX9_see 30 = .ok (.invokevirtual 216, 3) := by decide +kernel
theorem dX9_see_33 : decode cX9_see 33 = .ok (.ifCond .eq 13, 3) := by decide +kernel
theorem dX9_see_36 : decode cX9_see 36 = .ok (.aload_n 0, 1) := by decide +kernel
theorem dX9_see_37 : decode cX9_see 37 = .ok (.getfield 26, 3) := by decide +kernel
theorem dX9_see_40 : decode cX9_see 40 = .ok (.getfield 219, 3) := by decide +kernel
theorem dX9_see_43 : decode cX9_see 43 = .ok (.goto 5, 3) := by decide +kernel
theorem dX9_see_46 : decode cX9_see 46 = .ok (.bipush (-104), 2) := by decide +kernel
theorem dX9_see_48 : decode cX9_see 48 = .ok (.ireturn, 1) := by decide +kernel
theorem dX9_forget_0 : decode cX9_forget 0 = .ok (.aload_n 0, 1) := by decide +kernel
theorem dX9_forget_1 : decode cX9_forget 1 = .ok (.getfield 26, 3) := by decide +kernel
theorem dX9_forget_4 : decode cX9_forget 4 = .ok (.getfield 219, 3) := by decide +kernel
theorem dX9_forget_7 : decode cX9_forget 7 = .ok (.istore_n 1, 1) := by decide +kernel
theorem dX9_forget_8 : decode cX9_forget 8 = .ok (.aload_n 0, 1) := by decide +kernel
theorem dX9_forget_9 : decode cX9_forget 9 = .ok (.getfield 26, 3) := by decide +kernel
theorem dX9_forget_12 : decode cX9_forget 12 = .ok (.iconst 0, 1) := by decide +kernel
theorem dX9_forget_13 : decode cX9_forget 13 = .ok (.putfield 219, 3) := by decide +kernel
theorem dX9_forget_16 : decode cX9_forget 16 = .ok (.iload_n 1, 1) := by decide +kernel
theorem dX9_forget_17 : decode cX9_forget 17 = .ok (.ireturn, 1) := by decide +kernel
theorem dX9_send_0 : decode cX9_send 0 = .ok (.aload_n 0, 1) := by decide +kernel
theorem dX9_send_1 : decode cX9_send 1 = .ok (.getfield 26, 3) := by decide +kernel
theorem dX9_send_4 : decode cX9_send 4 = .ok (.invokevirtual 179, 3) := by decide +kernel
theorem dX9_send_7 : decode cX9_send 7 = .ok (.ifCond .ne 6, 3) := by decide +kernel
theorem dX9_send_10 : decode cX9_send 10 = .ok (.bipush (-103), 2) := by decide +kernel
theorem dX9_send_12 : decode cX9_send 12 = .ok (.ireturn, 1) := by decide +kernel
theorem dX9_send_13 : decode cX9_send 13 = .ok (.aload_n 0, 1) := by decide +kernel
theorem dX9_send_14 : decode cX9_send 14 = .ok (.getfield 57, 3) := by decide +kernel
theorem dX9_send_17 : decode cX9_send 17 = .ok (.aload_n 0, 1) := by decide +kernel
theorem dX9_send_18 : decode cX9_send 18 = .ok (.getfield 26, 3) := by decide +kernel
theorem dX9_send_21 : decode cX9_send 21 = .ok (.invokevirtual 222, 3) := by decide +kernel
theorem dX9_send_24 : decode cX9_send 24 = .ok (.ireturn, 1) := by decide +kernel
theorem dX9_seasons_0 : decode cX9_seasons 0 = .ok (.iload_n 1, 1) := by decide +kernel
theorem dX9_seasons_1 : decode cX9_seasons 1 = .ok (.iconst 1, 1) := by decide +kernel
theorem dX9_seasons_2 : decode cX9_seasons 2 = .ok (.if_icmp .lt 22, 3) := by decide +kernel
theorem dX9_seasons_5 : decode cX9_seasons 5 = .ok (.iload_n 1, 1) := by decide +kernel
theorem dX9_seasons_6 : decode cX9_seasons 6 = .ok (.bipush 60, 2) := by decide +kernel
theorem dX9_seasons_8 : decode cX9_seasons 8 = .ok (.if_icmp .gt 16, 3) := by decide +kernel
theorem dX9_seasons_11 : decode cX9_seasons 11 = .ok (.iload_n 2, 1) := by decide +kernel
theorem dX9_seasons_12 : decode cX9_seasons 12 = .ok (.ifCond .lt 12, 3) := by decide +kernel
theorem dX9_seasons_15 : decode cX9_seasons 15 = .ok (.iload_n 3, 1) := by decide +kernel
theorem dX9_seasons_16 : decode cX9_seasons 16 = .ok (.ifCond .lt 8, 3) := by decide +kernel
theorem dX9_seasons_19 : decode cX9_seasons 19 = .ok (.iload_n 3, 1) := by decide +kernel
theorem dX9_seasons_20 : decode cX9_seasons 20 = .ok (.iconst 2, 1) := by decide +kernel
theorem dX9_seasons_21 : decode cX9_seasons 21 = .ok (.if_icmp .le 6, 3) := by decide +kernel
theorem dX9_seasons_24 : decode cX9_seasons 24 = .ok (.bipush (-102), 2) := by decide +kernel
theorem dX9_seasons_26 : decode cX9_seasons 26 = .ok (.ireturn, 1) := by decide +kernel
theorem dX9_seasons_27 : decode cX9_seasons 27 = .ok (.aload_n 0, 1) := by decide +kernel
theorem dX9_seasons_28 : decode cX9_seasons 28 = .ok (.getfield 26, 3) := by decide +kernel
theorem dX9_seasons_31 : decode cX9_seasons 31 = .ok (.invokevirtual 179, 3) := by decide +kernel
theorem dX9_seasons_34 : decode cX9_seasons 34 = .ok (.ifCond .ne 6, 3) := by decide +kernel
theorem dX9_seasons_37 : decode cX9_seasons 37 = .ok (.bipush (-103), 2) := by decide +kernel
theorem dX9_seasons_39 : decode cX9_seasons 39 = .ok (.ireturn, 1) := by decide +kernel
theorem dX9_seasons_40 : decode cX9_seasons 40 = .ok (.aload_n 0, 1) := by decide +kernel
theorem dX9_seasons_41 : decode cX9_seasons 41 = .ok (.getfield 64, 3) := by decide +kernel
theorem dX9_seasons_44 : decode cX9_seasons 44 = .ok (.aload_n 0, 1) := by decide +kernel
theorem dX9_seasons_45 : decode cX9_seasons 45 = .ok (.getfield 26, 3) := by decide +kernel
theorem dX9_seasons_48 : decode cX9_seasons 48 = .ok (.iload_n 1, 1) := by decide +kernel
theorem dX9_seasons_49 : decode cX9_seasons 49 = .ok (.iload_n 2, 1) := by decide +kernel
theorem dX9_seasons_50 : decode cX9_seasons 50 = .ok (.invokevirtual 226, 3) := by decide +kernel
theorem dX9_seasons_53 : decode cX9_seasons 53 = .ok (.iload_n 3, 1) := by decide +kernel
theorem dX9_seasons_54 : decode cX9_seasons 54 = .ok (.lookupswitch 45 #[(0, 26), (1, 34)], 26) := by decide +kernel
theorem dX9_seasons_80 : decode cX9_seasons 80 = .ok (.aload_n 0, 1) := by decide +kernel
theorem dX9_seasons_81 : decode cX9_seasons 81 = .ok (.getfield 64, 3) := by decide +kernel
theorem dX9_seasons_84 : decode cX9_seasons 84 = .ok (.getfield 229, 3) := by decide +kernel
theorem dX9_seasons_87 : decode cX9_seasons 87 = .ok (.ireturn, 1) := by decide +kernel
theorem dX9_seasons_88 : decode cX9_seasons 88 = .ok (.aload_n 0, 1) := by decide +kernel
theorem dX9_seasons_89 : decode cX9_seasons 89 = .ok (.getfield 64, 3) := by decide +kernel
theorem dX9_seasons_92 : decode cX9_seasons 92 = .ok (.getfield 232, 3) := by decide +kernel
theorem dX9_seasons_95 : decode cX9_seasons 95 = .ok (.getfield 115, 3) := by decide +kernel
theorem dX9_seasons_98 : decode cX9_seasons 98 = .ok (.ireturn, 1) := by decide +kernel
theorem dX9_seasons_99 : decode cX9_seasons 99 = .ok (.aload_n 0, 1) := by decide +kernel
theorem dX9_seasons_100 : decode cX9_seasons 100 = .ok (.getfield 64, 3) := by decide +kernel
theorem dX9_seasons_103 : decode cX9_seasons 103 = .ok (.getfield 233, 3) := by decide +kernel
theorem dX9_seasons_106 : decode cX9_seasons 106 = .ok (.ireturn, 1) := by decide +kernel
theorem dX9_image_0 : decode cX9_image 0 = .ok (.aload_n 0, 1) := by decide +kernel
theorem dX9_image_1 : decode cX9_image 1 = .ok (.getfield 26, 3) := by decide +kernel
theorem dX9_image_4 : decode cX9_image 4 = .ok (.invokevirtual 179, 3) := by decide +kernel
theorem dX9_image_7 : decode cX9_image 7 = .ok (.ifCond .ne 6, 3) := by decide +kernel
theorem dX9_image_10 : decode cX9_image 10 = .ok (.bipush (-103), 2) := by decide +kernel
theorem dX9_image_12 : decode cX9_image 12 = .ok (.ireturn, 1) := by decide +kernel
theorem dX9_image_13 : decode cX9_image 13 = .ok (.aload_n 0, 1) := by decide +kernel
theorem dX9_image_14 : decode cX9_image 14 = .ok (.getfield 30, 3) := by decide +kernel
theorem dX9_image_17 : decode cX9_image 17 = .ok (.aload_n 0, 1) := by decide +kernel
theorem dX9_image_18 : decode cX9_image 18 = .ok (.getfield 26, 3) := by decide +kernel
theorem dX9_image_21 : decode cX9_image 21 = .ok (.invokevirtual 97, 3) := by decide +kernel
theorem dX9_image_24 : decode cX9_image 24 = .ok (.aload_n 0, 1) := by decide +kernel
theorem dX9_image_25 : decode cX9_image 25 = .ok (.iconst 1, 1) := by decide +kernel
theorem dX9_image_26 : decode cX9_image 26 = .ok (.putfield 68, 3) := by decide +kernel
theorem dX9_image_29 : decode cX9_image 29 = .ok (.aload_n 0, 1) := by decide +kernel
theorem dX9_image_30 : decode cX9_image 30 = .ok (.getfield 26, 3) := by decide +kernel
theorem dX9_image_33 : decode cX9_image 33 = .ok (.getfield 172, 3) := by decide +kernel
theorem dX9_image_36 : decode cX9_image 36 = .ok (.ireturn, 1) := by decide +kernel
theorem dX9_restore_0 : decode cX9_restore 0 = .ok (.aload_n 0, 1) := by decide +kernel
theorem dX9_restore_1 : decode cX9_restore 1 = .ok (.getfield 68, 3) := by decide +kernel
theorem dX9_restore_4 : decode cX9_restore 4 = .ok (.ifCond .ne 6, 3) := by decide +kernel
theorem dX9_restore_7 : decode cX9_restore 7 = .ok (.bipush (-103), 2) := by decide +kernel
theorem dX9_restore_9 : decode cX9_restore 9 = .ok (.ireturn, 1) := by decide +kernel
theorem dX9_restore_10 : decode cX9_restore 10 = .ok (.aload_n 0, 1) := by decide +kernel
theorem dX9_restore_11 : decode cX9_restore 11 = .ok (.getfield 26, 3) := by decide +kernel
theorem dX9_restore_14 : decode cX9_restore 14 = .ok (.aload_n 0, 1) := by decide +kernel
theorem dX9_restore_15 : decode cX9_restore 15 = .ok (.getfield 30, 3) := by decide +kernel
theorem dX9_restore_18 : decode cX9_restore 18 = .ok (.invokevirtual 97, 3) := by decide +kernel
theorem dX9_restore_21 : decode cX9_restore 21 = .ok (.aload_n 0, 1) := by decide +kernel
theorem dX9_restore_22 : decode cX9_restore 22 = .ok (.getfield 26, 3) := by decide +kernel
theorem dX9_restore_25 : decode cX9_restore 25 = .ok (.getfield 172, 3) := by decide +kernel
theorem dX9_restore_28 : decode cX9_restore 28 = .ok (.ireturn, 1) := by decide +kernel
theorem dX9_count_0 : decode cX9_count 0 = .ok (.iload_n 1, 1) := by decide +kernel
theorem dX9_count_1 : decode cX9_count 1 = .ok (.tableswitch 202 0 12 #[67, 75, 83, 91, 102, 113, 132, 150, 168, 176, 184, 192, 197], 67) := by decide +kernel
theorem dX9_count_68 : decode cX9_count 68 = .ok (.aload_n 0, 1) := by decide +kernel
theorem dX9_count_69 : decode cX9_count 69 = .ok (.getfield 26, 3) := by decide +kernel
theorem dX9_count_72 : decode cX9_count 72 = .ok (.getfield 236, 3) := by decide +kernel
theorem dX9_count_75 : decode cX9_count 75 = .ok (.ireturn, 1) := by decide +kernel
theorem dX9_count_76 : decode cX9_count 76 = .ok (.aload_n 0, 1) := by decide +kernel
theorem dX9_count_77 : decode cX9_count 77 = .ok (.getfield 26, 3) := by decide +kernel
theorem dX9_count_80 : decode cX9_count 80 = .ok (.getfield 239, 3) := by decide +kernel
theorem dX9_count_83 : decode cX9_count 83 = .ok (.ireturn, 1) := by decide +kernel
theorem dX9_count_84 : decode cX9_count 84 = .ok (.aload_n 0, 1) := by decide +kernel
theorem dX9_count_85 : decode cX9_count 85 = .ok (.getfield 26, 3) := by decide +kernel
theorem dX9_count_88 : decode cX9_count 88 = .ok (.getfield 101, 3) := by decide +kernel
theorem dX9_count_91 : decode cX9_count 91 = .ok (.ireturn, 1) := by decide +kernel
theorem dX9_count_92 : decode cX9_count 92 = .ok (.aload_n 0, 1) := by decide +kernel
theorem dX9_count_93 : decode cX9_count 93 = .ok (.getfield 26, 3) := by decide +kernel
theorem dX9_count_96 : decode cX9_count 96 = .ok (.getfield 111, 3) := by decide +kernel
theorem dX9_count_99 : decode cX9_count 99 = .ok (.getfield 115, 3) := by decide +kernel
theorem dX9_count_102 : decode cX9_count 102 = .ok (.ireturn, 1) := by decide +kernel
theorem dX9_count_103 : decode cX9_count 103 = .ok (.aload_n 0, 1) := by decide +kernel
theorem dX9_count_104 : decode cX9_count 104 = .ok (.getfield 26, 3) := by decide +kernel
theorem dX9_count_107 : decode cX9_count 107 = .ok (.getfield 111, 3) := by decide +kernel
theorem dX9_count_110 : decode cX9_count 110 = .ok (.getfield 153, 3) := by decide +kernel
theorem dX9_count_113 : decode cX9_count 113 = .ok (.ireturn, 1) := by decide +kernel
theorem dX9_count_114 : decode cX9_count 114 = .ok (.aload_n 0, 1) := by decide +kernel
theorem dX9_count_115 : decode cX9_count 115 = .ok (.getfield 26, 3) := by decide +kernel
theorem dX9_count_118 : decode cX9_count 118 = .ok (.getfield 111, 3) := by decide +kernel
theorem dX9_count_121 : decode cX9_count 121 = .ok (.getfield 242, 3) := by decide +kernel
theorem dX9_count_124 : decode cX9_count 124 = .ok (.ifCond .eq 7, 3) := by decide +kernel
theorem dX9_count_127 : decode cX9_count 127 = .ok (.iconst 1, 1) := by decide +kernel
theorem dX9_count_128 : decode cX9_count 128 = .ok (.goto 4, 3) := by decide +kernel
theorem dX9_count_131 : decode cX9_count 131 = .ok (.iconst 0, 1) := by decide +kernel
theorem dX9_count_132 : decode cX9_count 132 = .ok (.ireturn, 1) := by decide +kernel
theorem dX9_count_133 : decode cX9_count 133 = .ok (.aload_n 0, 1) := by decide +kernel
theorem dX9_count_134 : decode cX9_count 134 = .ok (.getfield 26, 3) := by decide +kernel
theorem dX9_count_137 : decode cX9_count 137 = .ok (.aload_n 0, 1) := by decide +kernel
theorem dX9_count_138 : decode cX9_count 138 = .ok (.getfield 26, 3) := by decide +kernel
theorem dX9_count_141 : decode cX9_count 141 = .ok (.getfield 111, 3) := by decide +kernel
theorem dX9_count_144 : decode cX9_count 144 = .ok (.getfield 115, 3) := by decide +kernel
theorem dX9_count_147 : decode cX9_count 147 = .ok (.invokevirtual 245, 3) := by decide +kernel
theorem dX9_count_150 : decode cX9_count 150 = .ok (.ireturn, 1) := by decide +kernel
theorem dX9_count_151 : decode cX9_count 151 = .ok (.aload_n 0, 1) := by decide +kernel
theorem dX9_count_152 : decode cX9_count 152 = .ok (.getfield 26, 3) := by decide +kernel
theorem dX9_count_155 : decode cX9_count 155 = .ok (.aload_n 0, 1) := by decide +kernel
theorem dX9_count_156 : decode cX9_count 156 = .ok (.getfield 26, 3) := by decide +kernel
theorem dX9_count_159 : decode cX9_count 159 = .ok (.getfield 111, 3) := by decide +kernel
theorem dX9_count_162 : decode cX9_count 162 = .ok (.getfield 115, 3) := by decide +kernel
theorem dX9_count_165 : decode cX9_count 165 = .ok (.invokevirtual 248, 3) := by decide +kernel
theorem dX9_count_168 : decode cX9_count 168 = .ok (.ireturn, 1) := by decide +kernel
theorem dX9_count_169 : decode cX9_count 169 = .ok (.aload_n 0, 1) := by decide +kernel
theorem dX9_count_170 : decode cX9_count 170 = .ok (.getfield 26, 3) := by decide +kernel
theorem dX9_count_173 : decode cX9_count 173 = .ok (.getfield 172, 3) := by decide +kernel
theorem dX9_count_176 : decode cX9_count 176 = .ok (.ireturn, 1) := by decide +kernel
theorem dX9_count_177 : decode cX9_count 177 = .ok (.aload_n 0, 1) := by decide +kernel
theorem dX9_count_178 : decode cX9_count 178 = .ok (.getfield 26, 3) := by decide +kernel
theorem dX9_count_181 : decode cX9_count 181 = .ok (.getfield 219, 3) := by decide +kernel
theorem dX9_count_184 : decode cX9_count 184 = .ok (.ireturn, 1) := by decide +kernel
theorem dX9_count_185 : decode cX9_count 185 = .ok (.aload_n 0, 1) := by decide +kernel
theorem dX9_count_186 : decode cX9_count 186 = .ok (.getfield 10, 3) := by decide +kernel
theorem dX9_count_189 : decode cX9_count 189 = .ok (.getfield 83, 3) := by decide +kernel
theorem dX9_count_192 : decode cX9_count 192 = .ok (.ireturn, 1) := by decide +kernel
theorem dX9_count_193 : decode cX9_count 193 = .ok (.aload_n 0, 1) := by decide +kernel
theorem dX9_count_194 : decode cX9_count 194 = .ok (.getfield 72, 3) := by decide +kernel
theorem dX9_count_197 : decode cX9_count 197 = .ok (.ireturn, 1) := by decide +kernel
theorem dX9_count_198 : decode cX9_count 198 = .ok (.aload_n 0, 1) := by decide +kernel
theorem dX9_count_199 : decode cX9_count 199 = .ok (.getfield 76, 3) := by decide +kernel
theorem dX9_count_202 : decode cX9_count 202 = .ok (.ireturn, 1) := by decide +kernel
theorem dX9_count_203 : decode cX9_count 203 = .ok (.bipush (-102), 2) := by decide +kernel
theorem dX9_count_205 : decode cX9_count 205 = .ok (.ireturn, 1) := by decide +kernel
theorem dX9_digest_0 : decode cX9_digest 0 = .ok (.aload_n 0, 1) := by decide +kernel
theorem dX9_digest_1 : decode cX9_digest 1 = .ok (.aload_n 0, 1) := by decide +kernel
theorem dX9_digest_2 : decode cX9_digest 2 = .ok (.aload_n 0, 1) := by decide +kernel
theorem dX9_digest_3 : decode cX9_digest 3 = .ok (.ldc2_w 251, 3) := by decide +kernel
theorem dX9_digest_6 : decode cX9_digest 6 = .ok (.invokevirtual 253, 3) := by decide +kernel
theorem dX9_digest_9 : decode cX9_digest 9 = .ok (.invokevirtual 257, 3) := by decide +kernel
theorem dX9_digest_12 : decode cX9_digest 12 = .ok (.invokevirtual 260, 3) := by decide +kernel
theorem dX9_digest_15 : decode cX9_digest 15 = .ok (.lstore_n 1, 1) := by decide +kernel
theorem dX9_digest_16 : decode cX9_digest 16 = .ok (.aload_n 0, 1) := by decide +kernel
theorem dX9_digest_17 : decode cX9_digest 17 = .ok (.getfield 26, 3) := by decide +kernel
theorem dX9_digest_20 : decode cX9_digest 20 = .ok (.invokevirtual 179, 3) := by decide +kernel
theorem dX9_digest_23 : decode cX9_digest 23 = .ok (.ifCond .eq 25, 3) := by decide +kernel
theorem dX9_digest_26 : decode cX9_digest 26 = .ok (.aload_n 0, 1) := by decide +kernel
theorem dX9_digest_27 : decode cX9_digest 27 = .ok (.lload_n 1, 1) := by decide +kernel
theorem dX9_digest_28 : decode cX9_digest 28 = .ok (.invokevirtual 263, 3) := by decide +kernel
theorem dX9_digest_31 : decode cX9_digest 31 = .ok (.aload_n 0, 1) := by decide +kernel
theorem dX9_digest_32 : decode cX9_digest 32 = .ok (.invokevirtual 266, 3) := by decide +kernel
theorem dX9_digest_35 : decode cX9_digest 35 = .ok (.i2l, 1) := by decide +kernel
theorem dX9_digest_36 : decode cX9_digest 36 = .ok (.invokestatic 269, 3) := by decide +kernel
theorem dX9_digest_39 : decode cX9_digest 39 = .ok (.aload_n 0, 1) := by decide +kernel
theorem dX9_digest_40 : decode cX9_digest 40 = .ok (.invokevirtual 273, 3) := by decide +kernel
theorem dX9_digest_43 : decode cX9_digest 43 = .ok (.i2l, 1) := by decide +kernel
theorem dX9_digest_44 : decode cX9_digest 44 = .ok (.invokestatic 269, 3) := by decide +kernel
theorem dX9_digest_47 : decode cX9_digest 47 = .ok (.lstore_n 1, 1) := by decide +kernel
theorem dX9_digest_48 : decode cX9_digest 48 = .ok (.iconst 0, 1) := by decide +kernel
theorem dX9_digest_49 : decode cX9_digest 49 = .ok (.istore_n 3, 1) := by decide +kernel
theorem dX9_digest_50 : decode cX9_digest 50 = .ok (.iload_n 3, 1) := by decide +kernel
theorem dX9_digest_51 : decode cX9_digest 51 = .ok (.aload_n 0, 1) := by decide +kernel
theorem dX9_digest_52 : decode cX9_digest 52 = .ok (.getfield 10, 3) := by decide +kernel
theorem dX9_digest_55 : decode cX9_digest 55 = .ok (.getfield 83, 3) := by decide +kernel
theorem dX9_digest_58 : decode cX9_digest 58 = .ok (.if_icmp .ge 24, 3) := by decide +kernel
theorem dX9_digest_61 : decode cX9_digest 61 = .ok (.lload_n 1, 1) := by decide +kernel
theorem dX9_digest_62 : decode cX9_digest 62 = .ok (.aload_n 0, 1) := by decide +kernel
theorem dX9_digest_63 : decode cX9_digest 63 = .ok (.getfield 10, 3) := by decide +kernel
theorem dX9_digest_66 : decode cX9_digest 66 = .ok (.getfield 276, 3) := by decide +kernel
theorem dX9_digest_69 : decode cX9_digest 69 = .ok (.iload_n 3, 1) := by decide +kernel
theorem dX9_digest_70 : decode cX9_digest 70 = .ok (.iaload, 1) := by decide +kernel
theorem dX9_digest_71 : decode cX9_digest 71 = .ok (.i2l, 1) := by decide +kernel
theorem dX9_digest_72 : decode cX9_digest 72 = .ok (.invokestatic 269, 3) := by decide +kernel
theorem dX9_digest_75 : decode cX9_digest 75 = .ok (.lstore_n 1, 1) := by decide +kernel
theorem dX9_digest_76 : decode cX9_digest 76 = .ok (.iinc 3 1, 3) := by decide +kernel
theorem dX9_digest_79 : decode cX9_digest 79 = .ok (.goto (-29), 3) := by decide +kernel
theorem dX9_digest_82 : decode cX9_digest 82 = .ok (.iconst 0, 1) := by decide +kernel
theorem dX9_digest_83 : decode cX9_digest 83 = .ok (.istore_n 3, 1) := by decide +kernel
theorem dX9_digest_84 : decode cX9_digest 84 = .ok (.iload_n 3, 1) := by decide +kernel
theorem dX9_digest_85 : decode cX9_digest 85 = .ok (.bipush 12, 2) := by decide +kernel
theorem dX9_digest_87 : decode cX9_digest 87 = .ok (.if_icmp .gt 20, 3) := by decide +kernel
theorem dX9_digest_90 : decode cX9_digest 90 = .ok (.lload_n 1, 1) := by decide +kernel
theorem dX9_digest_91 : decode cX9_digest 91 = .ok (.aload_n 0, 1) := by decide +kernel
theorem dX9_digest_92 : decode cX9_digest 92 = .ok (.iload_n 3, 1) := by decide +kernel
theorem dX9_digest_93 : decode cX9_digest 93 = .ok (.invokevirtual 279, 3) := by decide +kernel
theorem dX9_digest_96 : decode cX9_digest 96 = .ok (.i2l, 1) := by decide +kernel
theorem dX9_digest_97 : decode cX9_digest 97 = .ok (.invokestatic 269, 3) := by decide +kernel
theorem dX9_digest_100 : decode cX9_digest 100 = .ok (.lstore_n 1, 1) := by decide +kernel
theorem dX9_digest_101 : decode cX9_digest 101 = .ok (.iinc 3 1, 3) := by decide +kernel
theorem dX9_digest_104 : decode cX9_digest 104 = .ok (.goto (-20), 3) := by decide +kernel
theorem dX9_digest_107 : decode cX9_digest 107 = .ok (.lload_n 1, 1) := by decide +kernel
theorem dX9_digest_108 : decode cX9_digest 108 = .ok (.lreturn, 1) := by decide +kernel
theorem dX9_mixSands_0 : decode cX9_mixSands 0 = .ok (.lload_n 1, 1) := by decide +kernel
theorem dX9_mixSands_1 : decode cX9_mixSands 1 = .ok (.lstore_n 3, 1) := by decide +kernel
theorem dX9_mixSands_2 : decode cX9_mixSands 2 = .ok (.iconst 0, 1) := by decide +kernel
theorem dX9_mixSands_3 : decode cX9_mixSands 3 = .ok (.istore 5, 2) := by decide +kernel
theorem dX9_mixSands_5 : decode cX9_mixSands 5 = .ok (.iload 5, 2) := by decide +kernel
theorem dX9_mixSands_7 : decode cX9_mixSands 7 = .ok (.aload_n 0, 1) := by decide +kernel
theorem dX9_mixSands_8 : decode cX9_mixSands 8 = .ok (.getfield 26, 3) := by decide +kernel
theorem dX9_mixSands_11 : decode cX9_mixSands 11 = .ok (.getfield 236, 3) := by decide +kernel
theorem dX9_mixSands_14 : decode cX9_mixSands 14 = .ok (.if_icmp .ge 38, 3) := by decide +kernel
theorem dX9_mixSands_17 : decode cX9_mixSands 17 = .ok (.iconst 0, 1) := by decide +kernel
theorem dX9_mixSands_18 : decode cX9_mixSands 18 = .ok (.istore 6, 2) := by decide +kernel
theorem dX9_mixSands_20 : decode cX9_mixSands 20 = .ok (.iload 6, 2) := by decide +kernel
theorem dX9_mixSands_22 : decode cX9_mixSands 22 = .ok (.iconst 2, 1) := by decide +kernel
theorem dX9_mixSands_23 : decode cX9_mixSands 23 = .ok (.if_icmp .gt 23, 3) := by decide +kernel
theorem dX9_mixSands_26 : decode cX9_mixSands 26 = .ok (.lload_n 3, 1) := by decide +kernel
theorem dX9_mixSands_27 : decode cX9_mixSands 27 = .ok (.aload_n 0, 1) := by decide +kernel
theorem dX9_mixSands_28 : decode cX9_mixSands 28 = .ok (.iload 5, 2) := by decide +kernel
theorem dX9_mixSands_30 : decode cX9_mixSands 30 = .ok (.iload 6, 2) := by decide +kernel
theorem dX9_mixSands_32 : decode cX9_mixSands 32 = .ok (.invokevirtual 282, 3) := by decide +kernel
theorem dX9_mixSands_35 : decode cX9_mixSands 35 = .ok (.i2l, 1) := by decide +kernel
theorem dX9_mixSands_36 : decode cX9_mixSands 36 = .ok (.invokestatic 269, 3) := by decide +kernel
theorem dX9_mixSands_39 : decode cX9_mixSands 39 = .ok (.lstore_n 3, 1) := by decide +kernel
theorem dX9_mixSands_40 : decode cX9_mixSands 40 = .ok (.iinc 6 1, 3) := by decide +kernel
theorem dX9_mixSands_43 : decode cX9_mixSands 43 = .ok (.goto (-23), 3) := by decide +kernel
theorem dX9_mixSands_46 : decode cX9_mixSands 46 = .ok (.iinc 5 1, 3) := by decide +kernel
theorem dX9_mixSands_49 : decode cX9_mixSands 49 = .ok (.goto (-44), 3) := by decide +kernel
theorem dX9_mixSands_52 : decode cX9_mixSands 52 = .ok (.lload_n 3, 1) := by decide +kernel
theorem dX9_mixSands_53 : decode cX9_mixSands 53 = .ok (.lreturn, 1) := by decide +kernel
theorem dX9_mixBoats_0 : decode cX9_mixBoats 0 = .ok (.lload_n 1, 1) := by decide +kernel
theorem dX9_mixBoats_1 : decode cX9_mixBoats 1 = .ok (.lstore_n 3, 1) := by decide +kernel
theorem dX9_mixBoats_2 : decode cX9_mixBoats 2 = .ok (.iconst 0, 1) := by decide +kernel
theorem dX9_mixBoats_3 : decode cX9_mixBoats 3 = .ok (.istore 5, 2) := by decide +kernel
theorem dX9_mixBoats_5 : decode cX9_mixBoats 5 = .ok (.iload 5, 2) := by decide +kernel
theorem dX9_mixBoats_7 : decode cX9_mixBoats 7 = .ok (.aload_n 0, 1) := by decide +kernel
theorem dX9_mixBoats_8 : decode cX9_mixBoats 8 = .ok (.getfield 26, 3) := by decide +kernel
theorem dX9_mixBoats_11 : decode cX9_mixBoats 11 = .ok (.getfield 239, 3) := by decide +kernel
theorem dX9_mixBoats_14 : decode cX9_mixBoats 14 = .ok (.if_icmp .ge 76, 3) := by decide +kernel
theorem dX9_mixBoats_17 : decode cX9_mixBoats 17 = .ok (.iconst 0, 1) := by decide +kernel
theorem dX9_mixBoats_18 : decode cX9_mixBoats 18 = .ok (.istore 6, 2) := by decide +kernel
theorem dX9_mixBoats_20 : decode cX9_mixBoats 20 = .ok (.iload 6, 2) := by decide +kernel
theorem dX9_mixBoats_22 : decode cX9_mixBoats 22 = .ok (.iconst 3, 1) := by decide +kernel
theorem dX9_mixBoats_23 : decode cX9_mixBoats 23 = .ok (.if_icmp .gt 23, 3) := by decide +kernel
theorem dX9_mixBoats_26 : decode cX9_mixBoats 26 = .ok (.lload_n 3, 1) := by decide +kernel
theorem dX9_mixBoats_27 : decode cX9_mixBoats 27 = .ok (.aload_n 0, 1) := by decide +kernel
theorem dX9_mixBoats_28 : decode cX9_mixBoats 28 = .ok (.iload 5, 2) := by decide +kernel
theorem dX9_mixBoats_30 : decode cX9_mixBoats 30 = .ok (.iload 6, 2) := by decide +kernel
theorem dX9_mixBoats_32 : decode cX9_mixBoats 32 = .ok (.invokevirtual 286, 3) := by decide +kernel
theorem dX9_mixBoats_35 : decode cX9_mixBoats 35 = .ok (.i2l, 1) := by decide +kernel
theorem dX9_mixBoats_36 : decode cX9_mixBoats 36 = .ok (.invokestatic 269, 3) := by decide +kernel
theorem dX9_mixBoats_39 : decode cX9_mixBoats 39 = .ok (.lstore_n 3, 1) := by decide +kernel
theorem dX9_mixBoats_40 : decode cX9_mixBoats 40 = .ok (.iinc 6 1, 3) := by decide +kernel
theorem dX9_mixBoats_43 : decode cX9_mixBoats 43 = .ok (.goto (-23), 3) := by decide +kernel
theorem dX9_mixBoats_46 : decode cX9_mixBoats 46 = .ok (.aload_n 0, 1) := by decide +kernel
theorem dX9_mixBoats_47 : decode cX9_mixBoats 47 = .ok (.getfield 50, 3) := by decide +kernel
theorem dX9_mixBoats_50 : decode cX9_mixBoats 50 = .ok (.aload_n 0, 1) := by decide +kernel
theorem dX9_mixBoats_51 : decode cX9_mixBoats 51 = .ok (.getfield 26, 3) := by decide +kernel
theorem dX9_mixBoats_54 : decode cX9_mixBoats 54 = .ok (.iload 5, 2) := by decide +kernel
theorem dX9_mixBoats_56 : decode cX9_mixBoats 56 = .ok (.iconst 5, 1) := by decide +kernel
theorem dX9_mixBoats_57 : decode cX9_mixBoats 57 = .ok (.invokevirtual 204, 3) := by decide +kernel
theorem dX9_mixBoats_60 : decode cX9_mixBoats 60 = .ok (.lload_n 3, 1) := by decide +kernel
theorem dX9_mixBoats_61 : decode cX9_mixBoats 61 = .ok (.aload_n 0, 1) := by decide +kernel
theorem dX9_mixBoats_62 : decode cX9_mixBoats 62 = .ok (.getfield 50, 3) := by decide +kernel
theorem dX9_mixBoats_65 : decode cX9_mixBoats 65 = .ok (.getfield 207, 3) := by decide +kernel
theorem dX9_mixBoats_68 : decode cX9_mixBoats 68 = .ok (.i2l, 1) := by decide +kernel
theorem dX9_mixBoats_69 : decode cX9_mixBoats 69 = .ok (.invokestatic 269, 3) := by decide +kernel
theorem dX9_mixBoats_72 : decode cX9_mixBoats 72 = .ok (.aload_n 0, 1) := by decide +kernel
theorem dX9_mixBoats_73 : decode cX9_mixBoats 73 = .ok (.getfield 50, 3) := by decide +kernel
theorem dX9_mixBoats_76 : decode cX9_mixBoats 76 = .ok (.getfield 210, 3) := by decide +kernel
theorem dX9_mixBoats_79 : decode cX9_mixBoats 79 = .ok (.i2l, 1) := by decide +kernel
theorem dX9_mixBoats_80 : decode cX9_mixBoats 80 = .ok (.invokestatic 269, 3) := by decide +kernel
theorem dX9_mixBoats_83 : decode cX9_mixBoats 83 = .ok (.lstore_n 3, 1) := by decide +kernel
theorem dX9_mixBoats_84 : decode cX9_mixBoats 84 = .ok (.iinc 5 1, 3) := by decide +kernel
theorem dX9_mixBoats_87 : decode cX9_mixBoats 87 = .ok (.goto (-82), 3) := by decide +kernel
theorem dX9_mixBoats_90 : decode cX9_mixBoats 90 = .ok (.lload_n 3, 1) := by decide +kernel
theorem dX9_mixBoats_91 : decode cX9_mixBoats 91 = .ok (.lreturn, 1) := by decide +kernel
theorem dX9_mixAskers_0 : decode cX9_mixAskers 0 = .ok (.lload_n 1, 1) := by decide +kernel
theorem dX9_mixAskers_1 : decode cX9_mixAskers 1 = .ok (.lstore_n 3, 1) := by decide +kernel
theorem dX9_mixAskers_2 : decode cX9_mixAskers 2 = .ok (.iconst 0, 1) := by decide +kernel
theorem dX9_mixAskers_3 : decode cX9_mixAskers 3 = .ok (.istore 5, 2) := by decide +kernel
theorem dX9_mixAskers_5 : decode cX9_mixAskers 5 = .ok (.iload 5, 2) := by decide +kernel
theorem dX9_mixAskers_7 : decode cX9_mixAskers 7 = .ok (.aload_n 0, 1) := by decide +kernel
theorem dX9_mixAskers_8 : decode cX9_mixAskers 8 = .ok (.getfield 26, 3) := by decide +kernel
theorem dX9_mixAskers_11 : decode cX9_mixAskers 11 = .ok (.getfield 101, 3) := by decide +kernel
theorem dX9_mixAskers_14 : decode cX9_mixAskers 14 = .ok (.if_icmp .ge 38, 3) := by decide +kernel
theorem dX9_mixAskers_17 : decode cX9_mixAskers 17 = .ok (.iconst 0, 1) := by decide +kernel
theorem dX9_mixAskers_18 : decode cX9_mixAskers 18 = .ok (.istore 6, 2) := by decide +kernel
theorem dX9_mixAskers_20 : decode cX9_mixAskers 20 = .ok (.iload 6, 2) := by decide +kernel
theorem dX9_mixAskers_22 : decode cX9_mixAskers 22 = .ok (.iconst 5, 1) := by decide +kernel
theorem dX9_mixAskers_23 : decode cX9_mixAskers 23 = .ok (.if_icmp .gt 23, 3) := by decide +kernel
theorem dX9_mixAskers_26 : decode cX9_mixAskers 26 = .ok (.lload_n 3, 1) := by decide +kernel
theorem dX9_mixAskers_27 : decode cX9_mixAskers 27 = .ok (.aload_n 0, 1) := by decide +kernel
theorem dX9_mixAskers_28 : decode cX9_mixAskers 28 = .ok (.iload 5, 2) := by decide +kernel
theorem dX9_mixAskers_30 : decode cX9_mixAskers 30 = .ok (.iload 6, 2) := by decide +kernel
theorem dX9_mixAskers_32 : decode cX9_mixAskers 32 = .ok (.invokevirtual 289, 3) := by decide +kernel
theorem dX9_mixAskers_35 : decode cX9_mixAskers 35 = .ok (.i2l, 1) := by decide +kernel
theorem dX9_mixAskers_36 : decode cX9_mixAskers 36 = .ok (.invokestatic 269, 3) := by decide +kernel
theorem dX9_mixAskers_39 : decode cX9_mixAskers 39 = .ok (.lstore_n 3, 1) := by decide +kernel
theorem dX9_mixAskers_40 : decode cX9_mixAskers 40 = .ok (.iinc 6 1, 3) := by decide +kernel
theorem dX9_mixAskers_43 : decode cX9_mixAskers 43 = .ok (.goto (-23), 3) := by decide +kernel
theorem dX9_mixAskers_46 : decode cX9_mixAskers 46 = .ok (.iinc 5 1, 3) := by decide +kernel
theorem dX9_mixAskers_49 : decode cX9_mixAskers 49 = .ok (.goto (-44), 3) := by decide +kernel
theorem dX9_mixAskers_52 : decode cX9_mixAskers 52 = .ok (.lload_n 3, 1) := by decide +kernel
theorem dX9_mixAskers_53 : decode cX9_mixAskers 53 = .ok (.lreturn, 1) := by decide +kernel
theorem dX9_mixOrder_0 : decode cX9_mixOrder 0 = .ok (.lload_n 1, 1) := by decide +kernel
theorem dX9_mixOrder_1 : decode cX9_mixOrder 1 = .ok (.lstore_n 3, 1) := by decide +kernel
theorem dX9_mixOrder_2 : decode cX9_mixOrder 2 = .ok (.aload_n 0, 1) := by decide +kernel
theorem dX9_mixOrder_3 : decode cX9_mixOrder 3 = .ok (.getfield 36, 3) := by decide +kernel
theorem dX9_mixOrder_6 : decode cX9_mixOrder 6 = .ok (.aload_n 0, 1) := by decide +kernel
theorem dX9_mixOrder_7 : decode cX9_mixOrder 7 = .ok (.getfield 26, 3) := by decide +kernel
theorem dX9_mixOrder_10 : decode cX9_mixOrder 10 = .ok (.invokevirtual 191, 3) := by decide +kernel
theorem dX9_mixOrder_13 : decode cX9_mixOrder 13 = .ok (.iconst 0, 1) := by decide +kernel
theorem dX9_mixOrder_14 : decode cX9_mixOrder 14 = .ok (.istore 5, 2) := by decide +kernel
theorem dX9_mixOrder_16 : decode cX9_mixOrder 16 = .ok (.iload 5, 2) := by decide +kernel
theorem dX9_mixOrder_18 : decode cX9_mixOrder 18 = .ok (.iconst 2, 1) := by decide +kernel
theorem dX9_mixOrder_19 : decode cX9_mixOrder 19 = .ok (.if_icmp .gt 24, 3) := by decide +kernel
theorem dX9_mixOrder_22 : decode cX9_mixOrder 22 = .ok (.lload_n 3, 1) := by decide +kernel
theorem dX9_mixOrder_23 : decode cX9_mixOrder 23 = .ok (.aload_n 0, 1) := by decide +kernel
theorem dX9_mixOrder_24 : decode cX9_mixOrder 24 = .ok (.getfield 36, 3) := by decide +kernel
theorem dX9_mixOrder_27 : decode cX9_mixOrder 27 = .ok (.iload 5, 2) := by decide +kernel
theorem dX9_mixOrder_29 : decode cX9_mixOrder 29 = .ok (.invokevirtual 194, 3) := by decide +kernel
theorem dX9_mixOrder_32 : decode cX9_mixOrder 32 = .ok (.i2l, 1) := by decide +kernel
theorem dX9_mixOrder_33 : decode cX9_mixOrder 33 = .ok (.invokestatic 269, 3) := by decide +kernel
theorem dX9_mixOrder_36 : decode cX9_mixOrder 36 = .ok (.lstore_n 3, 1) := by decide +kernel
theorem dX9_mixOrder_37 : decode cX9_mixOrder 37 = .ok (.iinc 5 1, 3) := by decide +kernel
theorem dX9_mixOrder_40 : decode cX9_mixOrder 40 = .ok (.goto (-24), 3) := by decide +kernel
theorem dX9_mixOrder_43 : decode cX9_mixOrder 43 = .ok (.bipush 10, 2) := by decide +kernel
theorem dX9_mixOrder_45 : decode cX9_mixOrder 45 = .ok (.istore 5, 2) := by decide +kernel
theorem dX9_mixOrder_47 : decode cX9_mixOrder 47 = .ok (.iload 5, 2) := by decide +kernel
theorem dX9_mixOrder_49 : decode cX9_mixOrder 49 = .ok (.bipush 14, 2) := by decide +kernel
theorem dX9_mixOrder_51 : decode cX9_mixOrder 51 = .ok (.if_icmp .gt 24, 3) := by decide +kernel
theorem dX9_mixOrder_54 : decode cX9_mixOrder 54 = .ok (.lload_n 3, 1) := by decide +kernel
theorem dX9_mixOrder_55 : decode cX9_mixOrder 55 = .ok (.aload_n 0, 1) := by decide +kernel
theorem dX9_mixOrder_56 : decode cX9_mixOrder 56 = .ok (.getfield 36, 3) := by decide +kernel
theorem dX9_mixOrder_59 : decode cX9_mixOrder 59 = .ok (.iload 5, 2) := by decide +kernel
theorem dX9_mixOrder_61 : decode cX9_mixOrder 61 = .ok (.invokevirtual 194, 3) := by decide +kernel
theorem dX9_mixOrder_64 : decode cX9_mixOrder 64 = .ok (.i2l, 1) := by decide +kernel
theorem dX9_mixOrder_65 : decode cX9_mixOrder 65 = .ok (.invokestatic 269, 3) := by decide +kernel
theorem dX9_mixOrder_68 : decode cX9_mixOrder 68 = .ok (.lstore_n 3, 1) := by decide +kernel
theorem dX9_mixOrder_69 : decode cX9_mixOrder 69 = .ok (.iinc 5 1, 3) := by decide +kernel
theorem dX9_mixOrder_72 : decode cX9_mixOrder 72 = .ok (.goto (-25), 3) := by decide +kernel
theorem dX9_mixOrder_75 : decode cX9_mixOrder 75 = .ok (.lload_n 3, 1) := by decide +kernel
theorem dX9_mixOrder_76 : decode cX9_mixOrder 76 = .ok (.lreturn, 1) := by decide +kernel
theorem dX9_mix_0 : decode cX9_mix 0 = .ok (.ldc2_w 292, 3) := by decide +kernel
theorem dX9_mix_3 : decode cX9_mix 3 = .ok (.lload_n 0, 1) := by decide +kernel
theorem dX9_mix_4 : decode cX9_mix 4 = .ok (.lmul, 1) := by decide +kernel
theorem dX9_mix_5 : decode cX9_mix 5 = .ok (.lload_n 2, 1) := by decide +kernel
theorem dX9_mix_6 : decode cX9_mix 6 = .ok (.ladd, 1) := by decide +kernel
theorem dX9_mix_7 : decode cX9_mix 7 = .ok (.lreturn, 1) := by decide +kernel
theorem dX9_isDigit_0 : decode cX9_isDigit 0 = .ok (.iload_n 0, 1) := by decide +kernel
theorem dX9_isDigit_1 : decode cX9_isDigit 1 = .ok (.ifCond .lt 13, 3) := by decide +kernel
theorem dX9_isDigit_4 : decode cX9_isDigit 4 = .ok (.iload_n 0, 1) := by decide +kernel
theorem dX9_isDigit_5 : decode cX9_isDigit 5 = .ok (.bipush 9, 2) := by decide +kernel
theorem dX9_isDigit_7 : decode cX9_isDigit 7 = .ok (.if_icmp .gt 7, 3) := by decide +kernel
theorem dX9_isDigit_10 : decode cX9_isDigit 10 = .ok (.iconst 1, 1) := by decide +kernel
theorem dX9_isDigit_11 : decode cX9_isDigit 11 = .ok (.goto 4, 3) := by decide +kernel
theorem dX9_isDigit_14 : decode cX9_isDigit 14 = .ok (.iconst 0, 1) := by decide +kernel
theorem dX9_isDigit_15 : decode cX9_isDigit 15 = .ok (.ireturn, 1) := by decide +kernel
theorem dX9_isKind_0 : decode cX9_isKind 0 = .ok (.iload_n 0, 1) := by decide +kernel
theorem dX9_isKind_1 : decode cX9_isKind 1 = .ok (.ifCond .lt 12, 3) := by decide +kernel
theorem dX9_isKind_4 : decode cX9_isKind 4 = .ok (.iload_n 0, 1) := by decide +kernel
theorem dX9_isKind_5 : decode cX9_isKind 5 = .ok (.iconst 4, 1) := by decide +kernel
theorem dX9_isKind_6 : decode cX9_isKind 6 = .ok (.if_icmp .gt 7, 3) := by decide +kernel
theorem dX9_isKind_9 : decode cX9_isKind 9 = .ok (.iconst 1, 1) := by decide +kernel
theorem dX9_isKind_10 : decode cX9_isKind 10 = .ok (.goto 4, 3) := by decide +kernel
theorem dX9_isKind_13 : decode cX9_isKind 13 = .ok (.iconst 0, 1) := by decide +kernel
theorem dX9_isKind_14 : decode cX9_isKind 14 = .ok (.ireturn, 1) := by decide +kernel
theorem dX9_isTide_0 : decode cX9_isTide 0 = .ok (.iload_n 0, 1) := by decide +kernel
theorem dX9_isTide_1 : decode cX9_isTide 1 = .ok (.ifCond .lt 13, 3) := by decide +kernel
theorem dX9_isTide_4 : decode cX9_isTide 4 = .ok (.iload_n 0, 1) := by decide +kernel
theorem dX9_isTide_5 : decode cX9_isTide 5 = .ok (.bipush 20, 2) := by decide +kernel
theorem dX9_isTide_7 : decode cX9_isTide 7 = .ok (.if_icmp .gt 7, 3) := by decide +kernel
theorem dX9_isTide_10 : decode cX9_isTide 10 = .ok (.iconst 1, 1) := by decide +kernel
theorem dX9_isTide_11 : decode cX9_isTide 11 = .ok (.goto 4, 3) := by decide +kernel
theorem dX9_isTide_14 : decode cX9_isTide 14 = .ok (.iconst 0, 1) := by decide +kernel
theorem dX9_isTide_15 : decode cX9_isTide 15 = .ok (.ireturn, 1) := by decide +kernel
theorem dX9_isPlace_0 : decode cX9_isPlace 0 = .ok (.iload_n 0, 1) := by decide +kernel
theorem dX9_isPlace_1 : decode cX9_isPlace 1 = .ok (.bipush 10, 2) := by decide +kernel
theorem dX9_isPlace_3 : decode cX9_isPlace 3 = .ok (.if_icmp .lt 13, 3) := by decide +kernel
theorem dX9_isPlace_6 : decode cX9_isPlace 6 = .ok (.iload_n 0, 1) := by decide +kernel
theorem dX9_isPlace_7 : decode cX9_isPlace 7 = .ok (.bipush 15, 2) := by decide +kernel
theorem dX9_isPlace_9 : decode cX9_isPlace 9 = .ok (.if_icmp .ge 7, 3) := by decide +kernel
theorem dX9_isPlace_12 : decode cX9_isPlace 12 = .ok (.iconst 1, 1) := by decide +kernel
theorem dX9_isPlace_13 : decode cX9_isPlace 13 = .ok (.goto 4, 3) := by decide +kernel
theorem dX9_isPlace_16 : decode cX9_isPlace 16 = .ok (.iconst 0, 1) := by decide +kernel
theorem dX9_isPlace_17 : decode cX9_isPlace 17 = .ok (.ireturn, 1) := by decide +kernel
theorem dX9_isOfKind_0 : decode cX9_isOfKind 0 = .ok (.iload_n 1, 1) := by decide +kernel
theorem dX9_isOfKind_1 : decode cX9_isOfKind 1 = .ok (.ifCond .eq 18, 3) := by decide +kernel
theorem dX9_isOfKind_4 : decode cX9_isOfKind 4 = .ok (.iload_n 1, 1) := by decide +kernel
theorem dX9_isOfKind_5 : decode cX9_isOfKind 5 = .ok (.iload_n 0, 1) := by decide +kernel
theorem dX9_isOfKind_6 : decode cX9_isOfKind 6 = .ok (.if_icmp .eq 13, 3) := by decide +kernel
theorem dX9_isOfKind_9 : decode cX9_isOfKind 9 = .ok (.iload_n 1, 1) := by decide +kernel
theorem dX9_isOfKind_10 : decode cX9_isOfKind 10 = .ok (.iconst 1, 1) := by decide +kernel
theorem dX9_isOfKind_11 : decode cX9_isOfKind 11 = .ok (.if_icmp .ne 12, 3) := by decide +kernel
theorem dX9_isOfKind_14 : decode cX9_isOfKind 14 = .ok (.iload_n 0, 1) := by decide +kernel
theorem dX9_isOfKind_15 : decode cX9_isOfKind 15 = .ok (.iconst 4, 1) := by decide +kernel
theorem dX9_isOfKind_16 : decode cX9_isOfKind 16 = .ok (.if_icmp .ne 7, 3) := by decide +kernel
theorem dX9_isOfKind_19 : decode cX9_isOfKind 19 = .ok (.iconst 1, 1) := by decide +kernel
theorem dX9_isOfKind_20 : decode cX9_isOfKind 20 = .ok (.goto 4, 3) := by decide +kernel
theorem dX9_isOfKind_23 : decode cX9_isOfKind 23 = .ok (.iconst 0, 1) := by decide +kernel
theorem dX9_isOfKind_24 : decode cX9_isOfKind 24 = .ok (.ireturn, 1) := by decide +kernel
theorem dX10_init_0 : decode cX10_init 0 = .ok (.aload_n 0, 1) := by decide +kernel
theorem dX10_init_1 : decode cX10_init 1 = .ok (.invokespecial 1, 3) := by decide +kernel
theorem dX10_init_4 : decode cX10_init 4 = .ok (.aload_n 0, 1) := by decide +kernel
theorem dX10_init_5 : decode cX10_init 5 = .ok (.bipush 34, 2) := by decide +kernel
theorem dX10_init_7 : decode cX10_init 7 = .ok (.newarray .int, 2) := by decide +kernel
theorem dX10_init_9 : decode cX10_init 9 = .ok (.putfield 7, 3) := by decide +kernel
theorem dX10_init_12 : decode cX10_init 12 = .ok (.aload_n 0, 1) := by decide +kernel
theorem dX10_init_13 : decode cX10_init 13 = .ok (.bipush 8, 2) := by decide +kernel
theorem dX10_init_15 : decode cX10_init 15 = .ok (.newarray .int, 2) := by decide +kernel
theorem dX10_init_17 : decode cX10_init 17 = .ok (.putfield 13, 3) := by decide +kernel
theorem dX10_init_20 : decode cX10_init 20 = .ok (.aload_n 0, 1) := by decide +kernel
theorem dX10_init_21 : decode cX10_init 21 = .ok (.iconst 3, 1) := by decide +kernel
theorem dX10_init_22 : decode cX10_init 22 = .ok (.newarray .int, 2) := by decide +kernel
theorem dX10_init_24 : decode cX10_init 24 = .ok (.putfield 16, 3) := by decide +kernel
theorem dX10_init_27 : decode cX10_init 27 = .ok (.aload_n 0, 1) := by decide +kernel
theorem dX10_init_28 : decode cX10_init 28 = .ok (.iconst 3, 1) := by decide +kernel
theorem dX10_init_29 : decode cX10_init 29 = .ok (.newarray .int, 2) := by decide +kernel
theorem dX10_init_31 : decode cX10_init 31 = .ok (.putfield 19, 3) := by decide +kernel
theorem dX10_init_34 : decode cX10_init 34 = .ok (.aload_n 0, 1) := by decide +kernel
theorem dX10_init_35 : decode cX10_init 35 = .ok (.iconst 5, 1) := by decide +kernel
theorem dX10_init_36 : decode cX10_init 36 = .ok (.newarray .int, 2) := by decide +kernel
theorem dX10_init_38 : decode cX10_init 38 = .ok (.putfield 22, 3) := by decide +kernel
theorem dX10_init_41 : decode cX10_init 41 = .ok (.aload_n 0, 1) := by decide +kernel
theorem dX10_init_42 : decode cX10_init 42 = .ok (.iconst 5, 1) := by decide +kernel
theorem dX10_init_43 : decode cX10_init 43 = .ok (.newarray .int, 2) := by decide +kernel
theorem dX10_init_45 : decode cX10_init 45 = .ok (.putfield 25, 3) := by decide +kernel
theorem dX10_init_48 : decode cX10_init 48 = .ok (.aload_n 0, 1) := by decide +kernel
theorem dX10_init_49 : decode cX10_init 49 = .ok (.bipush 12, 2) := by decide +kernel
theorem dX10_init_51 : decode cX10_init 51 = .ok (.newarray .int, 2) := by decide +kernel
theorem dX10_init_53 : decode cX10_init 53 = .ok (.putfield 28, 3) := by decide +kernel
theorem dX10_init_56 : decode cX10_init 56 = .ok (.aload_n 0, 1) := by decide +kernel
theorem dX10_init_57 : decode cX10_init 57 = .ok (.bipush 8, 2) := by decide +kernel
theorem dX10_init_59 : decode cX10_init 59 = .ok (.newarray .int, 2) := by decide +kernel
theorem dX10_init_61 : decode cX10_init 61 = .ok (.putfield 31, 3) := by decide +kernel
theorem dX10_init_64 : decode cX10_init 64 = .ok (.aload_n 0, 1) := by decide +kernel
