theorem dX6_valueOfThings_92 : decode cX6_valueOfThings 92 = .ok (.isub, 1) := by decide +kernel
theorem dX6_valueOfThings_93 : decode cX6_valueOfThings 93 = .ok (.iaload, 1) := by decide +kernel
theorem dX6_valueOfThings_94 : decode cX6_valueOfThings 94 = .ok (.ineg, 1) := by decide +kernel
theorem dX6_valueOfThings_95 : decode cX6_valueOfThings 95 = .ok (.iastore, 1) := by decide +kernel
theorem dX6_valueOfThings_96 : decode cX6_valueOfThings 96 = .ok (.goto 41, 3) := by decide +kernel
theorem dX6_valueOfThings_99 : decode cX6_valueOfThings 99 = .ok (.iload_n 1, 1) := by decide +kernel
theorem dX6_valueOfThings_100 : decode cX6_valueOfThings 100 = .ok (.iconst 1, 1) := by decide +kernel
theorem dX6_valueOfThings_101 : decode cX6_valueOfThings 101 = .ok (.if_icmp .le 36, 3) := by decide +kernel
theorem dX6_valueOfThings_104 : decode cX6_valueOfThings 104 = .ok (.iinc 1 (-1), 3) := by decide +kernel
theorem dX6_valueOfThings_107 : decode cX6_valueOfThings 107 = .ok (.aload_n 0, 1) := by decide +kernel
theorem dX6_valueOfThings_108 : decode cX6_valueOfThings 108 = .ok (.getfield 42, 3) := by decide +kernel
theorem dX6_valueOfThings_111 : decode cX6_valueOfThings 111 = .ok (.iload_n 1, 1) := by decide +kernel
theorem dX6_valueOfThings_112 : decode cX6_valueOfThings 112 = .ok (.iconst 1, 1) := by decide +kernel
theorem dX6_valueOfThings_113 : decode cX6_valueOfThings 113 = .ok (.isub, 1) := by decide +kernel
theorem dX6_valueOfThings_114 : decode cX6_valueOfThings 114 = .ok (.iload_n 3, 1) := by decide +kernel
theorem dX6_valueOfThings_115 : decode cX6_valueOfThings 115 = .ok (.sipush 2000, 3) := by decide +kernel
theorem dX6_valueOfThings_118 : decode cX6_valueOfThings 118 = .ok (.isub, 1) := by decide +kernel
theorem dX6_valueOfThings_119 : decode cX6_valueOfThings 119 = .ok (.aload_n 0, 1) := by decide +kernel
theorem dX6_valueOfThings_120 : decode cX6_valueOfThings 120 = .ok (.getfield 42, 3) := by decide +kernel
theorem dX6_valueOfThings_123 : decode cX6_valueOfThings 123 = .ok (.iload_n 1, 1) := by decide +kernel
theorem dX6_valueOfThings_124 : decode cX6_valueOfThings 124 = .ok (.iconst 1, 1) := by decide +kernel
theorem dX6_valueOfThings_125 : decode cX6_valueOfThings 125 = .ok (.isub, 1) := by decide +kernel
theorem dX6_valueOfThings_126 : decode cX6_valueOfThings 126 = .ok (.iaload, 1) := by decide +kernel
theorem dX6_valueOfThings_127 : decode cX6_valueOfThings 127 = .ok (.aload_n 0, 1) := by decide +kernel
theorem dX6_valueOfThings_128 : decode cX6_valueOfThings 128 = .ok (.getfield 42, 3) := by decide +kernel
theorem dX6_valueOfThings_131 : decode cX6_valueOfThings 131 = .ok (.iload_n 1, 1) := by decide +kernel
theorem dX6_valueOfThings_132 : decode cX6_valueOfThings 132 = .ok (.iaload, 1) := by decide +kernel
theorem dX6_valueOfThings_133 : decode cX6_valueOfThings 133 = .ok (.invokestatic 122, 3) := by decide +kernel
theorem dX6_valueOfThings_136 : decode cX6_valueOfThings 136 = .ok (.iastore, 1) := by decide +kernel
theorem dX6_valueOfThings_137 : decode cX6_valueOfThings 137 = .ok (.iinc 2 1, 3) := by decide +kernel
theorem dX6_valueOfThings_140 : decode cX6_valueOfThings 140 = .ok (.goto (-136), 3) := by decide +kernel
theorem dX6_valueOfThings_143 : decode cX6_valueOfThings 143 = .ok (.aload_n 0, 1) := by decide +kernel
theorem dX6_valueOfThings_144 : decode cX6_valueOfThings 144 = .ok (.getfield 42, 3) := by decide +kernel
theorem dX6_valueOfThings_147 : decode cX6_valueOfThings 147 = .ok (.iconst 0, 1) := by decide +kernel
theorem dX6_valueOfThings_148 : decode cX6_valueOfThings 148 = .ok (.iaload, 1) := by decide +kernel
theorem dX6_valueOfThings_149 : decode cX6_valueOfThings 149 = .ok (.ireturn, 1) := by decide +kernel
theorem dX6_joined_0 : decode cX6_joined 0 = .ok (.iload_n 0, 1) := by decide +kernel
theorem dX6_joined_1 : decode cX6_joined 1 = .ok (.lookupswitch 104 #[(42, 100), (43, 92), (45, 96), (60, 59), (61, 81), (62, 70)], 59) := by decide +kernel
theorem dX6_joined_60 : decode cX6_joined 60 = .ok (.iload_n 1, 1) := by decide +kernel
theorem dX6_joined_61 : decode cX6_joined 61 = .ok (.iload_n 2, 1) := by decide +kernel
theorem dX6_joined_62 : decode cX6_joined 62 = .ok (.if_icmp .ge 7, 3) := by decide +kernel
theorem dX6_joined_65 : decode cX6_joined 65 = .ok (.iconst 1, 1) := by decide +kernel
theorem dX6_joined_66 : decode cX6_joined 66 = .ok (.goto 4, 3) := by decide +kernel
theorem dX6_joined_69 : decode cX6_joined 69 = .ok (.iconst 0, 1) := by decide +kernel
theorem dX6_joined_70 : decode cX6_joined 70 = .ok (.ireturn, 1) := by decide +kernel
theorem dX6_joined_71 : decode cX6_joined 71 = .ok (.iload_n 1, 1) := by decide +kernel
theorem dX6_joined_72 : decode cX6_joined 72 = .ok (.iload_n 2, 1) := by decide +kernel
theorem dX6_joined_73 : decode cX6_joined 73 = .ok (.if_icmp .le 7, 3) := by decide +kernel
theorem dX6_joined_76 : decode cX6_joined 76 = .ok (.iconst 1, 1) := by decide +kernel
theorem dX6_joined_77 : decode cX6_joined 77 = .ok (.goto 4, 3) := by decide +kernel
theorem dX6_joined_80 : decode cX6_joined 80 = .ok (.iconst 0, 1) := by decide +kernel
theorem dX6_joined_81 : decode cX6_joined 81 = .ok (.ireturn, 1) := by decide +kernel
theorem dX6_joined_82 : decode cX6_joined 82 = .ok (.iload_n 1, 1) := by decide +kernel
theorem dX6_joined_83 : decode cX6_joined 83 = .ok (.iload_n 2, 1) := by decide +kernel
theorem dX6_joined_84 : decode cX6_joined 84 = .ok (.if_icmp .ne 7, 3) := by decide +kernel
theorem dX6_joined_87 : decode cX6_joined 87 = .ok (.iconst 1, 1) := by decide +kernel
theorem dX6_joined_88 : decode cX6_joined 88 = .ok (.goto 4, 3) := by decide +kernel
theorem dX6_joined_91 : decode cX6_joined 91 = .ok (.iconst 0, 1) := by decide +kernel
theorem dX6_joined_92 : decode cX6_joined 92 = .ok (.ireturn, 1) := by decide +kernel
theorem dX6_joined_93 : decode cX6_joined 93 = .ok (.iload_n 1, 1) := by decide +kernel
theorem dX6_joined_94 : decode cX6_joined 94 = .ok (.iload_n 2, 1) := by decide +kernel
theorem dX6_joined_95 : decode cX6_joined 95 = .ok (.iadd, 1) := by decide +kernel
theorem dX6_joined_96 : decode cX6_joined 96 = .ok (.ireturn, 1) := by decide +kernel
theorem dX6_joined_97 : decode cX6_joined 97 = .ok (.iload_n 1, 1) := by decide +kernel
theorem dX6_joined_98 : decode cX6_joined 98 = .ok (.iload_n 2, 1) := by decide +kernel
theorem dX6_joined_99 : decode cX6_joined 99 = .ok (.isub, 1) := by decide +kernel
theorem dX6_joined_100 : decode cX6_joined 100 = .ok (.ireturn, 1) := by decide +kernel
theorem dX6_joined_101 : decode cX6_joined 101 = .ok (.iload_n 1, 1) := by decide +kernel
theorem dX6_joined_102 : decode cX6_joined 102 = .ok (.iload_n 2, 1) := by decide +kernel
theorem dX6_joined_103 : decode cX6_joined 103 = .ok (.imul, 1) := by decide +kernel
theorem dX6_joined_104 : decode cX6_joined 104 = .ok (.ireturn, 1) := by decide +kernel
theorem dX6_joined_105 : decode cX6_joined 105 = .ok (.iload_n 2, 1) := by decide +kernel
theorem dX6_joined_106 : decode cX6_joined 106 = .ok (.ifCond .ne 7, 3) := by decide +kernel
theorem dX6_joined_109 : decode cX6_joined 109 = .ok (.iconst 0, 1) := by decide +kernel
theorem dX6_joined_110 : decode cX6_joined 110 = .ok (.goto 6, 3) := by decide +kernel
theorem dX6_joined_113 : decode cX6_joined 113 = .ok (.iload_n 1, 1) := by decide +kernel
theorem dX6_joined_114 : decode cX6_joined 114 = .ok (.iload_n 2, 1) := by decide +kernel
theorem dX6_joined_115 : decode cX6_joined 115 = .ok (.idiv, 1) := by decide +kernel
theorem dX6_joined_116 : decode cX6_joined 116 = .ok (.ireturn, 1) := by decide +kernel
theorem dX7_init_0 : decode cX7_init 0 = .ok (.aload_n 0, 1) := by decide +kernel
theorem dX7_init_1 : decode cX7_init 1 = .ok (.invokespecial 3, 3) := by decide +kernel
theorem dX7_init_4 : decode cX7_init 4 = .ok (.aload_n 0, 1) := by decide +kernel
theorem dX7_init_5 : decode cX7_init 5 = .ok (.bipush 12, 2) := by decide +kernel
theorem dX7_init_7 : decode cX7_init 7 = .ok (.newarray .int, 2) := by decide +kernel
theorem dX7_init_9 : decode cX7_init 9 = .ok (.putfield 9, 3) := by decide +kernel
theorem dX7_init_12 : decode cX7_init 12 = .ok (.aload_n 0, 1) := by decide +kernel
theorem dX7_init_13 : decode cX7_init 13 = .ok (.bipush 12, 2) := by decide +kernel
theorem dX7_init_15 : decode cX7_init 15 = .ok (.newarray .int, 2) := by decide +kernel
theorem dX7_init_17 : decode cX7_init 17 = .ok (.putfield 15, 3) := by decide +kernel
theorem dX7_init_20 : decode cX7_init 20 = .ok (.aload_n 0, 1) := by decide +kernel
theorem dX7_init_21 : decode cX7_init 21 = .ok (.bipush 12, 2) := by decide +kernel
theorem dX7_init_23 : decode cX7_init 23 = .ok (.newarray .int, 2) := by decide +kernel
theorem dX7_init_25 : decode cX7_init 25 = .ok (.putfield 18, 3) := by decide +kernel
theorem dX7_init_28 : decode cX7_init 28 = .ok (.aload_n 0, 1) := by decide +kernel
theorem dX7_init_29 : decode cX7_init 29 = .ok (.iconst 0, 1) := by decide +kernel
theorem dX7_init_30 : decode cX7_init 30 = .ok (.putfield 21, 3) := by decide +kernel
theorem dX7_init_33 : decode cX7_init 33 = .ok (.aload_n 0, 1) := by decide +kernel
theorem dX7_init_34 : decode cX7_init 34 = .ok (.iconst 0, 1) := by decide +kernel
theorem dX7_init_35 : decode cX7_init 35 = .ok (.putfield 25, 3) := by decide +kernel
theorem dX7_init_38 : decode cX7_init 38 = .ok (.aload_n 0, 1) := by decide +kernel
theorem dX7_init_39 : decode cX7_init 39 = .ok (.iconst 0, 1) := by decide +kernel
theorem dX7_init_40 : decode cX7_init 40 = .ok (.putfield 28, 3) := by decide +kernel
theorem dX7_init_43 : decode cX7_init 43 = .ok (.return_, 1) := by decide +kernel
theorem dX7_take_0 : decode cX7_take 0 = .ok (.aload_n 1, 1) := by decide +kernel
theorem dX7_take_1 : decode cX7_take 1 = .ok (.getfield 9, 3) := by decide +kernel
theorem dX7_take_4 : decode cX7_take 4 = .ok (.iconst 0, 1) := by decide +kernel
theorem dX7_take_5 : decode cX7_take 5 = .ok (.aload_n 0, 1) := by decide +kernel
theorem dX7_take_6 : decode cX7_take 6 = .ok (.getfield 9, 3) := by decide +kernel
theorem dX7_take_9 : decode cX7_take 9 = .ok (.iconst 0, 1) := by decide +kernel
theorem dX7_take_10 : decode cX7_take 10 = .ok (.bipush 12, 2) := by decide +kernel
theorem dX7_take_12 : decode cX7_take 12 = .ok (.invokestatic 31, 3) := by decide +kernel
theorem dX7_take_15 : decode cX7_take 15 = .ok (.aload_n 1, 1) := by decide +kernel
theorem dX7_take_16 : decode cX7_take 16 = .ok (.getfield 15, 3) := by decide +kernel
theorem dX7_take_19 : decode cX7_take 19 = .ok (.iconst 0, 1) := by decide +kernel
theorem dX7_take_20 : decode cX7_take 20 = .ok (.aload_n 0, 1) := by decide +kernel
theorem dX7_take_21 : decode cX7_take 21 = .ok (.getfield 15, 3) := by decide +kernel
theorem dX7_take_24 : decode cX7_take 24 = .ok (.iconst 0, 1) := by decide +kernel
theorem dX7_take_25 : decode cX7_take 25 = .ok (.bipush 12, 2) := by decide +kernel
theorem dX7_take_27 : decode cX7_take 27 = .ok (.invokestatic 31, 3) := by decide +kernel
theorem dX7_take_30 : decode cX7_take 30 = .ok (.aload_n 1, 1) := by decide +kernel
theorem dX7_take_31 : decode cX7_take 31 = .ok (.getfield 18, 3) := by decide +kernel
theorem dX7_take_34 : decode cX7_take 34 = .ok (.iconst 0, 1) := by decide +kernel
theorem dX7_take_35 : decode cX7_take 35 = .ok (.aload_n 0, 1) := by decide +kernel
theorem dX7_take_36 : decode cX7_take 36 = .ok (.getfield 18, 3) := by decide +kernel
theorem dX7_take_39 : decode cX7_take 39 = .ok (.iconst 0, 1) := by decide +kernel
theorem dX7_take_40 : decode cX7_take 40 = .ok (.bipush 12, 2) := by decide +kernel
theorem dX7_take_42 : decode cX7_take 42 = .ok (.invokestatic 31, 3) := by decide +kernel
theorem dX7_take_45 : decode cX7_take 45 = .ok (.aload_n 0, 1) := by decide +kernel
theorem dX7_take_46 : decode cX7_take 46 = .ok (.aload_n 1, 1) := by decide +kernel
theorem dX7_take_47 : decode cX7_take 47 = .ok (.getfield 21, 3) := by decide +kernel
theorem dX7_take_50 : decode cX7_take 50 = .ok (.putfield 21, 3) := by decide +kernel
theorem dX7_take_53 : decode cX7_take 53 = .ok (.aload_n 0, 1) := by decide +kernel
theorem dX7_take_54 : decode cX7_take 54 = .ok (.aload_n 1, 1) := by decide +kernel
theorem dX7_take_55 : decode cX7_take 55 = .ok (.getfield 25, 3) := by decide +kernel
theorem dX7_take_58 : decode cX7_take 58 = .ok (.putfield 25, 3) := by decide +kernel
theorem dX7_take_61 : decode cX7_take 61 = .ok (.aload_n 0, 1) := by decide +kernel
theorem dX7_take_62 : decode cX7_take 62 = .ok (.aload_n 1, 1) := by decide +kernel
theorem dX7_take_63 : decode cX7_take 63 = .ok (.getfield 28, 3) := by decide +kernel
theorem dX7_take_66 : decode cX7_take 66 = .ok (.putfield 28, 3) := by decide +kernel
theorem dX7_take_69 : decode cX7_take 69 = .ok (.return_, 1) := by decide +kernel
theorem dX8_init_0 : decode cX8_init 0 = .ok (.aload_n 0, 1) := by decide +kernel
theorem dX8_init_1 : decode cX8_init 1 = .ok (.invokespecial 3, 3) := by decide +kernel
theorem dX8_init_4 : decode cX8_init 4 = .ok (.aload_n 0, 1) := by decide +kernel
theorem dX8_init_5 : decode cX8_init 5 = .ok (.bipush 80, 2) := by decide +kernel
theorem dX8_init_7 : decode cX8_init 7 = .ok (.newarray .char, 2) := by decide +kernel
theorem dX8_init_9 : decode cX8_init 9 = .ok (.putfield 11, 3) := by decide +kernel
theorem dX8_init_12 : decode cX8_init 12 = .ok (.aload_n 0, 1) := by decide +kernel
theorem dX8_init_13 : decode cX8_init 13 = .ok (.iconst 0, 1) := by decide +kernel
theorem dX8_init_14 : decode cX8_init 14 = .ok (.putfield 15, 3) := by decide +kernel
theorem dX8_init_17 : decode cX8_init 17 = .ok (.return_, 1) := by decide +kernel
theorem dX8_within_0 : decode cX8_within 0 = .ok (.iload_n 1, 1) := by decide +kernel
theorem dX8_within_1 : decode cX8_within 1 = .ok (.ifCond .lt 33, 3) := by decide +kernel
theorem dX8_within_4 : decode cX8_within 4 = .ok (.iload_n 1, 1) := by decide +kernel
theorem dX8_within_5 : decode cX8_within 5 = .ok (.bipush 80, 2) := by decide +kernel
theorem dX8_within_7 : decode cX8_within 7 = .ok (.if_icmp .ge 27, 3) := by decide +kernel
theorem dX8_within_10 : decode cX8_within 10 = .ok (.aload_n 0, 1) := by decide +kernel
theorem dX8_within_11 : decode cX8_within 11 = .ok (.getfield 11, 3) := by decide +kernel
theorem dX8_within_14 : decode cX8_within 14 = .ok (.iload_n 1, 1) := by decide +kernel
theorem dX8_within_15 : decode cX8_within 15 = .ok (.caload, 1) := by decide +kernel
theorem dX8_within_16 : decode cX8_within 16 = .ok (.iload_n 2, 1) := by decide +kernel
theorem dX8_within_17 : decode cX8_within 17 = .ok (.if_icmp .lt 17, 3) := by decide +kernel
theorem dX8_within_20 : decode cX8_within 20 = .ok (.aload_n 0, 1) := by decide +kernel
theorem dX8_within_21 : decode cX8_within 21 = .ok (.getfield 11, 3) := by decide +kernel
theorem dX8_within_24 : decode cX8_within 24 = .ok (.iload_n 1, 1) := by decide +kernel
theorem dX8_within_25 : decode cX8_within 25 = .ok (.caload, 1) := by decide +kernel
theorem dX8_within_26 : decode cX8_within 26 = .ok (.iload_n 3, 1) := by decide +kernel
theorem dX8_within_27 : decode cX8_within 27 = .ok (.if_icmp .gt 7, 3) := by decide +kernel
theorem dX8_within_30 : decode cX8_within 30 = .ok (.iconst 1, 1) := by decide +kernel
theorem dX8_within_31 : decode cX8_within 31 = .ok (.goto 4, 3) := by decide +kernel
theorem dX8_within_34 : decode cX8_within 34 = .ok (.iconst 0, 1) := by decide +kernel
theorem dX8_within_35 : decode cX8_within 35 = .ok (.ireturn, 1) := by decide +kernel
theorem dX8_digit_0 : decode cX8_digit 0 = .ok (.iload_n 1, 1) := by decide +kernel
theorem dX8_digit_1 : decode cX8_digit 1 = .ok (.ifCond .lt 21, 3) := by decide +kernel
theorem dX8_digit_4 : decode cX8_digit 4 = .ok (.iload_n 1, 1) := by decide +kernel
theorem dX8_digit_5 : decode cX8_digit 5 = .ok (.bipush 80, 2) := by decide +kernel
theorem dX8_digit_7 : decode cX8_digit 7 = .ok (.if_icmp .ge 15, 3) := by decide +kernel
theorem dX8_digit_10 : decode cX8_digit 10 = .ok (.aload_n 0, 1) := by decide +kernel
theorem dX8_digit_11 : decode cX8_digit 11 = .ok (.getfield 11, 3) := by decide +kernel
theorem dX8_digit_14 : decode cX8_digit 14 = .ok (.iload_n 1, 1) := by decide +kernel
theorem dX8_digit_15 : decode cX8_digit 15 = .ok (.caload, 1) := by decide +kernel
theorem dX8_digit_16 : decode cX8_digit 16 = .ok (.bipush 48, 2) := by decide +kernel
theorem dX8_digit_18 : decode cX8_digit 18 = .ok (.isub, 1) := by decide +kernel
theorem dX8_digit_19 : decode cX8_digit 19 = .ok (.goto 4, 3) := by decide +kernel
theorem dX8_digit_22 : decode cX8_digit 22 = .ok (.iconst (-1), 1) := by decide +kernel
theorem dX8_digit_23 : decode cX8_digit 23 = .ok (.ireturn, 1) := by decide +kernel
theorem dX8_letter_0 : decode cX8_letter 0 = .ok (.iload_n 1, 1) := by decide +kernel
theorem dX8_letter_1 : decode cX8_letter 1 = .ok (.ifCond .lt 21, 3) := by decide +kernel
theorem dX8_letter_4 : decode cX8_letter 4 = .ok (.iload_n 1, 1) := by decide +kernel
theorem dX8_letter_5 : decode cX8_letter 5 = .ok (.bipush 80, 2) := by decide +kernel
theorem dX8_letter_7 : decode cX8_letter 7 = .ok (.if_icmp .ge 15, 3) := by decide +kernel
theorem dX8_letter_10 : decode cX8_letter 10 = .ok (.aload_n 0, 1) := by decide +kernel
theorem dX8_letter_11 : decode cX8_letter 11 = .ok (.getfield 11, 3) := by decide +kernel
theorem dX8_letter_14 : decode cX8_letter 14 = .ok (.iload_n 1, 1) := by decide +kernel
theorem dX8_letter_15 : decode cX8_letter 15 = .ok (.caload, 1) := by decide +kernel
theorem dX8_letter_16 : decode cX8_letter 16 = .ok (.bipush 97, 2) := by decide +kernel
theorem dX8_letter_18 : decode cX8_letter 18 = .ok (.isub, 1) := by decide +kernel
theorem dX8_letter_19 : decode cX8_letter 19 = .ok (.goto 4, 3) := by decide +kernel
theorem dX8_letter_22 : decode cX8_letter 22 = .ok (.iconst (-1), 1) := by decide +kernel
theorem dX8_letter_23 : decode cX8_letter 23 = .ok (.ireturn, 1) := by decide +kernel
theorem dX8_lettersFrom_0 : decode cX8_lettersFrom 0 = .ok (.iconst 0, 1) := by decide +kernel
theorem dX8_lettersFrom_1 : decode cX8_lettersFrom 1 = .ok (.istore_n 2, 1) := by decide +kernel
theorem dX8_lettersFrom_2 : decode cX8_lettersFrom 2 = .ok (.iload_n 1, 1) := by decide +kernel
theorem dX8_lettersFrom_3 : decode cX8_lettersFrom 3 = .ok (.iload_n 2, 1) := by decide +kernel
theorem dX8_lettersFrom_4 : decode cX8_lettersFrom 4 = .ok (.iadd, 1) := by decide +kernel
theorem dX8_lettersFrom_5 : decode cX8_lettersFrom 5 = .ok (.aload_n 0, 1) := by decide +kernel
theorem dX8_lettersFrom_6 : decode cX8_lettersFrom 6 = .ok (.getfield 15, 3) := by decide +kernel
theorem dX8_lettersFrom_9 : decode cX8_lettersFrom 9 = .ok (.if_icmp .ge 23, 3) := by decide +kernel
theorem dX8_lettersFrom_12 : decode cX8_lettersFrom 12 = .ok (.aload_n 0, 1) := by decide +kernel
theorem dX8_lettersFrom_13 : decode cX8_lettersFrom 13 = .ok (.iload_n 1, 1) := by decide +kernel
theorem dX8_lettersFrom_14 : decode cX8_lettersFrom 14 = .ok (.iload_n 2, 1) := by decide +kernel
theorem dX8_lettersFrom_15 : decode cX8_lettersFrom 15 = .ok (.iadd, 1) := by decide +kernel
theorem dX8_lettersFrom_16 : decode cX8_lettersFrom 16 = .ok (.bipush 97, 2) := by decide +kernel
theorem dX8_lettersFrom_18 : decode cX8_lettersFrom 18 = .ok (.bipush 104, 2) := by decide +kernel
theorem dX8_lettersFrom_20 : decode cX8_lettersFrom 20 = .ok (.invokevirtual 19, 3) := by decide +kernel
theorem dX8_lettersFrom_23 : decode cX8_lettersFrom 23 = .ok (.ifCond .eq 9, 3) := by decide +kernel
theorem dX8_lettersFrom_26 : decode cX8_lettersFrom 26 = .ok (.iinc 2 1, 3) := by decide +kernel
theorem dX8_lettersFrom_29 : decode cX8_lettersFrom 29 = .ok (.goto (-27), 3) := by decide +kernel
theorem dX8_lettersFrom_32 : decode cX8_lettersFrom 32 = .ok (.iload_n 2, 1) := by decide +kernel
theorem dX8_lettersFrom_33 : decode cX8_lettersFrom 33 = .ok (.ireturn, 1) := by decide +kernel
theorem dX8_faultOfLines_0 : decode cX8_faultOfLines 0 = .ok (.aload_n 0, 1) := by decide +kernel
theorem dX8_faultOfLines_1 : decode cX8_faultOfLines 1 = .ok (.getfield 15, 3) := by decide +kernel
theorem dX8_faultOfLines_4 : decode cX8_faultOfLines 4 = .ok (.bipush 59, 2) := by decide +kernel
theorem dX8_faultOfLines_6 : decode cX8_faultOfLines 6 = .ok (.invokestatic 23, 3) := by decide +kernel
theorem dX8_faultOfLines_9 : decode cX8_faultOfLines 9 = .ok (.istore_n 2, 1) := by decide +kernel
theorem dX8_faultOfLines_10 : decode cX8_faultOfLines 10 = .ok (.iconst 0, 1) := by decide +kernel
theorem dX8_faultOfLines_11 : decode cX8_faultOfLines 11 = .ok (.istore_n 3, 1) := by decide +kernel
theorem dX8_faultOfLines_12 : decode cX8_faultOfLines 12 = .ok (.iload_n 3, 1) := by decide +kernel
theorem dX8_faultOfLines_13 : decode cX8_faultOfLines 13 = .ok (.iload_n 2, 1) := by decide +kernel
theorem dX8_faultOfLines_14 : decode cX8_faultOfLines 14 = .ok (.if_icmp .ge 20, 3) := by decide +kernel
theorem dX8_faultOfLines_17 : decode cX8_faultOfLines 17 = .ok (.aload_n 0, 1) := by decide +kernel
theorem dX8_faultOfLines_18 : decode cX8_faultOfLines 18 = .ok (.iload_n 3, 1) := by decide +kernel
theorem dX8_faultOfLines_19 : decode cX8_faultOfLines 19 = .ok (.iload_n 1, 1) := by decide +kernel
theorem dX8_faultOfLines_20 : decode cX8_faultOfLines 20 = .ok (.invokevirtual 29, 3) := by decide +kernel
theorem dX8_faultOfLines_23 : decode cX8_faultOfLines 23 = .ok (.ifCond .ne 5, 3) := by decide +kernel
theorem dX8_faultOfLines_26 : decode cX8_faultOfLines 26 = .ok (.iload_n 3, 1) := by decide +kernel
theorem dX8_faultOfLines_27 : decode cX8_faultOfLines 27 = .ok (.ireturn, 1) := by decide +kernel
theorem dX8_faultOfLines_28 : decode cX8_faultOfLines 28 = .ok (.iinc 3 1, 3) := by decide +kernel
theorem dX8_faultOfLines_31 : decode cX8_faultOfLines 31 = .ok (.goto (-19), 3) := by decide +kernel
theorem dX8_faultOfLines_34 : decode cX8_faultOfLines 34 = .ok (.iload_n 2, 1) := by decide +kernel
theorem dX8_faultOfLines_35 : decode cX8_faultOfLines 35 = .ok (.iconst 5, 1) := by decide +kernel
theorem dX8_faultOfLines_36 : decode cX8_faultOfLines 36 = .ok (.irem, 1) := by decide +kernel
theorem dX8_faultOfLines_37 : decode cX8_faultOfLines 37 = .ok (.iconst 4, 1) := by decide +kernel
theorem dX8_faultOfLines_38 : decode cX8_faultOfLines 38 = .ok (.if_icmp .eq 7, 3) := by decide +kernel
theorem dX8_faultOfLines_41 : decode cX8_faultOfLines 41 = .ok (.iconst 1, 1) := by decide +kernel
theorem dX8_faultOfLines_42 : decode cX8_faultOfLines 42 = .ok (.goto 4, 3) := by decide +kernel
theorem dX8_faultOfLines_45 : decode cX8_faultOfLines 45 = .ok (.iconst 0, 1) := by decide +kernel
theorem dX8_faultOfLines_46 : decode cX8_faultOfLines 46 = .ok (.istore_n 3, 1) := by decide +kernel
theorem dX8_faultOfLines_47 : decode cX8_faultOfLines 47 = .ok (.iload_n 3, 1) := by decide +kernel
theorem dX8_faultOfLines_48 : decode cX8_faultOfLines 48 = .ok (.ifCond .ne 12, 3) := by decide +kernel
theorem dX8_faultOfLines_51 : decode cX8_faultOfLines 51 = .ok (.aload_n 0, 1) := by decide +kernel
theorem dX8_faultOfLines_52 : decode cX8_faultOfLines 52 = .ok (.getfield 15, 3) := by decide +kernel
theorem dX8_faultOfLines_55 : decode cX8_faultOfLines 55 = .ok (.bipush 59, 2) := by decide +kernel
theorem dX8_faultOfLines_57 : decode cX8_faultOfLines 57 = .ok (.if_icmp .le 7, 3) := by decide +kernel
theorem dX8_faultOfLines_60 : decode cX8_faultOfLines 60 = .ok (.iload_n 2, 1) := by decide +kernel
theorem dX8_faultOfLines_61 : decode cX8_faultOfLines 61 = .ok (.goto 4, 3) := by decide +kernel
theorem dX8_faultOfLines_64 : decode cX8_faultOfLines 64 = .ok (.iconst (-1), 1) := by decide +kernel
theorem dX8_faultOfLines_65 : decode cX8_faultOfLines 65 = .ok (.ireturn, 1) := by decide +kernel
theorem dX8_standsInLine_0 : decode cX8_standsInLine 0 = .ok (.iload_n 1, 1) := by decide +kernel
theorem dX8_standsInLine_1 : decode cX8_standsInLine 1 = .ok (.iconst 5, 1) := by decide +kernel
theorem dX8_standsInLine_2 : decode cX8_standsInLine 2 = .ok (.irem, 1) := by decide +kernel
theorem dX8_standsInLine_3 : decode cX8_standsInLine 3 = .ok (.tableswitch 107 0 3 #[29, 54, 87, 97], 29) := by decide +kernel
theorem dX8_standsInLine_32 : decode cX8_standsInLine 32 = .ok (.iload_n 1, 1) := by decide +kernel
theorem dX8_standsInLine_33 : decode cX8_standsInLine 33 = .ok (.iconst 5, 1) := by decide +kernel
theorem dX8_standsInLine_34 : decode cX8_standsInLine 34 = .ok (.idiv, 1) := by decide +kernel
theorem dX8_standsInLine_35 : decode cX8_standsInLine 35 = .ok (.iload_n 2, 1) := by decide +kernel
theorem dX8_standsInLine_36 : decode cX8_standsInLine 36 = .ok (.if_icmp .ge 19, 3) := by decide +kernel
theorem dX8_standsInLine_39 : decode cX8_standsInLine 39 = .ok (.aload_n 0, 1) := by decide +kernel
theorem dX8_standsInLine_40 : decode cX8_standsInLine 40 = .ok (.iload_n 1, 1) := by decide +kernel
theorem dX8_standsInLine_41 : decode cX8_standsInLine 41 = .ok (.bipush 48, 2) := by decide +kernel
theorem dX8_standsInLine_43 : decode cX8_standsInLine 43 = .ok (.bipush 55, 2) := by decide +kernel
theorem dX8_standsInLine_45 : decode cX8_standsInLine 45 = .ok (.invokevirtual 19, 3) := by decide +kernel
theorem dX8_standsInLine_48 : decode cX8_standsInLine 48 = .ok (.ifCond .eq 7, 3) := by decide +kernel
theorem dX8_standsInLine_51 : decode cX8_standsInLine 51 = .ok (.iconst 1, 1) := by decide +kernel
theorem dX8_standsInLine_52 : decode cX8_standsInLine 52 = .ok (.goto 4, 3) := by decide +kernel
theorem dX8_standsInLine_55 : decode cX8_standsInLine 55 = .ok (.iconst 0, 1) := by decide +kernel
theorem dX8_standsInLine_56 : decode cX8_standsInLine 56 = .ok (.ireturn, 1) := by decide +kernel
theorem dX8_standsInLine_57 : decode cX8_standsInLine 57 = .ok (.aload_n 0, 1) := by decide +kernel
theorem dX8_standsInLine_58 : decode cX8_standsInLine 58 = .ok (.iload_n 1, 1) := by decide +kernel
theorem dX8_standsInLine_59 : decode cX8_standsInLine 59 = .ok (.bipush 48, 2) := by decide +kernel
theorem dX8_standsInLine_61 : decode cX8_standsInLine 61 = .ok (.bipush 55, 2) := by decide +kernel
theorem dX8_standsInLine_63 : decode cX8_standsInLine 63 = .ok (.invokevirtual 19, 3) := by decide +kernel
theorem dX8_standsInLine_66 : decode cX8_standsInLine 66 = .ok (.ifCond .eq 22, 3) := by decide +kernel
theorem dX8_standsInLine_69 : decode cX8_standsInLine 69 = .ok (.aload_n 0, 1) := by decide +kernel
theorem dX8_standsInLine_70 : decode cX8_standsInLine 70 = .ok (.iload_n 1, 1) := by decide +kernel
theorem dX8_standsInLine_71 : decode cX8_standsInLine 71 = .ok (.invokevirtual 33, 3) := by decide +kernel
theorem dX8_standsInLine_74 : decode cX8_standsInLine 74 = .ok (.aload_n 0, 1) := by decide +kernel
theorem dX8_standsInLine_75 : decode cX8_standsInLine 75 = .ok (.iload_n 1, 1) := by decide +kernel
theorem dX8_standsInLine_76 : decode cX8_standsInLine 76 = .ok (.iconst 1, 1) := by decide +kernel
theorem dX8_standsInLine_77 : decode cX8_standsInLine 77 = .ok (.isub, 1) := by decide +kernel
theorem dX8_standsInLine_78 : decode cX8_standsInLine 78 = .ok (.invokevirtual 33, 3) := by decide +kernel
theorem dX8_standsInLine_81 : decode cX8_standsInLine 81 = .ok (.if_icmp .eq 7, 3) := by decide +kernel
theorem dX8_standsInLine_84 : decode cX8_standsInLine 84 = .ok (.iconst 1, 1) := by decide +kernel
theorem dX8_standsInLine_85 : decode cX8_standsInLine 85 = .ok (.goto 4, 3) := by decide +kernel
theorem dX8_standsInLine_88 : decode cX8_standsInLine 88 = .ok (.iconst 0, 1) := by decide +kernel
theorem dX8_standsInLine_89 : decode cX8_standsInLine 89 = .ok (.ireturn, 1) := by decide +kernel
theorem dX8_standsInLine_90 : decode cX8_standsInLine 90 = .ok (.aload_n 0, 1) := by decide +kernel
theorem dX8_standsInLine_91 : decode cX8_standsInLine 91 = .ok (.iload_n 1, 1) := by decide +kernel
theorem dX8_standsInLine_92 : decode cX8_standsInLine 92 = .ok (.bipush 49, 2) := by decide +kernel
theorem dX8_standsInLine_94 : decode cX8_standsInLine 94 = .ok (.bipush 57, 2) := by decide +kernel
theorem dX8_standsInLine_96 : decode cX8_standsInLine 96 = .ok (.invokevirtual 19, 3) := by decide +kernel
theorem dX8_standsInLine_99 : decode cX8_standsInLine 99 = .ok (.ireturn, 1) := by decide +kernel
theorem dX8_standsInLine_100 : decode cX8_standsInLine 100 = .ok (.aload_n 0, 1) := by decide +kernel
theorem dX8_standsInLine_101 : decode cX8_standsInLine 101 = .ok (.iload_n 1, 1) := by decide +kernel
theorem dX8_standsInLine_102 : decode cX8_standsInLine 102 = .ok (.bipush 48, 2) := by decide +kernel
theorem dX8_standsInLine_104 : decode cX8_standsInLine 104 = .ok (.bipush 57, 2) := by decide +kernel
theorem dX8_standsInLine_106 : decode cX8_standsInLine 106 = .ok (.invokevirtual 19, 3) := by decide +kernel
theorem dX8_standsInLine_109 : decode cX8_standsInLine 109 = .ok (.ireturn, 1) := by decide +kernel
theorem dX8_standsInLine_110 : decode cX8_standsInLine 110 = .ok (.aload_n 0, 1) := by decide +kernel
theorem dX8_standsInLine_111 : decode cX8_standsInLine 111 = .ok (.iload_n 1, 1) := by decide +kernel
theorem dX8_standsInLine_112 : decode cX8_standsInLine 112 = .ok (.bipush 59, 2) := by decide +kernel
theorem dX8_standsInLine_114 : decode cX8_standsInLine 114 = .ok (.bipush 59, 2) := by decide +kernel
theorem dX8_standsInLine_116 : decode cX8_standsInLine 116 = .ok (.invokevirtual 19, 3) := by decide +kernel
theorem dX8_standsInLine_119 : decode cX8_standsInLine 119 = .ok (.ireturn, 1) := by decide +kernel
theorem dX8_faultOfCall_0 : decode cX8_faultOfCall 0 = .ok (.aload_n 0, 1) := by decide +kernel
theorem dX8_faultOfCall_1 : decode cX8_faultOfCall 1 = .ok (.iconst 0, 1) := by decide +kernel
theorem dX8_faultOfCall_2 : decode cX8_faultOfCall 2 = .ok (.invokevirtual 37, 3) := by decide +kernel
theorem dX8_faultOfCall_5 : decode cX8_faultOfCall 5 = .ok (.istore_n 1, 1) := by decide +kernel
theorem dX8_faultOfCall_6 : decode cX8_faultOfCall 6 = .ok (.iload_n 1, 1) := by decide +kernel
theorem dX8_faultOfCall_7 : decode cX8_faultOfCall 7 = .ok (.bipush 6, 2) := by decide +kernel
theorem dX8_faultOfCall_9 : decode cX8_faultOfCall 9 = .ok (.if_icmp .le 6, 3) := by decide +kernel
theorem dX8_faultOfCall_12 : decode cX8_faultOfCall 12 = .ok (.bipush 6, 2) := by decide +kernel
theorem dX8_faultOfCall_14 : decode cX8_faultOfCall 14 = .ok (.ireturn, 1) := by decide +kernel
theorem dX8_faultOfCall_15 : decode cX8_faultOfCall 15 = .ok (.iload_n 1, 1) := by decide +kernel
theorem dX8_faultOfCall_16 : decode cX8_faultOfCall 16 = .ok (.ifCond .eq 11, 3) := by decide +kernel
theorem dX8_faultOfCall_19 : decode cX8_faultOfCall 19 = .ok (.iload_n 1, 1) := by decide +kernel
theorem dX8_faultOfCall_20 : decode cX8_faultOfCall 20 = .ok (.aload_n 0, 1) := by decide +kernel
theorem dX8_faultOfCall_21 : decode cX8_faultOfCall 21 = .ok (.getfield 15, 3) := by decide +kernel
theorem dX8_faultOfCall_24 : decode cX8_faultOfCall 24 = .ok (.if_icmp .ge 7, 3) := by decide +kernel
theorem dX8_faultOfCall_27 : decode cX8_faultOfCall 27 = .ok (.iload_n 1, 1) := by decide +kernel
theorem dX8_faultOfCall_28 : decode cX8_faultOfCall 28 = .ok (.goto 4, 3) := by decide +kernel
theorem dX8_faultOfCall_31 : decode cX8_faultOfCall 31 = .ok (.iconst (-1), 1) := by decide +kernel
theorem dX8_faultOfCall_32 : decode cX8_faultOfCall 32 = .ok (.ireturn, 1) := by decide +kernel
theorem dX8_faultOfPair_0 : decode cX8_faultOfPair 0 = .ok (.aload_n 0, 1) := by decide +kernel
theorem dX8_faultOfPair_1 : decode cX8_faultOfPair 1 = .ok (.iconst 0, 1) := by decide +kernel
theorem dX8_faultOfPair_2 : decode cX8_faultOfPair 2 = .ok (.invokevirtual 37, 3) := by decide +kernel
theorem dX8_faultOfPair_5 : decode cX8_faultOfPair 5 = .ok (.bipush 6, 2) := by decide +kernel
theorem dX8_faultOfPair_7 : decode cX8_faultOfPair 7 = .ok (.invokestatic 23, 3) := by decide +kernel
theorem dX8_faultOfPair_10 : decode cX8_faultOfPair 10 = .ok (.istore_n 1, 1) := by decide +kernel
theorem dX8_faultOfPair_11 : decode cX8_faultOfPair 11 = .ok (.iload_n 1, 1) := by decide +kernel
theorem dX8_faultOfPair_12 : decode cX8_faultOfPair 12 = .ok (.ifCond .eq 23, 3) := by decide +kernel
theorem dX8_faultOfPair_15 : decode cX8_faultOfPair 15 = .ok (.iload_n 1, 1) := by decide +kernel
theorem dX8_faultOfPair_16 : decode cX8_faultOfPair 16 = .ok (.aload_n 0, 1) := by decide +kernel
theorem dX8_faultOfPair_17 : decode cX8_faultOfPair 17 = .ok (.getfield 15, 3) := by decide +kernel
theorem dX8_faultOfPair_20 : decode cX8_faultOfPair 20 = .ok (.if_icmp .ge 15, 3) := by decide +kernel
theorem dX8_faultOfPair_23 : decode cX8_faultOfPair 23 = .ok (.aload_n 0, 1) := by decide +kernel
theorem dX8_faultOfPair_24 : decode cX8_faultOfPair 24 = .ok (.iload_n 1, 1) := by decide +kernel
theorem dX8_faultOfPair_25 : decode cX8_faultOfPair 25 = .ok (.bipush 59, 2) := by decide +kernel
theorem dX8_faultOfPair_27 : decode cX8_faultOfPair 27 = .ok (.bipush 59, 2) := by decide +kernel
theorem dX8_faultOfPair_29 : decode cX8_faultOfPair 29 = .ok (.invokevirtual 19, 3) := by decide +kernel
theorem dX8_faultOfPair_32 : decode cX8_faultOfPair 32 = .ok (.ifCond .ne 5, 3) := by decide +kernel
theorem dX8_faultOfPair_35 : decode cX8_faultOfPair 35 = .ok (.iload_n 1, 1) := by decide +kernel
theorem dX8_faultOfPair_36 : decode cX8_faultOfPair 36 = .ok (.ireturn, 1) := by decide +kernel
theorem dX8_faultOfPair_37 : decode cX8_faultOfPair 37 = .ok (.iload_n 1, 1) := by decide +kernel
theorem dX8_faultOfPair_38 : decode cX8_faultOfPair 38 = .ok (.iconst 1, 1) := by decide +kernel
theorem dX8_faultOfPair_39 : decode cX8_faultOfPair 39 = .ok (.iadd, 1) := by decide +kernel
theorem dX8_faultOfPair_40 : decode cX8_faultOfPair 40 = .ok (.aload_n 0, 1) := by decide +kernel
theorem dX8_faultOfPair_41 : decode cX8_faultOfPair 41 = .ok (.iload_n 1, 1) := by decide +kernel
theorem dX8_faultOfPair_42 : decode cX8_faultOfPair 42 = .ok (.iconst 1, 1) := by decide +kernel
theorem dX8_faultOfPair_43 : decode cX8_faultOfPair 43 = .ok (.iadd, 1) := by decide +kernel
theorem dX8_faultOfPair_44 : decode cX8_faultOfPair 44 = .ok (.invokevirtual 37, 3) := by decide +kernel
theorem dX8_faultOfPair_47 : decode cX8_faultOfPair 47 = .ok (.iload_n 1, 1) := by decide +kernel
theorem dX8_faultOfPair_48 : decode cX8_faultOfPair 48 = .ok (.invokestatic 23, 3) := by decide +kernel
theorem dX8_faultOfPair_51 : decode cX8_faultOfPair 51 = .ok (.iadd, 1) := by decide +kernel
theorem dX8_faultOfPair_52 : decode cX8_faultOfPair 52 = .ok (.istore_n 2, 1) := by decide +kernel
theorem dX8_faultOfPair_53 : decode cX8_faultOfPair 53 = .ok (.iload_n 2, 1) := by decide +kernel
theorem dX8_faultOfPair_54 : decode cX8_faultOfPair 54 = .ok (.iconst 2, 1) := by decide +kernel
theorem dX8_faultOfPair_55 : decode cX8_faultOfPair 55 = .ok (.iload_n 1, 1) := by decide +kernel
theorem dX8_faultOfPair_56 : decode cX8_faultOfPair 56 = .ok (.imul, 1) := by decide +kernel
theorem dX8_faultOfPair_57 : decode cX8_faultOfPair 57 = .ok (.iconst 1, 1) := by decide +kernel
theorem dX8_faultOfPair_58 : decode cX8_faultOfPair 58 = .ok (.iadd, 1) := by decide +kernel
theorem dX8_faultOfPair_59 : decode cX8_faultOfPair 59 = .ok (.if_icmp .lt 11, 3) := by decide +kernel
theorem dX8_faultOfPair_62 : decode cX8_faultOfPair 62 = .ok (.iload_n 2, 1) := by decide +kernel
theorem dX8_faultOfPair_63 : decode cX8_faultOfPair 63 = .ok (.aload_n 0, 1) := by decide +kernel
theorem dX8_faultOfPair_64 : decode cX8_faultOfPair 64 = .ok (.getfield 15, 3) := by decide +kernel
theorem dX8_faultOfPair_67 : decode cX8_faultOfPair 67 = .ok (.if_icmp .ge 7, 3) := by decide +kernel
theorem dX8_faultOfPair_70 : decode cX8_faultOfPair 70 = .ok (.iload_n 2, 1) := by decide +kernel
theorem dX8_faultOfPair_71 : decode cX8_faultOfPair 71 = .ok (.goto 4, 3) := by decide +kernel
theorem dX8_faultOfPair_74 : decode cX8_faultOfPair 74 = .ok (.iconst (-1), 1) := by decide +kernel
theorem dX8_faultOfPair_75 : decode cX8_faultOfPair 75 = .ok (.ireturn, 1) := by decide +kernel
theorem dX8_faultOfSeason_0 : decode cX8_faultOfSeason 0 = .ok (.aload_n 0, 1) := by decide +kernel
theorem dX8_faultOfSeason_1 : decode cX8_faultOfSeason 1 = .ok (.getfield 15, 3) := by decide +kernel
theorem dX8_faultOfSeason_4 : decode cX8_faultOfSeason 4 = .ok (.bipush 60, 2) := by decide +kernel
theorem dX8_faultOfSeason_6 : decode cX8_faultOfSeason 6 = .ok (.invokestatic 23, 3) := by decide +kernel
theorem dX8_faultOfSeason_9 : decode cX8_faultOfSeason 9 = .ok (.istore_n 1, 1) := by decide +kernel
theorem dX8_faultOfSeason_10 : decode cX8_faultOfSeason 10 = .ok (.iconst 0, 1) := by decide +kernel
theorem dX8_faultOfSeason_11 : decode cX8_faultOfSeason 11 = .ok (.istore_n 2, 1) := by decide +kernel
theorem dX8_faultOfSeason_12 : decode cX8_faultOfSeason 12 = .ok (.iconst (-1), 1) := by decide +kernel
theorem dX8_faultOfSeason_13 : decode cX8_faultOfSeason 13 = .ok (.istore_n 3, 1) := by decide +kernel
theorem dX8_faultOfSeason_14 : decode cX8_faultOfSeason 14 = .ok (.iconst 0, 1) := by decide +kernel
theorem dX8_faultOfSeason_15 : decode cX8_faultOfSeason 15 = .ok (.istore 4, 2) := by decide +kernel
theorem dX8_faultOfSeason_17 : decode cX8_faultOfSeason 17 = .ok (.iload 4, 2) := by decide +kernel
theorem dX8_faultOfSeason_19 : decode cX8_faultOfSeason 19 = .ok (.iload_n 1, 1) := by decide +kernel
theorem dX8_faultOfSeason_20 : decode cX8_faultOfSeason 20 = .ok (.if_icmp .ge 105, 3) := by decide +kernel
theorem dX8_faultOfSeason_23 : decode cX8_faultOfSeason 23 = .ok (.iload_n 2, 1) := by decide +kernel
theorem dX8_faultOfSeason_24 : decode cX8_faultOfSeason 24 = .ok (.ifCond .le 25, 3) := by decide +kernel
theorem dX8_faultOfSeason_27 : decode cX8_faultOfSeason 27 = .ok (.aload_n 0, 1) := by decide +kernel
theorem dX8_faultOfSeason_28 : decode cX8_faultOfSeason 28 = .ok (.iload 4, 2) := by decide +kernel
theorem dX8_faultOfSeason_30 : decode cX8_faultOfSeason 30 = .ok (.bipush 48, 2) := by decide +kernel
theorem dX8_faultOfSeason_32 : decode cX8_faultOfSeason 32 = .ok (.bipush 57, 2) := by decide +kernel
theorem dX8_faultOfSeason_34 : decode cX8_faultOfSeason 34 = .ok (.invokevirtual 19, 3) := by decide +kernel
theorem dX8_faultOfSeason_37 : decode cX8_faultOfSeason 37 = .ok (.ifCond .ne 6, 3) := by decide +kernel
theorem dX8_faultOfSeason_40 : decode cX8_faultOfSeason 40 = .ok (.iload 4, 2) := by decide +kernel
theorem dX8_faultOfSeason_42 : decode cX8_faultOfSeason 42 = .ok (.ireturn, 1) := by decide +kernel
theorem dX8_faultOfSeason_43 : decode cX8_faultOfSeason 43 = .ok (.iinc 2 (-1), 3) := by decide +kernel
theorem dX8_faultOfSeason_46 : decode cX8_faultOfSeason 46 = .ok (.goto 73, 3) := by decide +kernel
theorem dX8_faultOfSeason_49 : decode cX8_faultOfSeason 49 = .ok (.iload_n 3, 1) := by decide +kernel
theorem dX8_faultOfSeason_50 : decode cX8_faultOfSeason 50 = .ok (.iconst (-1), 1) := by decide +kernel
theorem dX8_faultOfSeason_51 : decode cX8_faultOfSeason 51 = .ok (.if_icmp .eq 31, 3) := by decide +kernel
theorem dX8_faultOfSeason_54 : decode cX8_faultOfSeason 54 = .ok (.aload_n 0, 1) := by decide +kernel
theorem dX8_faultOfSeason_55 : decode cX8_faultOfSeason 55 = .ok (.iload 4, 2) := by decide +kernel
theorem dX8_faultOfSeason_57 : decode cX8_faultOfSeason 57 = .ok (.bipush 97, 2) := by decide +kernel
theorem dX8_faultOfSeason_59 : decode cX8_faultOfSeason 59 = .ok (.bipush 104, 2) := by decide +kernel
theorem dX8_faultOfSeason_61 : decode cX8_faultOfSeason 61 = .ok (.invokevirtual 19, 3) := by decide +kernel
theorem dX8_faultOfSeason_64 : decode cX8_faultOfSeason 64 = .ok (.ifCond .eq 18, 3) := by decide +kernel
theorem dX8_faultOfSeason_67 : decode cX8_faultOfSeason 67 = .ok (.iload_n 3, 1) := by decide +kernel
theorem dX8_faultOfSeason_68 : decode cX8_faultOfSeason 68 = .ok (.bipush 6, 2) := by decide +kernel
theorem dX8_faultOfSeason_70 : decode cX8_faultOfSeason 70 = .ok (.if_icmp .ne 6, 3) := by decide +kernel
theorem dX8_faultOfSeason_73 : decode cX8_faultOfSeason 73 = .ok (.iload 4, 2) := by decide +kernel
theorem dX8_faultOfSeason_75 : decode cX8_faultOfSeason 75 = .ok (.ireturn, 1) := by decide +kernel
theorem dX8_faultOfSeason_76 : decode cX8_faultOfSeason 76 = .ok (.iinc 3 1, 3) := by decide +kernel
theorem dX8_faultOfSeason_79 : decode cX8_faultOfSeason 79 = .ok (.goto 40, 3) := by decide +kernel
theorem dX8_faultOfSeason_82 : decode cX8_faultOfSeason 82 = .ok (.aload_n 0, 1) := by decide +kernel
theorem dX8_faultOfSeason_83 : decode cX8_faultOfSeason 83 = .ok (.iload 4, 2) := by decide +kernel
theorem dX8_faultOfSeason_85 : decode cX8_faultOfSeason 85 = .ok (.invokevirtual 40, 3) := by decide +kernel
theorem dX8_faultOfSeason_88 : decode cX8_faultOfSeason 88 = .ok (.istore_n 2, 1) := by decide +kernel
theorem dX8_faultOfSeason_89 : decode cX8_faultOfSeason 89 = .ok (.iload_n 2, 1) := by decide +kernel
theorem dX8_faultOfSeason_90 : decode cX8_faultOfSeason 90 = .ok (.ifCond .eq 7, 3) := by decide +kernel
theorem dX8_faultOfSeason_93 : decode cX8_faultOfSeason 93 = .ok (.iload_n 3, 1) := by decide +kernel
theorem dX8_faultOfSeason_94 : decode cX8_faultOfSeason 94 = .ok (.ifCond .ne 6, 3) := by decide +kernel
theorem dX8_faultOfSeason_97 : decode cX8_faultOfSeason 97 = .ok (.iload 4, 2) := by decide +kernel
theorem dX8_faultOfSeason_99 : decode cX8_faultOfSeason 99 = .ok (.ireturn, 1) := by decide +kernel
theorem dX8_faultOfSeason_100 : decode cX8_faultOfSeason 100 = .ok (.aload_n 0, 1) := by decide +kernel
theorem dX8_faultOfSeason_101 : decode cX8_faultOfSeason 101 = .ok (.iload 4, 2) := by decide +kernel
theorem dX8_faultOfSeason_103 : decode cX8_faultOfSeason 103 = .ok (.bipush 115, 2) := by decide +kernel
theorem dX8_faultOfSeason_105 : decode cX8_faultOfSeason 105 = .ok (.bipush 115, 2) := by decide +kernel
theorem dX8_faultOfSeason_107 : decode cX8_faultOfSeason 107 = .ok (.invokevirtual 19, 3) := by decide +kernel
theorem dX8_faultOfSeason_110 : decode cX8_faultOfSeason 110 = .ok (.ifCond .eq 7, 3) := by decide +kernel
theorem dX8_faultOfSeason_113 : decode cX8_faultOfSeason 113 = .ok (.iconst 0, 1) := by decide +kernel
theorem dX8_faultOfSeason_114 : decode cX8_faultOfSeason 114 = .ok (.goto 4, 3) := by decide +kernel
theorem dX8_faultOfSeason_117 : decode cX8_faultOfSeason 117 = .ok (.iconst (-1), 1) := by decide +kernel
theorem dX8_faultOfSeason_118 : decode cX8_faultOfSeason 118 = .ok (.istore_n 3, 1) := by decide +kernel
theorem dX8_faultOfSeason_119 : decode cX8_faultOfSeason 119 = .ok (.iinc 4 1, 3) := by decide +kernel
theorem dX8_faultOfSeason_122 : decode cX8_faultOfSeason 122 = .ok (.goto (-105), 3) := by decide +kernel
theorem dX8_faultOfSeason_125 : decode cX8_faultOfSeason 125 = .ok (.iload_n 2, 1) := by decide +kernel
theorem dX8_faultOfSeason_126 : decode cX8_faultOfSeason 126 = .ok (.ifCond .gt 7, 3) := by decide +kernel
theorem dX8_faultOfSeason_129 : decode cX8_faultOfSeason 129 = .ok (.iload_n 3, 1) := by decide +kernel
theorem dX8_faultOfSeason_130 : decode cX8_faultOfSeason 130 = .ok (.ifCond .ne 7, 3) := by decide +kernel
theorem dX8_faultOfSeason_133 : decode cX8_faultOfSeason 133 = .ok (.iconst 1, 1) := by decide +kernel
theorem dX8_faultOfSeason_134 : decode cX8_faultOfSeason 134 = .ok (.goto 4, 3) := by decide +kernel
theorem dX8_faultOfSeason_137 : decode cX8_faultOfSeason 137 = .ok (.iconst 0, 1) := by decide +kernel
theorem dX8_faultOfSeason_138 : decode cX8_faultOfSeason 138 = .ok (.istore 4, 2) := by decide +kernel
theorem dX8_faultOfSeason_140 : decode cX8_faultOfSeason 140 = .ok (.iload 4, 2) := by decide +kernel
theorem dX8_faultOfSeason_142 : decode cX8_faultOfSeason 142 = .ok (.ifCond .ne 12, 3) := by decide +kernel
theorem dX8_faultOfSeason_145 : decode cX8_faultOfSeason 145 = .ok (.aload_n 0, 1) := by decide +kernel
theorem dX8_faultOfSeason_146 : decode cX8_faultOfSeason 146 = .ok (.getfield 15, 3) := by decide +kernel
theorem dX8_faultOfSeason_149 : decode cX8_faultOfSeason 149 = .ok (.bipush 60, 2) := by decide +kernel
theorem dX8_faultOfSeason_151 : decode cX8_faultOfSeason 151 = .ok (.if_icmp .le 7, 3) := by decide +kernel
theorem dX8_faultOfSeason_154 : decode cX8_faultOfSeason 154 = .ok (.iload_n 1, 1) := by decide +kernel
theorem dX8_faultOfSeason_155 : decode cX8_faultOfSeason 155 = .ok (.goto 4, 3) := by decide +kernel
theorem dX8_faultOfSeason_158 : decode cX8_faultOfSeason 158 = .ok (.iconst (-1), 1) := by decide +kernel
theorem dX8_faultOfSeason_159 : decode cX8_faultOfSeason 159 = .ok (.ireturn, 1) := by decide +kernel
theorem dX8_digitsOfAct_0 : decode cX8_digitsOfAct 0 = .ok (.aload_n 0, 1) := by decide +kernel
theorem dX8_digitsOfAct_1 : decode cX8_digitsOfAct 1 = .ok (.iload_n 1, 1) := by decide +kernel
theorem dX8_digitsOfAct_2 : decode cX8_digitsOfAct 2 = .ok (.bipush 110, 2) := by decide +kernel
theorem dX8_digitsOfAct_4 : decode cX8_digitsOfAct 4 = .ok (.bipush 110, 2) := by decide +kernel
theorem dX8_digitsOfAct_6 : decode cX8_digitsOfAct 6 = .ok (.invokevirtual 19, 3) := by decide +kernel
theorem dX8_digitsOfAct_9 : decode cX8_digitsOfAct 9 = .ok (.ifCond .ne 15, 3) := by decide +kernel
theorem dX8_digitsOfAct_12 : decode cX8_digitsOfAct 12 = .ok (.aload_n 0, 1) := by decide +kernel
theorem dX8_digitsOfAct_13 : decode cX8_digitsOfAct 13 = .ok (.iload_n 1, 1) := by decide +kernel
theorem dX8_digitsOfAct_14 : decode cX8_digitsOfAct 14 = .ok (.bipush 120, 2) := by decide +kernel
theorem dX8_digitsOfAct_16 : decode cX8_digitsOfAct 16 = .ok (.bipush 120, 2) := by decide +kernel
theorem dX8_digitsOfAct_18 : decode cX8_digitsOfAct 18 = .ok (.invokevirtual 19, 3) := by decide +kernel
theorem dX8_digitsOfAct_21 : decode cX8_digitsOfAct 21 = .ok (.ifCond .eq 5, 3) := by decide +kernel
theorem dX8_digitsOfAct_24 : decode cX8_digitsOfAct 24 = .ok (.iconst 1, 1) := by decide +kernel
theorem dX8_digitsOfAct_25 : decode cX8_digitsOfAct 25 = .ok (.ireturn, 1) := by decide +kernel
theorem dX8_digitsOfAct_26 : decode cX8_digitsOfAct 26 = .ok (.aload_n 0, 1) := by decide +kernel
theorem dX8_digitsOfAct_27 : decode cX8_digitsOfAct 27 = .ok (.iload_n 1, 1) := by decide +kernel
theorem dX8_digitsOfAct_28 : decode cX8_digitsOfAct 28 = .ok (.bipush 115, 2) := by decide +kernel
theorem dX8_digitsOfAct_30 : decode cX8_digitsOfAct 30 = .ok (.bipush 115, 2) := by decide +kernel
theorem dX8_digitsOfAct_32 : decode cX8_digitsOfAct 32 = .ok (.invokevirtual 19, 3) := by decide +kernel
theorem dX8_digitsOfAct_35 : decode cX8_digitsOfAct 35 = .ok (.ifCond .eq 5, 3) := by decide +kernel
theorem dX8_digitsOfAct_38 : decode cX8_digitsOfAct 38 = .ok (.iconst 2, 1) := by decide +kernel
theorem dX8_digitsOfAct_39 : decode cX8_digitsOfAct 39 = .ok (.ireturn, 1) := by decide +kernel
theorem dX8_digitsOfAct_40 : decode cX8_digitsOfAct 40 = .ok (.aload_n 0, 1) := by decide +kernel
theorem dX8_digitsOfAct_41 : decode cX8_digitsOfAct 41 = .ok (.iload_n 1, 1) := by decide +kernel
theorem dX8_digitsOfAct_42 : decode cX8_digitsOfAct 42 = .ok (.bipush 109, 2) := by decide +kernel
theorem dX8_digitsOfAct_44 : decode cX8_digitsOfAct 44 = .ok (.bipush 109, 2) := by decide +kernel
theorem dX8_digitsOfAct_46 : decode cX8_digitsOfAct 46 = .ok (.invokevirtual 19, 3) := by decide +kernel
theorem dX8_digitsOfAct_49 : decode cX8_digitsOfAct 49 = .ok (.ifCond .eq 7, 3) := by decide +kernel
theorem dX8_digitsOfAct_52 : decode cX8_digitsOfAct 52 = .ok (.iconst 3, 1) := by decide +kernel
theorem dX8_digitsOfAct_53 : decode cX8_digitsOfAct 53 = .ok (.goto 4, 3) := by decide +kernel
theorem dX8_digitsOfAct_56 : decode cX8_digitsOfAct 56 = .ok (.iconst 0, 1) := by decide +kernel
theorem dX8_digitsOfAct_57 : decode cX8_digitsOfAct 57 = .ok (.ireturn, 1) := by decide +kernel
theorem dX8_signsOfAct_0 : decode cX8_signsOfAct 0 = .ok (.aload_n 0, 1) := by decide +kernel
theorem dX8_signsOfAct_1 : decode cX8_signsOfAct 1 = .ok (.iload_n 1, 1) := by decide +kernel
theorem dX8_signsOfAct_2 : decode cX8_signsOfAct 2 = .ok (.invokevirtual 40, 3) := by decide +kernel
theorem dX8_signsOfAct_5 : decode cX8_signsOfAct 5 = .ok (.istore_n 2, 1) := by decide +kernel
theorem dX8_signsOfAct_6 : decode cX8_signsOfAct 6 = .ok (.aload_n 0, 1) := by decide +kernel
theorem dX8_signsOfAct_7 : decode cX8_signsOfAct 7 = .ok (.iload_n 1, 1) := by decide +kernel
theorem dX8_signsOfAct_8 : decode cX8_signsOfAct 8 = .ok (.bipush 115, 2) := by decide +kernel
theorem dX8_signsOfAct_10 : decode cX8_signsOfAct 10 = .ok (.bipush 115, 2) := by decide +kernel
theorem dX8_signsOfAct_12 : decode cX8_signsOfAct 12 = .ok (.invokevirtual 19, 3) := by decide +kernel
theorem dX8_signsOfAct_15 : decode cX8_signsOfAct 15 = .ok (.ifCond .eq 13, 3) := by decide +kernel
theorem dX8_signsOfAct_18 : decode cX8_signsOfAct 18 = .ok (.aload_n 0, 1) := by decide +kernel
theorem dX8_signsOfAct_19 : decode cX8_signsOfAct 19 = .ok (.iload_n 1, 1) := by decide +kernel
theorem dX8_signsOfAct_20 : decode cX8_signsOfAct 20 = .ok (.iconst 3, 1) := by decide +kernel
theorem dX8_signsOfAct_21 : decode cX8_signsOfAct 21 = .ok (.iadd, 1) := by decide +kernel
theorem dX8_signsOfAct_22 : decode cX8_signsOfAct 22 = .ok (.invokevirtual 37, 3) := by decide +kernel
theorem dX8_signsOfAct_25 : decode cX8_signsOfAct 25 = .ok (.goto 4, 3) := by decide +kernel
theorem dX8_signsOfAct_28 : decode cX8_signsOfAct 28 = .ok (.iconst 0, 1) := by decide +kernel
theorem dX8_signsOfAct_29 : decode cX8_signsOfAct 29 = .ok (.istore_n 3, 1) := by decide +kernel
theorem dX8_signsOfAct_30 : decode cX8_signsOfAct 30 = .ok (.iconst 1, 1) := by decide +kernel
theorem dX8_signsOfAct_31 : decode cX8_signsOfAct 31 = .ok (.iload_n 2, 1) := by decide +kernel
theorem dX8_signsOfAct_32 : decode cX8_signsOfAct 32 = .ok (.iadd, 1) := by decide +kernel
theorem dX8_signsOfAct_33 : decode cX8_signsOfAct 33 = .ok (.iload_n 3, 1) := by decide +kernel
theorem dX8_signsOfAct_34 : decode cX8_signsOfAct 34 = .ok (.iadd, 1) := by decide +kernel
theorem dX8_signsOfAct_35 : decode cX8_signsOfAct 35 = .ok (.ireturn, 1) := by decide +kernel
theorem dX9_init_0 : decode cX9_init 0 = .ok (.aload_n 0, 1) := by decide +kernel
theorem dX9_init_1 : decode cX9_init 1 = .ok (.invokespecial 3, 3) := by decide +kernel
theorem dX9_init_4 : decode cX9_init 4 = .ok (.aload_n 0, 1) := by decide +kernel
theorem dX9_init_5 : decode cX9_init 5 = .ok (.aload_n 1, 1) := by decide +kernel
theorem dX9_init_6 : decode cX9_init 6 = .ok (.putfield 9, 3) := by decide +kernel
theorem dX9_init_9 : decode cX9_init 9 = .ok (.aload_n 0, 1) := by decide +kernel
theorem dX9_init_10 : decode cX9_init 10 = .ok (.bipush 64, 2) := by decide +kernel
theorem dX9_init_12 : decode cX9_init 12 = .ok (.newarray .int, 2) := by decide +kernel
theorem dX9_init_14 : decode cX9_init 14 = .ok (.putfield 15, 3) := by decide +kernel
theorem dX9_init_17 : decode cX9_init 17 = .ok (.aload_n 0, 1) := by decide +kernel
theorem dX9_init_18 : decode cX9_init 18 = .ok (.sipush 2048, 3) := by decide +kernel
theorem dX9_init_21 : decode cX9_init 21 = .ok (.newarray .int, 2) := by decide +kernel
theorem dX9_init_23 : decode cX9_init 23 = .ok (.putfield 19, 3) := by decide +kernel
theorem dX9_init_26 : decode cX9_init 26 = .ok (.return_, 1) := by decide +kernel
theorem dX9_measure_0 : decode cX9_measure 0 = .ok (.iconst 0, 1) := by decide +kernel
theorem dX9_measure_1 : decode cX9_measure 1 = .ok (.istore_n 1, 1) := by decide +kernel
theorem dX9_measure_2 : decode cX9_measure 2 = .ok (.iload_n 1, 1) := by decide +kernel
theorem dX9_measure_3 : decode cX9_measure 3 = .ok (.bipush 8, 2) := by decide +kernel
theorem dX9_measure_5 : decode cX9_measure 5 = .ok (.if_icmp .ge 46, 3) := by decide +kernel
theorem dX9_measure_8 : decode cX9_measure 8 = .ok (.iconst 0, 1) := by decide +kernel
theorem dX9_measure_9 : decode cX9_measure 9 = .ok (.istore_n 2, 1) := by decide +kernel
theorem dX9_measure_10 : decode cX9_measure 10 = .ok (.iload_n 2, 1) := by decide +kernel
theorem dX9_measure_11 : decode cX9_measure 11 = .ok (.bipush 8, 2) := by decide +kernel
theorem dX9_measure_13 : decode cX9_measure 13 = .ok (.if_icmp .ge 32, 3) := by decide +kernel
theorem dX9_measure_16 : decode cX9_measure 16 = .ok (.aload_n 0, 1) := by decide +kernel
theorem dX9_measure_17 : decode cX9_measure 17 = .ok (.getfield 15, 3) := by decide +kernel
theorem dX9_measure_20 : decode cX9_measure 20 = .ok (.iload_n 1, 1) := by decide +kernel
theorem dX9_measure_21 : decode cX9_measure 21 = .ok (.bipush 8, 2) := by decide +kernel
theorem dX9_measure_23 : decode cX9_measure 23 = .ok (.imul, 1) := by decide +kernel
theorem dX9_measure_24 : decode cX9_measure 24 = .ok (.iload_n 2, 1) := by decide +kernel
theorem dX9_measure_25 : decode cX9_measure 25 = .ok (.iadd, 1) := by decide +kernel
theorem dX9_measure_26 : decode cX9_measure 26 = .ok (.iload_n 1, 1) := by decide +kernel
theorem dX9_measure_27 : decode cX9_measure 27 = .ok (.iload_n 2, 1) := by decide +kernel
theorem dX9_measure_28 : decode cX9_measure 28 = .ok (.if_icmp .ne 7, 3) := by decide +kernel
theorem dX9_measure_31 : decode cX9_measure 31 = .ok (.iconst 0, 1) := by decide +kernel
theorem dX9_measure_32 : decode cX9_measure 32 = .ok (.goto 6, 3) := by decide +kernel
theorem dX9_measure_35 : decode cX9_measure 35 = .ok (.sipush 1000, 3) := by decide +kernel
theorem dX9_measure_38 : decode cX9_measure 38 = .ok (.iastore, 1) := by decide +kernel
theorem dX9_measure_39 : decode cX9_measure 39 = .ok (.iinc 2 1, 3) := by decide +kernel
theorem dX9_measure_42 : decode cX9_measure 42 = .ok (.goto (-32), 3) := by decide +kernel
theorem dX9_measure_45 : decode cX9_measure 45 = .ok (.iinc 1 1, 3) := by decide +kernel
theorem dX9_measure_48 : decode cX9_measure 48 = .ok (.goto (-46), 3) := by decide +kernel
theorem dX9_measure_51 : decode cX9_measure 51 = .ok (.iconst 0, 1) := by decide +kernel
theorem dX9_measure_52 : decode cX9_measure 52 = .ok (.istore_n 1, 1) := by decide +kernel
theorem dX9_measure_53 : decode cX9_measure 53 = .ok (.iload_n 1, 1) := by decide +kernel
theorem dX9_measure_54 : decode cX9_measure 54 = .ok (.aload_n 0, 1) := by decide +kernel
theorem dX9_measure_55 : decode cX9_measure 55 = .ok (.getfield 9, 3) := by decide +kernel
theorem dX9_measure_58 : decode cX9_measure 58 = .ok (.getfield 22, 3) := by decide +kernel
theorem dX9_measure_61 : decode cX9_measure 61 = .ok (.if_icmp .ge 88, 3) := by decide +kernel
theorem dX9_measure_64 : decode cX9_measure 64 = .ok (.aload_n 0, 1) := by decide +kernel
theorem dX9_measure_65 : decode cX9_measure 65 = .ok (.getfield 9, 3) := by decide +kernel
theorem dX9_measure_68 : decode cX9_measure 68 = .ok (.iload_n 1, 1) := by decide +kernel
theorem dX9_measure_69 : decode cX9_measure 69 = .ok (.invokevirtual 28, 3) := by decide +kernel
theorem dX9_measure_72 : decode cX9_measure 72 = .ok (.ifCond .eq 71, 3) := by decide +kernel
theorem dX9_measure_75 : decode cX9_measure 75 = .ok (.aload_n 0, 1) := by decide +kernel
theorem dX9_measure_76 : decode cX9_measure 76 = .ok (.aload_n 0, 1) := by decide +kernel
theorem dX9_measure_77 : decode cX9_measure 77 = .ok (.getfield 9, 3) := by decide +kernel
theorem dX9_measure_80 : decode cX9_measure 80 = .ok (.getfield 32, 3) := by decide +kernel
theorem dX9_measure_83 : decode cX9_measure 83 = .ok (.iload_n 1, 1) := by decide +kernel
theorem dX9_measure_84 : decode cX9_measure 84 = .ok (.iaload, 1) := by decide +kernel
theorem dX9_measure_85 : decode cX9_measure 85 = .ok (.aload_n 0, 1) := by decide +kernel
theorem dX9_measure_86 : decode cX9_measure 86 = .ok (.getfield 9, 3) := by decide +kernel
theorem dX9_measure_89 : decode cX9_measure 89 = .ok (.getfield 35, 3) := by decide +kernel
theorem dX9_measure_92 : decode cX9_measure 92 = .ok (.iload_n 1, 1) := by decide +kernel
theorem dX9_measure_93 : decode cX9_measure 93 = .ok (.iaload, 1) := by decide +kernel
theorem dX9_measure_94 : decode cX9_measure 94 = .ok (.aload_n 0, 1) := by decide +kernel
theorem dX9_measure_95 : decode cX9_measure 95 = .ok (.getfield 9, 3) := by decide +kernel
theorem dX9_measure_98 : decode cX9_measure 98 = .ok (.getfield 38, 3) := by decide +kernel
theorem dX9_measure_101 : decode cX9_measure 101 = .ok (.getfield 42, 3) := by decide +kernel
theorem dX9_measure_104 : decode cX9_measure 104 = .ok (.iload_n 1, 1) := by decide +kernel
theorem dX9_measure_105 : decode cX9_measure 105 = .ok (.iaload, 1) := by decide +kernel
theorem dX9_measure_106 : decode cX9_measure 106 = .ok (.invokevirtual 47, 3) := by decide +kernel
theorem dX9_measure_109 : decode cX9_measure 109 = .ok (.aload_n 0, 1) := by decide +kernel
theorem dX9_measure_110 : decode cX9_measure 110 = .ok (.aload_n 0, 1) := by decide +kernel
theorem dX9_measure_111 : decode cX9_measure 111 = .ok (.getfield 9, 3) := by decide +kernel
theorem dX9_measure_114 : decode cX9_measure 114 = .ok (.getfield 35, 3) := by decide +kernel
theorem dX9_measure_117 : decode cX9_measure 117 = .ok (.iload_n 1, 1) := by decide +kernel
theorem dX9_measure_118 : decode cX9_measure 118 = .ok (.iaload, 1) := by decide +kernel
theorem dX9_measure_119 : decode cX9_measure 119 = .ok (.aload_n 0, 1) := by decide +kernel
theorem dX9_measure_120 : decode cX9_measure 120 = .ok (.getfield 9, 3) := by decide +kernel
theorem dX9_measure_123 : decode cX9_measure 123 = .ok (.getfield 32, 3) := by decide +kernel
theorem dX9_measure_126 : decode cX9_measure 126 = .ok (.iload_n 1, 1) := by decide +kernel
theorem dX9_measure_127 : decode cX9_measure 127 = .ok (.iaload, 1) := by decide +kernel
theorem dX9_measure_128 : decode cX9_measure 128 = .ok (.aload_n 0, 1) := by decide +kernel
theorem dX9_measure_129 : decode cX9_measure 129 = .ok (.getfield 9, 3) := by decide +kernel
theorem dX9_measure_132 : decode cX9_measure 132 = .ok (.getfield 38, 3) := by decide +kernel
theorem dX9_measure_135 : decode cX9_measure 135 = .ok (.getfield 42, 3) := by decide +kernel
theorem dX9_measure_138 : decode cX9_measure 138 = .ok (.iload_n 1, 1) := by decide +kernel
theorem dX9_measure_139 : decode cX9_measure 139 = .ok (.iaload, 1) := by decide +kernel
theorem dX9_measure_140 : decode cX9_measure 140 = .ok (.invokevirtual 47, 3) := by decide +kernel
theorem dX9_measure_143 : decode cX9_measure 143 = .ok (.iinc 1 1, 3) := by decide +kernel
theorem dX9_measure_146 : decode cX9_measure 146 = .ok (.goto (-93), 3) := by decide +kernel
theorem dX9_measure_149 : decode cX9_measure 149 = .ok (.iconst 0, 1) := by decide +kernel
theorem dX9_measure_150 : decode cX9_measure 150 = .ok (.istore_n 1, 1) := by decide +kernel
theorem dX9_measure_151 : decode cX9_measure 151 = .ok (.iload_n 1, 1) := by decide +kernel
theorem dX9_measure_152 : decode cX9_measure 152 = .ok (.bipush 8, 2) := by decide +kernel
theorem dX9_measure_154 : decode cX9_measure 154 = .ok (.if_icmp .ge 56, 3) := by decide +kernel
theorem dX9_measure_157 : decode cX9_measure 157 = .ok (.iconst 0, 1) := by decide +kernel
theorem dX9_measure_158 : decode cX9_measure 158 = .ok (.istore_n 2, 1) := by decide +kernel
theorem dX9_measure_159 : decode cX9_measure 159 = .ok (.iload_n 2, 1) := by decide +kernel
theorem dX9_measure_160 : decode cX9_measure 160 = .ok (.bipush 8, 2) := by decide +kernel
theorem dX9_measure_162 : decode cX9_measure 162 = .ok (.if_icmp .ge 42, 3) := by decide +kernel
theorem dX9_measure_165 : decode cX9_measure 165 = .ok (.iconst 0, 1) := by decide +kernel
theorem dX9_measure_166 : decode cX9_measure 166 = .ok (.istore_n 3, 1) := by decide +kernel
theorem dX9_measure_167 : decode cX9_measure 167 = .ok (.iload_n 3, 1) := by decide +kernel
theorem dX9_measure_168 : decode cX9_measure 168 = .ok (.bipush 8, 2) := by decide +kernel
theorem dX9_measure_170 : decode cX9_measure 170 = .ok (.if_icmp .ge 28, 3) := by decide +kernel
theorem dX9_measure_173 : decode cX9_measure 173 = .ok (.aload_n 0, 1) := by decide +kernel
theorem dX9_measure_174 : decode cX9_measure 174 = .ok (.iload_n 2, 1) := by decide +kernel
theorem dX9_measure_175 : decode cX9_measure 175 = .ok (.iload_n 3, 1) := by decide +kernel
theorem dX9_measure_176 : decode cX9_measure 176 = .ok (.aload_n 0, 1) := by decide +kernel
theorem dX9_measure_177 : decode cX9_measure 177 = .ok (.iload_n 2, 1) := by decide +kernel
theorem dX9_measure_178 : decode cX9_measure 178 = .ok (.iload_n 1, 1) := by decide +kernel
theorem dX9_measure_179 : decode cX9_measure 179 = .ok (.invokevirtual 51, 3) := by decide +kernel
theorem dX9_measure_182 : decode cX9_measure 182 = .ok (.aload_n 0, 1) := by decide +kernel
theorem dX9_measure_183 : decode cX9_measure 183 = .ok (.iload_n 1, 1) := by decide +kernel
theorem dX9_measure_184 : decode cX9_measure 184 = .ok (.iload_n 3, 1) := by decide +kernel
theorem dX9_measure_185 : decode cX9_measure 185 = .ok (.invokevirtual 51, 3) := by decide +kernel
theorem dX9_measure_188 : decode cX9_measure 188 = .ok (.iadd, 1) := by decide +kernel
theorem dX9_measure_189 : decode cX9_measure 189 = .ok (.invokevirtual 47, 3) := by decide +kernel
theorem dX9_measure_192 : decode cX9_measure 192 = .ok (.iinc 3 1, 3) := by decide +kernel
theorem dX9_measure_195 : decode cX9_measure 195 = .ok (.goto (-28), 3) := by decide +kernel
theorem dX9_measure_198 : decode cX9_measure 198 = .ok (.iinc 2 1, 3) := by decide +kernel
theorem dX9_measure_201 : decode cX9_measure 201 = .ok (.goto (-42), 3) := by decide +kernel
theorem dX9_measure_204 : decode cX9_measure 204 = .ok (.iinc 1 1, 3) := by decide +kernel
theorem dX9_measure_207 : decode cX9_measure 207 = .ok (.goto (-56), 3) := by decide +kernel
theorem dX9_measure_210 : decode cX9_measure 210 = .ok (.return_, 1) := by decide +kernel
theorem dX9_shorten_0 : decode cX9_shorten 0 = .ok (.aload_n 0, 1) := by decide +kernel
theorem dX9_shorten_1 : decode cX9_shorten 1 = .ok (.getfield 15, 3) := by decide +kernel
theorem dX9_shorten_4 : decode cX9_shorten 4 = .ok (.iload_n 1, 1) := by decide +kernel
theorem dX9_shorten_5 : decode cX9_shorten 5 = .ok (.bipush 8, 2) := by decide +kernel
theorem dX9_shorten_7 : decode cX9_shorten 7 = .ok (.imul, 1) := by decide +kernel
theorem dX9_shorten_8 : decode cX9_shorten 8 = .ok (.iload_n 2, 1) := by decide +kernel
theorem dX9_shorten_9 : decode cX9_shorten 9 = .ok (.iadd, 1) := by decide +kernel
theorem dX9_shorten_10 : decode cX9_shorten 10 = .ok (.aload_n 0, 1) := by decide +kernel
theorem dX9_shorten_11 : decode cX9_shorten 11 = .ok (.getfield 15, 3) := by decide +kernel
theorem dX9_shorten_14 : decode cX9_shorten 14 = .ok (.iload_n 1, 1) := by decide +kernel
theorem dX9_shorten_15 : decode cX9_shorten 15 = .ok (.bipush 8, 2) := by decide +kernel
theorem dX9_shorten_17 : decode cX9_shorten 17 = .ok (.imul, 1) := by decide +kernel
theorem dX9_shorten_18 : decode cX9_shorten 18 = .ok (.iload_n 2, 1) := by decide +kernel
theorem dX9_shorten_19 : decode cX9_shorten 19 = .ok (.iadd, 1) := by decide +kernel
theorem dX9_shorten_20 : decode cX9_shorten 20 = .ok (.iaload, 1) := by decide +kernel
theorem dX9_shorten_21 : decode cX9_shorten 21 = .ok (.iload_n 3, 1) := by decide +kernel
theorem dX9_shorten_22 : decode cX9_shorten 22 = .ok (.invokestatic 55, 3) := by decide +kernel
theorem dX9_shorten_25 : decode cX9_shorten 25 = .ok (.iastore, 1) := by decide +kernel
theorem dX9_shorten_26 : decode cX9_shorten 26 = .ok (.return_, 1) := by decide +kernel
theorem dX9_farOf_0 : decode cX9_farOf 0 = .ok (.aload_n 0, 1) := by decide +kernel
theorem dX9_farOf_1 : decode cX9_farOf 1 = .ok (.getfield 15, 3) := by decide +kernel
theorem dX9_farOf_4 : decode cX9_farOf 4 = .ok (.iload_n 1, 1) := by decide +kernel
theorem dX9_farOf_5 : decode cX9_farOf 5 = .ok (.bipush 8, 2) := by decide +kernel
theorem dX9_farOf_7 : decode cX9_farOf 7 = .ok (.imul, 1) := by decide +kernel
theorem dX9_farOf_8 : decode cX9_farOf 8 = .ok (.iload_n 2, 1) := by decide +kernel
theorem dX9_farOf_9 : decode cX9_farOf 9 = .ok (.iadd, 1) := by decide +kernel
theorem dX9_farOf_10 : decode cX9_farOf 10 = .ok (.iaload, 1) := by decide +kernel
theorem dX9_farOf_11 : decode cX9_farOf 11 = .ok (.ireturn, 1) := by decide +kernel
theorem dX9_joinedTo_0 : decode cX9_joinedTo 0 = .ok (.iconst 0, 1) := by decide +kernel
theorem dX9_joinedTo_1 : decode cX9_joinedTo 1 = .ok (.istore_n 2, 1) := by decide +kernel
theorem dX9_joinedTo_2 : decode cX9_joinedTo 2 = .ok (.iconst 0, 1) := by decide +kernel
theorem dX9_joinedTo_3 : decode cX9_joinedTo 3 = .ok (.istore_n 3, 1) := by decide +kernel
theorem dX9_joinedTo_4 : decode cX9_joinedTo 4 = .ok (.iload_n 3, 1) := by decide +kernel
theorem dX9_joinedTo_5 : decode cX9_joinedTo 5 = .ok (.bipush 8, 2) := by decide +kernel
theorem dX9_joinedTo_7 : decode cX9_joinedTo 7 = .ok (.if_icmp .ge 27, 3) := by decide +kernel
theorem dX9_joinedTo_10 : decode cX9_joinedTo 10 = .ok (.aload_n 0, 1) := by decide +kernel
theorem dX9_joinedTo_11 : decode cX9_joinedTo 11 = .ok (.iload_n 1, 1) := by decide +kernel
theorem dX9_joinedTo_12 : decode cX9_joinedTo 12 = .ok (.iload_n 3, 1) := by decide +kernel
theorem dX9_joinedTo_13 : decode cX9_joinedTo 13 = .ok (.invokevirtual 51, 3) := by decide +kernel
theorem dX9_joinedTo_16 : decode cX9_joinedTo 16 = .ok (.sipush 1000, 3) := by decide +kernel
theorem dX9_joinedTo_19 : decode cX9_joinedTo 19 = .ok (.if_icmp .ge 9, 3) := by decide +kernel
theorem dX9_joinedTo_22 : decode cX9_joinedTo 22 = .ok (.iload_n 2, 1) := by decide +kernel
theorem dX9_joinedTo_23 : decode cX9_joinedTo 23 = .ok (.iconst 1, 1) := by decide +kernel
theorem dX9_joinedTo_24 : decode cX9_joinedTo 24 = .ok (.iload_n 3, 1) := by decide +kernel
theorem dX9_joinedTo_25 : decode cX9_joinedTo 25 = .ok (.ishl, 1) := by decide +kernel
theorem dX9_joinedTo_26 : decode cX9_joinedTo 26 = .ok (.ior, 1) := by decide +kernel
theorem dX9_joinedTo_27 : decode cX9_joinedTo 27 = .ok (.istore_n 2, 1) := by decide +kernel
theorem dX9_joinedTo_28 : decode cX9_joinedTo 28 = .ok (.iinc 3 1, 3) := by decide +kernel
theorem dX9_joinedTo_31 : decode cX9_joinedTo 31 = .ok (.goto (-27), 3) := by decide +kernel
theorem dX9_joinedTo_34 : decode cX9_joinedTo 34 = .ok (.iload_n 2, 1) := by decide +kernel
theorem dX9_joinedTo_35 : decode cX9_joinedTo 35 = .ok (.ireturn, 1) := by decide +kernel
theorem dX9_farthestOf_0 : decode cX9_farthestOf 0 = .ok (.iconst 0, 1) := by decide +kernel
theorem dX9_farthestOf_1 : decode cX9_farthestOf 1 = .ok (.istore_n 2, 1) := by decide +kernel
theorem dX9_farthestOf_2 : decode cX9_farthestOf 2 = .ok (.iconst 0, 1) := by decide +kernel
theorem dX9_farthestOf_3 : decode cX9_farthestOf 3 = .ok (.istore_n 3, 1) := by decide +kernel
theorem dX9_farthestOf_4 : decode cX9_farthestOf 4 = .ok (.iload_n 3, 1) := by decide +kernel
theorem dX9_farthestOf_5 : decode cX9_farthestOf 5 = .ok (.bipush 8, 2) := by decide +kernel
theorem dX9_farthestOf_7 : decode cX9_farthestOf 7 = .ok (.if_icmp .ge 32, 3) := by decide +kernel
theorem dX9_farthestOf_10 : decode cX9_farthestOf 10 = .ok (.aload_n 0, 1) := by decide +kernel
theorem dX9_farthestOf_11 : decode cX9_farthestOf 11 = .ok (.iload_n 1, 1) := by decide +kernel
theorem dX9_farthestOf_12 : decode cX9_farthestOf 12 = .ok (.iload_n 3, 1) := by decide +kernel
theorem dX9_farthestOf_13 : decode cX9_farthestOf 13 = .ok (.invokevirtual 51, 3) := by decide +kernel
theorem dX9_farthestOf_16 : decode cX9_farthestOf 16 = .ok (.sipush 1000, 3) := by decide +kernel
theorem dX9_farthestOf_19 : decode cX9_farthestOf 19 = .ok (.if_icmp .ge 14, 3) := by decide +kernel
theorem dX9_farthestOf_22 : decode cX9_farthestOf 22 = .ok (.iload_n 2, 1) := by decide +kernel
theorem dX9_farthestOf_23 : decode cX9_farthestOf 23 = .ok (.aload_n 0, 1) := by decide +kernel
theorem dX9_farthestOf_24 : decode cX9_farthestOf 24 = .ok (.iload_n 1, 1) := by decide +kernel
theorem dX9_farthestOf_25 : decode cX9_farthestOf 25 = .ok (.iload_n 3, 1) := by decide +kernel
theorem dX9_farthestOf_26 : decode cX9_farthestOf 26 = .ok (.invokevirtual 51, 3) := by decide +kernel
theorem dX9_farthestOf_29 : decode cX9_farthestOf 29 = .ok (.invokestatic 60, 3) := by decide +kernel
theorem dX9_farthestOf_32 : decode cX9_farthestOf 32 = .ok (.istore_n 2, 1) := by decide +kernel
theorem dX9_farthestOf_33 : decode cX9_farthestOf 33 = .ok (.iinc 3 1, 3) := by decide +kernel
theorem dX9_farthestOf_36 : decode cX9_farthestOf 36 = .ok (.goto (-32), 3) := by decide +kernel
theorem dX9_farthestOf_39 : decode cX9_farthestOf 39 = .ok (.iload_n 2, 1) := by decide +kernel
theorem dX9_farthestOf_40 : decode cX9_farthestOf 40 = .ok (.ireturn, 1) := by decide +kernel
theorem dX9_laterOf_0 : decode cX9_laterOf 0 = .ok (.aload_n 0, 1) := by decide +kernel
theorem dX9_laterOf_1 : decode cX9_laterOf 1 = .ok (.iload_n 1, 1) := by decide +kernel
theorem dX9_laterOf_2 : decode cX9_laterOf 2 = .ok (.iload_n 3, 1) := by decide +kernel
theorem dX9_laterOf_3 : decode cX9_laterOf 3 = .ok (.invokevirtual 51, 3) := by decide +kernel
theorem dX9_laterOf_6 : decode cX9_laterOf 6 = .ok (.aload_n 0, 1) := by decide +kernel
theorem dX9_laterOf_7 : decode cX9_laterOf 7 = .ok (.iload_n 2, 1) := by decide +kernel
theorem dX9_laterOf_8 : decode cX9_laterOf 8 = .ok (.iload_n 3, 1) := by decide +kernel
theorem dX9_laterOf_9 : decode cX9_laterOf 9 = .ok (.invokevirtual 51, 3) := by decide +kernel
theorem dX9_laterOf_12 : decode cX9_laterOf 12 = .ok (.invokestatic 60, 3) := by decide +kernel
theorem dX9_laterOf_15 : decode cX9_laterOf 15 = .ok (.ireturn, 1) := by decide +kernel
theorem dX9_firstStep_0 : decode cX9_firstStep 0 = .ok (.iconst 0, 1) := by decide +kernel
theorem dX9_firstStep_1 : decode cX9_firstStep 1 = .ok (.istore_n 3, 1) := by decide +kernel
theorem dX9_firstStep_2 : decode cX9_firstStep 2 = .ok (.iload_n 3, 1) := by decide +kernel
theorem dX9_firstStep_3 : decode cX9_firstStep 3 = .ok (.aload_n 0, 1) := by decide +kernel
theorem dX9_firstStep_4 : decode cX9_firstStep 4 = .ok (.getfield 9, 3) := by decide +kernel
theorem dX9_firstStep_7 : decode cX9_firstStep 7 = .ok (.getfield 22, 3) := by decide +kernel
theorem dX9_firstStep_10 : decode cX9_firstStep 10 = .ok (.if_icmp .ge 74, 3) := by decide +kernel
theorem dX9_firstStep_13 : decode cX9_firstStep 13 = .ok (.aload_n 0, 1) := by decide +kernel
theorem dX9_firstStep_14 : decode cX9_firstStep 14 = .ok (.getfield 9, 3) := by decide +kernel
theorem dX9_firstStep_17 : decode cX9_firstStep 17 = .ok (.iload_n 3, 1) := by decide +kernel
theorem dX9_firstStep_18 : decode cX9_firstStep 18 = .ok (.invokevirtual 28, 3) := by decide +kernel
theorem dX9_firstStep_21 : decode cX9_firstStep 21 = .ok (.ifCond .eq 57, 3) := by decide +kernel
theorem dX9_firstStep_24 : decode cX9_firstStep 24 = .ok (.aload_n 0, 1) := by decide +kernel
theorem dX9_firstStep_25 : decode cX9_firstStep 25 = .ok (.getfield 9, 3) := by decide +kernel
theorem dX9_firstStep_28 : decode cX9_firstStep 28 = .ok (.iload_n 1, 1) := by decide +kernel
theorem dX9_firstStep_29 : decode cX9_firstStep 29 = .ok (.iload_n 3, 1) := by decide +kernel
theorem dX9_firstStep_30 : decode cX9_firstStep 30 = .ok (.invokevirtual 63, 3) := by decide +kernel
theorem dX9_firstStep_33 : decode cX9_firstStep 33 = .ok (.ifCond .eq 45, 3) := by decide +kernel
theorem dX9_firstStep_36 : decode cX9_firstStep 36 = .ok (.aload_n 0, 1) := by decide +kernel
theorem dX9_firstStep_37 : decode cX9_firstStep 37 = .ok (.aload_n 0, 1) := by decide +kernel
theorem dX9_firstStep_38 : decode cX9_firstStep 38 = .ok (.getfield 9, 3) := by decide +kernel
theorem dX9_firstStep_41 : decode cX9_firstStep 41 = .ok (.iload_n 1, 1) := by decide +kernel
theorem dX9_firstStep_42 : decode cX9_firstStep 42 = .ok (.iload_n 3, 1) := by decide +kernel
theorem dX9_firstStep_43 : decode cX9_firstStep 43 = .ok (.invokevirtual 67, 3) := by decide +kernel
theorem dX9_firstStep_46 : decode cX9_firstStep 46 = .ok (.iload_n 2, 1) := by decide +kernel
theorem dX9_firstStep_47 : decode cX9_firstStep 47 = .ok (.invokevirtual 51, 3) := by decide +kernel
theorem dX9_firstStep_50 : decode cX9_firstStep 50 = .ok (.istore 4, 2) := by decide +kernel
theorem dX9_firstStep_52 : decode cX9_firstStep 52 = .ok (.aload_n 0, 1) := by decide +kernel
theorem dX9_firstStep_53 : decode cX9_firstStep 53 = .ok (.getfield 9, 3) := by decide +kernel
theorem dX9_firstStep_56 : decode cX9_firstStep 56 = .ok (.getfield 38, 3) := by decide +kernel
theorem dX9_firstStep_59 : decode cX9_firstStep 59 = .ok (.getfield 42, 3) := by decide +kernel
theorem dX9_firstStep_62 : decode cX9_firstStep 62 = .ok (.iload_n 3, 1) := by decide +kernel
theorem dX9_firstStep_63 : decode cX9_firstStep 63 = .ok (.iaload, 1) := by decide +kernel
theorem dX9_firstStep_64 : decode cX9_firstStep 64 = .ok (.iload 4, 2) := by decide +kernel
theorem dX9_firstStep_66 : decode cX9_firstStep 66 = .ok (.iadd, 1) := by decide +kernel
theorem dX9_firstStep_67 : decode cX9_firstStep 67 = .ok (.aload_n 0, 1) := by decide +kernel
theorem dX9_firstStep_68 : decode cX9_firstStep 68 = .ok (.iload_n 1, 1) := by decide +kernel
theorem dX9_firstStep_69 : decode cX9_firstStep 69 = .ok (.iload_n 2, 1) := by decide +kernel
theorem dX9_firstStep_70 : decode cX9_firstStep 70 = .ok (.invokevirtual 51, 3) := by decide +kernel
theorem dX9_firstStep_73 : decode cX9_firstStep 73 = .ok (.if_icmp .ne 5, 3) := by decide +kernel
theorem dX9_firstStep_76 : decode cX9_firstStep 76 = .ok (.iload_n 3, 1) := by decide +kernel
theorem dX9_firstStep_77 : decode cX9_firstStep 77 = .ok (.ireturn, 1) := by decide +kernel
theorem dX9_firstStep_78 : decode cX9_firstStep 78 = .ok (.iinc 3 1, 3) := by decide +kernel
theorem dX9_firstStep_81 : decode cX9_firstStep 81 = .ok (.goto (-79), 3) := by decide +kernel
theorem dX9_firstStep_84 : decode cX9_firstStep 84 = .ok (.iconst (-1), 1) := by decide +kernel
theorem dX9_firstStep_85 : decode cX9_firstStep 85 = .ok (.ireturn, 1) := by decide +kernel
theorem dX9_reached_0 : decode cX9_reached 0 = .ok (.iconst 1, 1) := by decide +kernel
theorem dX9_reached_1 : decode cX9_reached 1 = .ok (.iload_n 1, 1) := by decide +kernel
theorem dX9_reached_2 : decode cX9_reached 2 = .ok (.ishl, 1) := by decide +kernel
theorem dX9_reached_3 : decode cX9_reached 3 = .ok (.istore_n 3, 1) := by decide +kernel
theorem dX9_reached_4 : decode cX9_reached 4 = .ok (.iconst 0, 1) := by decide +kernel
theorem dX9_reached_5 : decode cX9_reached 5 = .ok (.istore 4, 2) := by decide +kernel
theorem dX9_reached_7 : decode cX9_reached 7 = .ok (.iconst 0, 1) := by decide +kernel
theorem dX9_reached_8 : decode cX9_reached 8 = .ok (.istore 5, 2) := by decide +kernel
theorem dX9_reached_10 : decode cX9_reached 10 = .ok (.iload 5, 2) := by decide +kernel
theorem dX9_reached_12 : decode cX9_reached 12 = .ok (.bipush 8, 2) := by decide +kernel
theorem dX9_reached_14 : decode cX9_reached 14 = .ok (.if_icmp .ge 75, 3) := by decide +kernel
theorem dX9_reached_17 : decode cX9_reached 17 = .ok (.iload_n 3, 1) := by decide +kernel
theorem dX9_reached_18 : decode cX9_reached 18 = .ok (.iload 4, 2) := by decide +kernel
theorem dX9_reached_20 : decode cX9_reached 20 = .ok (.if_icmp .eq 69, 3) := by decide +kernel
theorem dX9_reached_23 : decode cX9_reached 23 = .ok (.iload_n 3, 1) := by decide +kernel
theorem dX9_reached_24 : decode cX9_reached 24 = .ok (.istore 4, 2) := by decide +kernel
theorem dX9_reached_26 : decode cX9_reached 26 = .ok (.iconst 0, 1) := by decide +kernel
theorem dX9_reached_27 : decode cX9_reached 27 = .ok (.istore 6, 2) := by decide +kernel
theorem dX9_reached_29 : decode cX9_reached 29 = .ok (.iload 6, 2) := by decide +kernel
theorem dX9_reached_31 : decode cX9_reached 31 = .ok (.aload_n 0, 1) := by decide +kernel
theorem dX9_reached_32 : decode cX9_reached 32 = .ok (.getfield 9, 3) := by decide +kernel
theorem dX9_reached_35 : decode cX9_reached 35 = .ok (.getfield 22, 3) := by decide +kernel
theorem dX9_reached_38 : decode cX9_reached 38 = .ok (.if_icmp .ge 45, 3) := by decide +kernel
theorem dX9_reached_41 : decode cX9_reached 41 = .ok (.iload_n 2, 1) := by decide +kernel
theorem dX9_reached_42 : decode cX9_reached 42 = .ok (.iload 6, 2) := by decide +kernel
theorem dX9_reached_44 : decode cX9_reached 44 = .ok (.ishr, 1) := by decide +kernel
theorem dX9_reached_45 : decode cX9_reached 45 = .ok (.iconst 1, 1) := by decide +kernel
theorem dX9_reached_46 : decode cX9_reached 46 = .ok (.iand, 1) := by decide +kernel
theorem dX9_reached_47 : decode cX9_reached 47 = .ok (.iconst 1, 1) := by decide +kernel
theorem dX9_reached_48 : decode cX9_reached 48 = .ok (.if_icmp .ne 29, 3) := by decide +kernel
theorem dX9_reached_51 : decode cX9_reached 51 = .ok (.iload_n 3, 1) := by decide +kernel
theorem dX9_reached_52 : decode cX9_reached 52 = .ok (.aload_n 0, 1) := by decide +kernel
theorem dX9_reached_53 : decode cX9_reached 53 = .ok (.getfield 9, 3) := by decide +kernel
theorem dX9_reached_56 : decode cX9_reached 56 = .ok (.iload 6, 2) := by decide +kernel
theorem dX9_reached_58 : decode cX9_reached 58 = .ok (.invokevirtual 70, 3) := by decide +kernel
theorem dX9_reached_61 : decode cX9_reached 61 = .ok (.iand, 1) := by decide +kernel
theorem dX9_reached_62 : decode cX9_reached 62 = .ok (.ifCond .eq 15, 3) := by decide +kernel
theorem dX9_reached_65 : decode cX9_reached 65 = .ok (.iload_n 3, 1) := by decide +kernel
theorem dX9_reached_66 : decode cX9_reached 66 = .ok (.aload_n 0, 1) := by decide +kernel
theorem dX9_reached_67 : decode cX9_reached 67 = .ok (.getfield 9, 3) := by decide +kernel
theorem dX9_reached_70 : decode cX9_reached 70 = .ok (.iload 6, 2) := by decide +kernel
theorem dX9_reached_72 : decode cX9_reached 72 = .ok (.invokevirtual 70, 3) := by decide +kernel
theorem dX9_reached_75 : decode cX9_reached 75 = .ok (.ior, 1) := by decide +kernel
theorem dX9_reached_76 : decode cX9_reached 76 = .ok (.istore_n 3, 1) := by decide +kernel
theorem dX9_reached_77 : decode cX9_reached 77 = .ok (.iinc 6 1, 3) := by decide +kernel
theorem dX9_reached_80 : decode cX9_reached 80 = .ok (.goto (-51), 3) := by decide +kernel
theorem dX9_reached_83 : decode cX9_reached 83 = .ok (.iinc 5 1, 3) := by decide +kernel
theorem dX9_reached_86 : decode cX9_reached 86 = .ok (.goto (-76), 3) := by decide +kernel
theorem dX9_reached_89 : decode cX9_reached 89 = .ok (.iload_n 3, 1) := by decide +kernel
theorem dX9_reached_90 : decode cX9_reached 90 = .ok (.ireturn, 1) := by decide +kernel
theorem dX9_joinsEnds_0 : decode cX9_joinsEnds 0 = .ok (.aload_n 0, 1) := by decide +kernel
theorem dX9_joinsEnds_1 : decode cX9_joinsEnds 1 = .ok (.aload_n 0, 1) := by decide +kernel
theorem dX9_joinsEnds_2 : decode cX9_joinsEnds 2 = .ok (.getfield 9, 3) := by decide +kernel
theorem dX9_joinsEnds_5 : decode cX9_joinsEnds 5 = .ok (.getfield 32, 3) := by decide +kernel
theorem dX9_joinsEnds_8 : decode cX9_joinsEnds 8 = .ok (.iload_n 2, 1) := by decide +kernel
theorem dX9_joinsEnds_9 : decode cX9_joinsEnds 9 = .ok (.iaload, 1) := by decide +kernel
theorem dX9_joinsEnds_10 : decode cX9_joinsEnds 10 = .ok (.iload_n 1, 1) := by decide +kernel
theorem dX9_joinsEnds_11 : decode cX9_joinsEnds 11 = .ok (.invokevirtual 74, 3) := by decide +kernel
theorem dX9_joinsEnds_14 : decode cX9_joinsEnds 14 = .ok (.aload_n 0, 1) := by decide +kernel
theorem dX9_joinsEnds_15 : decode cX9_joinsEnds 15 = .ok (.getfield 9, 3) := by decide +kernel
theorem dX9_joinsEnds_18 : decode cX9_joinsEnds 18 = .ok (.getfield 35, 3) := by decide +kernel
theorem dX9_joinsEnds_21 : decode cX9_joinsEnds 21 = .ok (.iload_n 2, 1) := by decide +kernel
theorem dX9_joinsEnds_22 : decode cX9_joinsEnds 22 = .ok (.iaload, 1) := by decide +kernel
theorem dX9_joinsEnds_23 : decode cX9_joinsEnds 23 = .ok (.ishr, 1) := by decide +kernel
theorem dX9_joinsEnds_24 : decode cX9_joinsEnds 24 = .ok (.iconst 1, 1) := by decide +kernel
theorem dX9_joinsEnds_25 : decode cX9_joinsEnds 25 = .ok (.iand, 1) := by decide +kernel
theorem dX9_joinsEnds_26 : decode cX9_joinsEnds 26 = .ok (.iconst 1, 1) := by decide +kernel
theorem dX9_joinsEnds_27 : decode cX9_joinsEnds 27 = .ok (.if_icmp .ne 7, 3) := by decide +kernel
theorem dX9_joinsEnds_30 : decode cX9_joinsEnds 30 = .ok (.iconst 1, 1) := by decide +kernel
theorem dX9_joinsEnds_31 : decode cX9_joinsEnds 31 = .ok (.goto 4, 3) := by decide +kernel
theorem dX9_joinsEnds_34 : decode cX9_joinsEnds 34 = .ok (.iconst 0, 1) := by decide +kernel
theorem dX9_joinsEnds_35 : decode cX9_joinsEnds 35 = .ok (.ireturn, 1) := by decide +kernel
theorem dX9_heapsOf_0 : decode cX9_heapsOf 0 = .ok (.iload_n 1, 1) := by decide +kernel
theorem dX9_heapsOf_1 : decode cX9_heapsOf 1 = .ok (.istore_n 2, 1) := by decide +kernel
theorem dX9_heapsOf_2 : decode cX9_heapsOf 2 = .ok (.iconst 0, 1) := by decide +kernel
theorem dX9_heapsOf_3 : decode cX9_heapsOf 3 = .ok (.istore_n 3, 1) := by decide +kernel
theorem dX9_heapsOf_4 : decode cX9_heapsOf 4 = .ok (.iconst 0, 1) := by decide +kernel
theorem dX9_heapsOf_5 : decode cX9_heapsOf 5 = .ok (.istore 4, 2) := by decide +kernel
theorem dX9_heapsOf_7 : decode cX9_heapsOf 7 = .ok (.iload 4, 2) := by decide +kernel
theorem dX9_heapsOf_9 : decode cX9_heapsOf 9 = .ok (.bipush 8, 2) := by decide +kernel
theorem dX9_heapsOf_11 : decode cX9_heapsOf 11 = .ok (.if_icmp .ge 43, 3) := by decide +kernel
theorem dX9_heapsOf_14 : decode cX9_heapsOf 14 = .ok (.iload_n 2, 1) := by decide +kernel
theorem dX9_heapsOf_15 : decode cX9_heapsOf 15 = .ok (.iload 4, 2) := by decide +kernel
theorem dX9_heapsOf_17 : decode cX9_heapsOf 17 = .ok (.ishr, 1) := by decide +kernel
theorem dX9_heapsOf_18 : decode cX9_heapsOf 18 = .ok (.iconst 1, 1) := by decide +kernel
theorem dX9_heapsOf_19 : decode cX9_heapsOf 19 = .ok (.iand, 1) := by decide +kernel
theorem dX9_heapsOf_20 : decode cX9_heapsOf 20 = .ok (.iconst 1, 1) := by decide +kernel
theorem dX9_heapsOf_21 : decode cX9_heapsOf 21 = .ok (.if_icmp .ne 27, 3) := by decide +kernel
theorem dX9_heapsOf_24 : decode cX9_heapsOf 24 = .ok (.iload_n 2, 1) := by decide +kernel
theorem dX9_heapsOf_25 : decode cX9_heapsOf 25 = .ok (.aload_n 0, 1) := by decide +kernel
theorem dX9_heapsOf_26 : decode cX9_heapsOf 26 = .ok (.iload 4, 2) := by decide +kernel
theorem dX9_heapsOf_28 : decode cX9_heapsOf 28 = .ok (.aload_n 0, 1) := by decide +kernel
theorem dX9_heapsOf_29 : decode cX9_heapsOf 29 = .ok (.getfield 9, 3) := by decide +kernel
theorem dX9_heapsOf_32 : decode cX9_heapsOf 32 = .ok (.getfield 38, 3) := by decide +kernel
theorem dX9_heapsOf_35 : decode cX9_heapsOf 35 = .ok (.getfield 77, 3) := by decide +kernel
theorem dX9_heapsOf_38 : decode cX9_heapsOf 38 = .ok (.invokevirtual 74, 3) := by decide +kernel
theorem dX9_heapsOf_41 : decode cX9_heapsOf 41 = .ok (.iconst (-1), 1) := by decide +kernel
theorem dX9_heapsOf_42 : decode cX9_heapsOf 42 = .ok (.ixor, 1) := by decide +kernel
theorem dX9_heapsOf_43 : decode cX9_heapsOf 43 = .ok (.iand, 1) := by decide +kernel
theorem dX9_heapsOf_44 : decode cX9_heapsOf 44 = .ok (.istore_n 2, 1) := by decide +kernel
theorem dX9_heapsOf_45 : decode cX9_heapsOf 45 = .ok (.iinc 3 1, 3) := by decide +kernel
theorem dX9_heapsOf_48 : decode cX9_heapsOf 48 = .ok (.iinc 4 1, 3) := by decide +kernel
theorem dX9_heapsOf_51 : decode cX9_heapsOf 51 = .ok (.goto (-44), 3) := by decide +kernel
theorem dX9_heapsOf_54 : decode cX9_heapsOf 54 = .ok (.iload_n 3, 1) := by decide +kernel
theorem dX9_heapsOf_55 : decode cX9_heapsOf 55 = .ok (.ireturn, 1) := by decide +kernel
theorem dX9_planTours_0 : decode cX9_planTours 0 = .ok (.iconst 0, 1) := by decide +kernel
theorem dX9_planTours_1 : decode cX9_planTours 1 = .ok (.istore_n 3, 1) := by decide +kernel
theorem dX9_planTours_2 : decode cX9_planTours 2 = .ok (.iload_n 3, 1) := by decide +kernel
theorem dX9_planTours_3 : decode cX9_planTours 3 = .ok (.iload_n 2, 1) := by decide +kernel
theorem dX9_planTours_4 : decode cX9_planTours 4 = .ok (.if_icmp .gt 79, 3) := by decide +kernel
theorem dX9_planTours_7 : decode cX9_planTours 7 = .ok (.iload_n 3, 1) := by decide +kernel
theorem dX9_planTours_8 : decode cX9_planTours 8 = .ok (.iload_n 2, 1) := by decide +kernel
theorem dX9_planTours_9 : decode cX9_planTours 9 = .ok (.iconst (-1), 1) := by decide +kernel
theorem dX9_planTours_10 : decode cX9_planTours 10 = .ok (.ixor, 1) := by decide +kernel
theorem dX9_planTours_11 : decode cX9_planTours 11 = .ok (.iand, 1) := by decide +kernel
theorem dX9_planTours_12 : decode cX9_planTours 12 = .ok (.ifCond .ne 65, 3) := by decide +kernel
theorem dX9_planTours_15 : decode cX9_planTours 15 = .ok (.iconst 0, 1) := by decide +kernel
theorem dX9_planTours_16 : decode cX9_planTours 16 = .ok (.istore 4, 2) := by decide +kernel
theorem dX9_planTours_18 : decode cX9_planTours 18 = .ok (.iload 4, 2) := by decide +kernel
theorem dX9_planTours_20 : decode cX9_planTours 20 = .ok (.bipush 8, 2) := by decide +kernel
theorem dX9_planTours_22 : decode cX9_planTours 22 = .ok (.if_icmp .ge 55, 3) := by decide +kernel
theorem dX9_planTours_25 : decode cX9_planTours 25 = .ok (.aload_n 0, 1) := by decide +kernel
theorem dX9_planTours_26 : decode cX9_planTours 26 = .ok (.iload_n 3, 1) := by decide +kernel
theorem dX9_planTours_27 : decode cX9_planTours 27 = .ok (.iload 4, 2) := by decide +kernel
theorem dX9_planTours_29 : decode cX9_planTours 29 = .ok (.invokevirtual 80, 3) := by decide +kernel
theorem dX9_planTours_32 : decode cX9_planTours 32 = .ok (.istore 5, 2) := by decide +kernel
theorem dX9_planTours_34 : decode cX9_planTours 34 = .ok (.aload_n 0, 1) := by decide +kernel
theorem dX9_planTours_35 : decode cX9_planTours 35 = .ok (.getfield 19, 3) := by decide +kernel
theorem dX9_planTours_38 : decode cX9_planTours 38 = .ok (.iload_n 3, 1) := by decide +kernel
theorem dX9_planTours_39 : decode cX9_planTours 39 = .ok (.bipush 8, 2) := by decide +kernel
theorem dX9_planTours_41 : decode cX9_planTours 41 = .ok (.imul, 1) := by decide +kernel
theorem dX9_planTours_42 : decode cX9_planTours 42 = .ok (.iload 4, 2) := by decide +kernel
theorem dX9_planTours_44 : decode cX9_planTours 44 = .ok (.iadd, 1) := by decide +kernel
theorem dX9_planTours_45 : decode cX9_planTours 45 = .ok (.iload 5, 2) := by decide +kernel
theorem dX9_planTours_47 : decode cX9_planTours 47 = .ok (.iconst (-1), 1) := by decide +kernel
theorem dX9_planTours_48 : decode cX9_planTours 48 = .ok (.if_icmp .ne 13, 3) := by decide +kernel
theorem dX9_planTours_51 : decode cX9_planTours 51 = .ok (.aload_n 0, 1) := by decide +kernel
theorem dX9_planTours_52 : decode cX9_planTours 52 = .ok (.iload 4, 2) := by decide +kernel
theorem dX9_planTours_54 : decode cX9_planTours 54 = .ok (.iload_n 1, 1) := by decide +kernel
theorem dX9_planTours_55 : decode cX9_planTours 55 = .ok (.invokevirtual 51, 3) := by decide +kernel
theorem dX9_planTours_58 : decode cX9_planTours 58 = .ok (.goto 12, 3) := by decide +kernel
theorem dX9_planTours_61 : decode cX9_planTours 61 = .ok (.aload_n 0, 1) := by decide +kernel
theorem dX9_planTours_62 : decode cX9_planTours 62 = .ok (.iload_n 3, 1) := by decide +kernel
theorem dX9_planTours_63 : decode cX9_planTours 63 = .ok (.iload 4, 2) := by decide +kernel
theorem dX9_planTours_65 : decode cX9_planTours 65 = .ok (.iload 5, 2) := by decide +kernel
theorem dX9_planTours_67 : decode cX9_planTours 67 = .ok (.invokevirtual 83, 3) := by decide +kernel
theorem dX9_planTours_70 : decode cX9_planTours 70 = .ok (.iastore, 1) := by decide +kernel
theorem dX9_planTours_71 : decode cX9_planTours 71 = .ok (.iinc 4 1, 3) := by decide +kernel
theorem dX9_planTours_74 : decode cX9_planTours 74 = .ok (.goto (-56), 3) := by decide +kernel
theorem dX9_planTours_77 : decode cX9_planTours 77 = .ok (.iinc 3 1, 3) := by decide +kernel
theorem dX9_planTours_80 : decode cX9_planTours 80 = .ok (.goto (-78), 3) := by decide +kernel
theorem dX9_planTours_83 : decode cX9_planTours 83 = .ok (.return_, 1) := by decide +kernel
theorem dX9_minutesLeft_0 : decode cX9_minutesLeft 0 = .ok (.aload_n 0, 1) := by decide +kernel
theorem dX9_minutesLeft_1 : decode cX9_minutesLeft 1 = .ok (.getfield 19, 3) := by decide +kernel
theorem dX9_minutesLeft_4 : decode cX9_minutesLeft 4 = .ok (.iload_n 1, 1) := by decide +kernel
theorem dX9_minutesLeft_5 : decode cX9_minutesLeft 5 = .ok (.bipush 8, 2) := by decide +kernel
theorem dX9_minutesLeft_7 : decode cX9_minutesLeft 7 = .ok (.imul, 1) := by decide +kernel
theorem dX9_minutesLeft_8 : decode cX9_minutesLeft 8 = .ok (.iload_n 2, 1) := by decide +kernel
theorem dX9_minutesLeft_9 : decode cX9_minutesLeft 9 = .ok (.iadd, 1) := by decide +kernel
theorem dX9_minutesLeft_10 : decode cX9_minutesLeft 10 = .ok (.iaload, 1) := by decide +kernel
theorem dX9_minutesLeft_11 : decode cX9_minutesLeft 11 = .ok (.ireturn, 1) := by decide +kernel
theorem dX9_minutesBy_0 : decode cX9_minutesBy 0 = .ok (.aload_n 0, 1) := by decide +kernel
theorem dX9_minutesBy_1 : decode cX9_minutesBy 1 = .ok (.iload_n 2, 1) := by decide +kernel
theorem dX9_minutesBy_2 : decode cX9_minutesBy 2 = .ok (.iload_n 3, 1) := by decide +kernel
theorem dX9_minutesBy_3 : decode cX9_minutesBy 3 = .ok (.invokevirtual 51, 3) := by decide +kernel
theorem dX9_minutesBy_6 : decode cX9_minutesBy 6 = .ok (.aload_n 0, 1) := by decide +kernel
theorem dX9_minutesBy_7 : decode cX9_minutesBy 7 = .ok (.iload_n 1, 1) := by decide +kernel
theorem dX9_minutesBy_8 : decode cX9_minutesBy 8 = .ok (.iconst 1, 1) := by decide +kernel
theorem dX9_minutesBy_9 : decode cX9_minutesBy 9 = .ok (.iload_n 3, 1) := by decide +kernel
theorem dX9_minutesBy_10 : decode cX9_minutesBy 10 = .ok (.ishl, 1) := by decide +kernel
theorem dX9_minutesBy_11 : decode cX9_minutesBy 11 = .ok (.iconst (-1), 1) := by decide +kernel
theorem dX9_minutesBy_12 : decode cX9_minutesBy 12 = .ok (.ixor, 1) := by decide +kernel
theorem dX9_minutesBy_13 : decode cX9_minutesBy 13 = .ok (.iand, 1) := by decide +kernel
theorem dX9_minutesBy_14 : decode cX9_minutesBy 14 = .ok (.iload_n 3, 1) := by decide +kernel
theorem dX9_minutesBy_15 : decode cX9_minutesBy 15 = .ok (.invokevirtual 87, 3) := by decide +kernel
theorem dX9_minutesBy_18 : decode cX9_minutesBy 18 = .ok (.iadd, 1) := by decide +kernel
theorem dX9_minutesBy_19 : decode cX9_minutesBy 19 = .ok (.ireturn, 1) := by decide +kernel
theorem dX9_nextOfTour_0 : decode cX9_nextOfTour 0 = .ok (.iconst (-1), 1) := by decide +kernel
theorem dX9_nextOfTour_1 : decode cX9_nextOfTour 1 = .ok (.istore_n 3, 1) := by decide +kernel
theorem dX9_nextOfTour_2 : decode cX9_nextOfTour 2 = .ok (.iconst 0, 1) := by decide +kernel
theorem dX9_nextOfTour_3 : decode cX9_nextOfTour 3 = .ok (.istore 4, 2) := by decide +kernel
theorem dX9_nextOfTour_5 : decode cX9_nextOfTour 5 = .ok (.iload 4, 2) := by decide +kernel
theorem dX9_nextOfTour_7 : decode cX9_nextOfTour 7 = .ok (.bipush 8, 2) := by decide +kernel
theorem dX9_nextOfTour_9 : decode cX9_nextOfTour 9 = .ok (.if_icmp .ge 57, 3) := by decide +kernel
theorem dX9_nextOfTour_12 : decode cX9_nextOfTour 12 = .ok (.iload_n 1, 1) := by decide +kernel
theorem dX9_nextOfTour_13 : decode cX9_nextOfTour 13 = .ok (.iload 4, 2) := by decide +kernel
theorem dX9_nextOfTour_15 : decode cX9_nextOfTour 15 = .ok (.ishr, 1) := by decide +kernel
theorem dX9_nextOfTour_16 : decode cX9_nextOfTour 16 = .ok (.iconst 1, 1) := by decide +kernel
theorem dX9_nextOfTour_17 : decode cX9_nextOfTour 17 = .ok (.iand, 1) := by decide +kernel
theorem dX9_nextOfTour_18 : decode cX9_nextOfTour 18 = .ok (.iconst 1, 1) := by decide +kernel
theorem dX9_nextOfTour_19 : decode cX9_nextOfTour 19 = .ok (.if_icmp .ne 7, 3) := by decide +kernel
theorem dX9_nextOfTour_22 : decode cX9_nextOfTour 22 = .ok (.iconst 1, 1) := by decide +kernel
theorem dX9_nextOfTour_23 : decode cX9_nextOfTour 23 = .ok (.goto 4, 3) := by decide +kernel
theorem dX9_nextOfTour_26 : decode cX9_nextOfTour 26 = .ok (.iconst 0, 1) := by decide +kernel
theorem dX9_nextOfTour_27 : decode cX9_nextOfTour 27 = .ok (.istore 5, 2) := by decide +kernel
theorem dX9_nextOfTour_29 : decode cX9_nextOfTour 29 = .ok (.iload 5, 2) := by decide +kernel
theorem dX9_nextOfTour_31 : decode cX9_nextOfTour 31 = .ok (.ifCond .eq 29, 3) := by decide +kernel
theorem dX9_nextOfTour_34 : decode cX9_nextOfTour 34 = .ok (.iload_n 3, 1) := by decide +kernel
theorem dX9_nextOfTour_35 : decode cX9_nextOfTour 35 = .ok (.iconst (-1), 1) := by decide +kernel
theorem dX9_nextOfTour_36 : decode cX9_nextOfTour 36 = .ok (.if_icmp .eq 21, 3) := by decide +kernel
theorem dX9_nextOfTour_39 : decode cX9_nextOfTour 39 = .ok (.aload_n 0, 1) := by decide +kernel
theorem dX9_nextOfTour_40 : decode cX9_nextOfTour 40 = .ok (.iload_n 1, 1) := by decide +kernel
theorem dX9_nextOfTour_41 : decode cX9_nextOfTour 41 = .ok (.iload_n 2, 1) := by decide +kernel
theorem dX9_nextOfTour_42 : decode cX9_nextOfTour 42 = .ok (.iload 4, 2) := by decide +kernel
theorem dX9_nextOfTour_44 : decode cX9_nextOfTour 44 = .ok (.invokevirtual 83, 3) := by decide +kernel
theorem dX9_nextOfTour_47 : decode cX9_nextOfTour 47 = .ok (.aload_n 0, 1) := by decide +kernel
theorem dX9_nextOfTour_48 : decode cX9_nextOfTour 48 = .ok (.iload_n 1, 1) := by decide +kernel
theorem dX9_nextOfTour_49 : decode cX9_nextOfTour 49 = .ok (.iload_n 2, 1) := by decide +kernel
theorem dX9_nextOfTour_50 : decode cX9_nextOfTour 50 = .ok (.iload_n 3, 1) := by decide +kernel
theorem dX9_nextOfTour_51 : decode cX9_nextOfTour 51 = .ok (.invokevirtual 83, 3) := by decide +kernel
theorem dX9_nextOfTour_54 : decode cX9_nextOfTour 54 = .ok (.if_icmp .ge 6, 3) := by decide +kernel
theorem dX9_nextOfTour_57 : decode cX9_nextOfTour 57 = .ok (.iload 4, 2) := by decide +kernel
theorem dX9_nextOfTour_59 : decode cX9_nextOfTour 59 = .ok (.istore_n 3, 1) := by decide +kernel
theorem dX9_nextOfTour_60 : decode cX9_nextOfTour 60 = .ok (.iinc 4 1, 3) := by decide +kernel
theorem dX9_nextOfTour_63 : decode cX9_nextOfTour 63 = .ok (.goto (-58), 3) := by decide +kernel
theorem dX9_nextOfTour_66 : decode cX9_nextOfTour 66 = .ok (.iload_n 3, 1) := by decide +kernel
theorem dX9_nextOfTour_67 : decode cX9_nextOfTour 67 = .ok (.ireturn, 1) := by decide +kernel
theorem dX9_firstHalf_0 : decode cX9_firstHalf 0 = .ok (.aload_n 0, 1) := by decide +kernel
theorem dX9_firstHalf_1 : decode cX9_firstHalf 1 = .ok (.getfield 9, 3) := by decide +kernel
theorem dX9_firstHalf_4 : decode cX9_firstHalf 4 = .ok (.invokevirtual 90, 3) := by decide +kernel
theorem dX9_firstHalf_7 : decode cX9_firstHalf 7 = .ok (.istore_n 1, 1) := by decide +kernel
theorem dX9_firstHalf_8 : decode cX9_firstHalf 8 = .ok (.iconst 0, 1) := by decide +kernel
theorem dX9_firstHalf_9 : decode cX9_firstHalf 9 = .ok (.istore_n 2, 1) := by decide +kernel
theorem dX9_firstHalf_10 : decode cX9_firstHalf 10 = .ok (.iconst 0, 1) := by decide +kernel
theorem dX9_firstHalf_11 : decode cX9_firstHalf 11 = .ok (.istore_n 3, 1) := by decide +kernel
theorem dX9_firstHalf_12 : decode cX9_firstHalf 12 = .ok (.iconst 0, 1) := by decide +kernel
theorem dX9_firstHalf_13 : decode cX9_firstHalf 13 = .ok (.istore 4, 2) := by decide +kernel
theorem dX9_firstHalf_15 : decode cX9_firstHalf 15 = .ok (.iload 4, 2) := by decide +kernel
theorem dX9_firstHalf_17 : decode cX9_firstHalf 17 = .ok (.bipush 8, 2) := by decide +kernel
theorem dX9_firstHalf_19 : decode cX9_firstHalf 19 = .ok (.if_icmp .ge 66, 3) := by decide +kernel
theorem dX9_firstHalf_22 : decode cX9_firstHalf 22 = .ok (.iload_n 1, 1) := by decide +kernel
theorem dX9_firstHalf_23 : decode cX9_firstHalf 23 = .ok (.iload_n 2, 1) := by decide +kernel
theorem dX9_firstHalf_24 : decode cX9_firstHalf 24 = .ok (.iconst (-1), 1) := by decide +kernel
theorem dX9_firstHalf_25 : decode cX9_firstHalf 25 = .ok (.ixor, 1) := by decide +kernel
theorem dX9_firstHalf_26 : decode cX9_firstHalf 26 = .ok (.iand, 1) := by decide +kernel
theorem dX9_firstHalf_27 : decode cX9_firstHalf 27 = .ok (.iload_n 3, 1) := by decide +kernel
theorem dX9_firstHalf_28 : decode cX9_firstHalf 28 = .ok (.iconst (-1), 1) := by decide +kernel
theorem dX9_firstHalf_29 : decode cX9_firstHalf 29 = .ok (.ixor, 1) := by decide +kernel
theorem dX9_firstHalf_30 : decode cX9_firstHalf 30 = .ok (.iand, 1) := by decide +kernel
theorem dX9_firstHalf_31 : decode cX9_firstHalf 31 = .ok (.iload 4, 2) := by decide +kernel
theorem dX9_firstHalf_33 : decode cX9_firstHalf 33 = .ok (.ishr, 1) := by decide +kernel
theorem dX9_firstHalf_34 : decode cX9_firstHalf 34 = .ok (.iconst 1, 1) := by decide +kernel
theorem dX9_firstHalf_35 : decode cX9_firstHalf 35 = .ok (.iand, 1) := by decide +kernel
theorem dX9_firstHalf_36 : decode cX9_firstHalf 36 = .ok (.iconst 1, 1) := by decide +kernel
theorem dX9_firstHalf_37 : decode cX9_firstHalf 37 = .ok (.if_icmp .ne 42, 3) := by decide +kernel
theorem dX9_firstHalf_40 : decode cX9_firstHalf 40 = .ok (.iload_n 2, 1) := by decide +kernel
theorem dX9_firstHalf_41 : decode cX9_firstHalf 41 = .ok (.iconst 1, 1) := by decide +kernel
theorem dX9_firstHalf_42 : decode cX9_firstHalf 42 = .ok (.iload 4, 2) := by decide +kernel
theorem dX9_firstHalf_44 : decode cX9_firstHalf 44 = .ok (.ishl, 1) := by decide +kernel
theorem dX9_firstHalf_45 : decode cX9_firstHalf 45 = .ok (.ior, 1) := by decide +kernel
theorem dX9_firstHalf_46 : decode cX9_firstHalf 46 = .ok (.istore_n 2, 1) := by decide +kernel
theorem dX9_firstHalf_47 : decode cX9_firstHalf 47 = .ok (.iconst 0, 1) := by decide +kernel
theorem dX9_firstHalf_48 : decode cX9_firstHalf 48 = .ok (.istore 5, 2) := by decide +kernel
theorem dX9_firstHalf_50 : decode cX9_firstHalf 50 = .ok (.iload 5, 2) := by decide +kernel
theorem dX9_firstHalf_52 : decode cX9_firstHalf 52 = .ok (.bipush 8, 2) := by decide +kernel
theorem dX9_firstHalf_54 : decode cX9_firstHalf 54 = .ok (.if_icmp .ge 25, 3) := by decide +kernel
theorem dX9_firstHalf_57 : decode cX9_firstHalf 57 = .ok (.iload_n 3, 1) := by decide +kernel
theorem dX9_firstHalf_58 : decode cX9_firstHalf 58 = .ok (.aload_n 0, 1) := by decide +kernel
theorem dX9_firstHalf_59 : decode cX9_firstHalf 59 = .ok (.iload_n 2, 1) := by decide +kernel
theorem dX9_firstHalf_60 : decode cX9_firstHalf 60 = .ok (.invokevirtual 94, 3) := by decide +kernel
theorem dX9_firstHalf_63 : decode cX9_firstHalf 63 = .ok (.ior, 1) := by decide +kernel
theorem dX9_firstHalf_64 : decode cX9_firstHalf 64 = .ok (.istore_n 3, 1) := by decide +kernel
theorem dX9_firstHalf_65 : decode cX9_firstHalf 65 = .ok (.iload_n 2, 1) := by decide +kernel
theorem dX9_firstHalf_66 : decode cX9_firstHalf 66 = .ok (.aload_n 0, 1) := by decide +kernel
theorem dX9_firstHalf_67 : decode cX9_firstHalf 67 = .ok (.iload_n 3, 1) := by decide +kernel
theorem dX9_firstHalf_68 : decode cX9_firstHalf 68 = .ok (.invokevirtual 94, 3) := by decide +kernel
theorem dX9_firstHalf_71 : decode cX9_firstHalf 71 = .ok (.ior, 1) := by decide +kernel
theorem dX9_firstHalf_72 : decode cX9_firstHalf 72 = .ok (.istore_n 2, 1) := by decide +kernel
theorem dX9_firstHalf_73 : decode cX9_firstHalf 73 = .ok (.iinc 5 1, 3) := by decide +kernel
theorem dX9_firstHalf_76 : decode cX9_firstHalf 76 = .ok (.goto (-26), 3) := by decide +kernel
theorem dX9_firstHalf_79 : decode cX9_firstHalf 79 = .ok (.iinc 4 1, 3) := by decide +kernel
theorem dX9_firstHalf_82 : decode cX9_firstHalf 82 = .ok (.goto (-67), 3) := by decide +kernel
theorem dX9_firstHalf_85 : decode cX9_firstHalf 85 = .ok (.iload_n 2, 1) := by decide +kernel
theorem dX9_firstHalf_86 : decode cX9_firstHalf 86 = .ok (.iload_n 3, 1) := by decide +kernel
theorem dX9_firstHalf_87 : decode cX9_firstHalf 87 = .ok (.iand, 1) := by decide +kernel
theorem dX9_firstHalf_88 : decode cX9_firstHalf 88 = .ok (.ifCond .ne 7, 3) := by decide +kernel
theorem dX9_firstHalf_91 : decode cX9_firstHalf 91 = .ok (.iload_n 2, 1) := by decide +kernel
theorem dX9_firstHalf_92 : decode cX9_firstHalf 92 = .ok (.goto 4, 3) := by decide +kernel
theorem dX9_firstHalf_95 : decode cX9_firstHalf 95 = .ok (.iconst (-1), 1) := by decide +kernel
theorem dX9_firstHalf_96 : decode cX9_firstHalf 96 = .ok (.ireturn, 1) := by decide +kernel
theorem dX9_acrossOf_0 : decode cX9_acrossOf 0 = .ok (.iconst 0, 1) := by decide +kernel
theorem dX9_acrossOf_1 : decode cX9_acrossOf 1 = .ok (.istore_n 2, 1) := by decide +kernel
theorem dX9_acrossOf_2 : decode cX9_acrossOf 2 = .ok (.iconst 0, 1) := by decide +kernel
theorem dX9_acrossOf_3 : decode cX9_acrossOf 3 = .ok (.istore_n 3, 1) := by decide +kernel
theorem dX9_acrossOf_4 : decode cX9_acrossOf 4 = .ok (.iload_n 3, 1) := by decide +kernel
theorem dX9_acrossOf_5 : decode cX9_acrossOf 5 = .ok (.aload_n 0, 1) := by decide +kernel
theorem dX9_acrossOf_6 : decode cX9_acrossOf 6 = .ok (.getfield 9, 3) := by decide +kernel
theorem dX9_acrossOf_9 : decode cX9_acrossOf 9 = .ok (.getfield 22, 3) := by decide +kernel
theorem dX9_acrossOf_12 : decode cX9_acrossOf 12 = .ok (.if_icmp .ge 72, 3) := by decide +kernel
theorem dX9_acrossOf_15 : decode cX9_acrossOf 15 = .ok (.aload_n 0, 1) := by decide +kernel
theorem dX9_acrossOf_16 : decode cX9_acrossOf 16 = .ok (.getfield 9, 3) := by decide +kernel
theorem dX9_acrossOf_19 : decode cX9_acrossOf 19 = .ok (.iload_n 3, 1) := by decide +kernel
theorem dX9_acrossOf_20 : decode cX9_acrossOf 20 = .ok (.invokevirtual 28, 3) := by decide +kernel
theorem dX9_acrossOf_23 : decode cX9_acrossOf 23 = .ok (.ifCond .eq 55, 3) := by decide +kernel
theorem dX9_acrossOf_26 : decode cX9_acrossOf 26 = .ok (.iload_n 2, 1) := by decide +kernel
theorem dX9_acrossOf_27 : decode cX9_acrossOf 27 = .ok (.iload_n 1, 1) := by decide +kernel
theorem dX9_acrossOf_28 : decode cX9_acrossOf 28 = .ok (.aload_n 0, 1) := by decide +kernel
theorem dX9_acrossOf_29 : decode cX9_acrossOf 29 = .ok (.getfield 9, 3) := by decide +kernel
theorem dX9_acrossOf_32 : decode cX9_acrossOf 32 = .ok (.getfield 32, 3) := by decide +kernel
theorem dX9_acrossOf_35 : decode cX9_acrossOf 35 = .ok (.iload_n 3, 1) := by decide +kernel
theorem dX9_acrossOf_36 : decode cX9_acrossOf 36 = .ok (.iaload, 1) := by decide +kernel
theorem dX9_acrossOf_37 : decode cX9_acrossOf 37 = .ok (.ishr, 1) := by decide +kernel
theorem dX9_acrossOf_38 : decode cX9_acrossOf 38 = .ok (.iconst 1, 1) := by decide +kernel
theorem dX9_acrossOf_39 : decode cX9_acrossOf 39 = .ok (.iand, 1) := by decide +kernel
theorem dX9_acrossOf_40 : decode cX9_acrossOf 40 = .ok (.aload_n 0, 1) := by decide +kernel
theorem dX9_acrossOf_41 : decode cX9_acrossOf 41 = .ok (.getfield 9, 3) := by decide +kernel
theorem dX9_acrossOf_44 : decode cX9_acrossOf 44 = .ok (.getfield 35, 3) := by decide +kernel
theorem dX9_acrossOf_47 : decode cX9_acrossOf 47 = .ok (.iload_n 3, 1) := by decide +kernel
theorem dX9_acrossOf_48 : decode cX9_acrossOf 48 = .ok (.iaload, 1) := by decide +kernel
theorem dX9_acrossOf_49 : decode cX9_acrossOf 49 = .ok (.ishl, 1) := by decide +kernel
theorem dX9_acrossOf_50 : decode cX9_acrossOf 50 = .ok (.ior, 1) := by decide +kernel
theorem dX9_acrossOf_51 : decode cX9_acrossOf 51 = .ok (.istore_n 2, 1) := by decide +kernel
theorem dX9_acrossOf_52 : decode cX9_acrossOf 52 = .ok (.iload_n 2, 1) := by decide +kernel
theorem dX9_acrossOf_53 : decode cX9_acrossOf 53 = .ok (.iload_n 1, 1) := by decide +kernel
theorem dX9_acrossOf_54 : decode cX9_acrossOf 54 = .ok (.aload_n 0, 1) := by decide +kernel
theorem dX9_acrossOf_55 : decode cX9_acrossOf 55 = .ok (.getfield 9, 3) := by decide +kernel
theorem dX9_acrossOf_58 : decode cX9_acrossOf 58 = .ok (.getfield 35, 3) := by decide +kernel
theorem dX9_acrossOf_61 : decode cX9_acrossOf 61 = .ok (.iload_n 3, 1) := by decide +kernel
theorem dX9_acrossOf_62 : decode cX9_acrossOf 62 = .ok (.iaload, 1) := by decide +kernel
theorem dX9_acrossOf_63 : decode cX9_acrossOf 63 = .ok (.ishr, 1) := by decide +kernel
theorem dX9_acrossOf_64 : decode cX9_acrossOf 64 = .ok (.iconst 1, 1) := by decide +kernel
theorem dX9_acrossOf_65 : decode cX9_acrossOf 65 = .ok (.iand, 1) := by decide +kernel
theorem dX9_acrossOf_66 : decode cX9_acrossOf 66 = .ok (.aload_n 0, 1) := by decide +kernel
theorem dX9_acrossOf_67 : decode cX9_acrossOf 67 = .ok (.getfield 9, 3) := by decide +kernel
theorem dX9_acrossOf_70 : decode cX9_acrossOf 70 = .ok (.getfield 32, 3) := by decide +kernel
theorem dX9_acrossOf_73 : decode cX9_acrossOf 73 = .ok (.iload_n 3, 1) := by decide +kernel
theorem dX9_acrossOf_74 : decode cX9_acrossOf 74 = .ok (.iaload, 1) := by decide +kernel
theorem dX9_acrossOf_75 : decode cX9_acrossOf 75 = .ok (.ishl, 1) := by decide +kernel
theorem dX9_acrossOf_76 : decode cX9_acrossOf 76 = .ok (.ior, 1) := by decide +kernel
theorem dX9_acrossOf_77 : decode cX9_acrossOf 77 = .ok (.istore_n 2, 1) := by decide +kernel
theorem dX9_acrossOf_78 : decode cX9_acrossOf 78 = .ok (.iinc 3 1, 3) := by decide +kernel
theorem dX9_acrossOf_81 : decode cX9_acrossOf 81 = .ok (.goto (-77), 3) := by decide +kernel
theorem dX9_acrossOf_84 : decode cX9_acrossOf 84 = .ok (.iload_n 2, 1) := by decide +kernel
theorem dX9_acrossOf_85 : decode cX9_acrossOf 85 = .ok (.ireturn, 1) := by decide +kernel
theorem dX9_guarded_0 : decode cX9_guarded 0 = .ok (.iconst 0, 1) := by decide +kernel
theorem dX9_guarded_1 : decode cX9_guarded 1 = .ok (.istore_n 2, 1) := by decide +kernel
theorem dX9_guarded_2 : decode cX9_guarded 2 = .ok (.iload_n 2, 1) := by decide +kernel
theorem dX9_guarded_3 : decode cX9_guarded 3 = .ok (.aload_n 0, 1) := by decide +kernel
theorem dX9_guarded_4 : decode cX9_guarded 4 = .ok (.getfield 9, 3) := by decide +kernel
theorem dX9_guarded_7 : decode cX9_guarded 7 = .ok (.getfield 22, 3) := by decide +kernel
theorem dX9_guarded_10 : decode cX9_guarded 10 = .ok (.if_icmp .ge 35, 3) := by decide +kernel
theorem dX9_guarded_13 : decode cX9_guarded 13 = .ok (.aload_n 0, 1) := by decide +kernel
theorem dX9_guarded_14 : decode cX9_guarded 14 = .ok (.getfield 9, 3) := by decide +kernel
theorem dX9_guarded_17 : decode cX9_guarded 17 = .ok (.iload_n 2, 1) := by decide +kernel
theorem dX9_guarded_18 : decode cX9_guarded 18 = .ok (.invokevirtual 28, 3) := by decide +kernel
theorem dX9_guarded_21 : decode cX9_guarded 21 = .ok (.ifCond .eq 18, 3) := by decide +kernel
theorem dX9_guarded_24 : decode cX9_guarded 24 = .ok (.iload_n 1, 1) := by decide +kernel
theorem dX9_guarded_25 : decode cX9_guarded 25 = .ok (.aload_n 0, 1) := by decide +kernel
theorem dX9_guarded_26 : decode cX9_guarded 26 = .ok (.getfield 9, 3) := by decide +kernel
theorem dX9_guarded_29 : decode cX9_guarded 29 = .ok (.iload_n 2, 1) := by decide +kernel
theorem dX9_guarded_30 : decode cX9_guarded 30 = .ok (.invokevirtual 70, 3) := by decide +kernel
theorem dX9_guarded_33 : decode cX9_guarded 33 = .ok (.iand, 1) := by decide +kernel
theorem dX9_guarded_34 : decode cX9_guarded 34 = .ok (.ifCond .ne 5, 3) := by decide +kernel
theorem dX9_guarded_37 : decode cX9_guarded 37 = .ok (.iconst 0, 1) := by decide +kernel
theorem dX9_guarded_38 : decode cX9_guarded 38 = .ok (.ireturn, 1) := by decide +kernel
theorem dX9_guarded_39 : decode cX9_guarded 39 = .ok (.iinc 2 1, 3) := by decide +kernel
theorem dX9_guarded_42 : decode cX9_guarded 42 = .ok (.goto (-40), 3) := by decide +kernel
theorem dX9_guarded_45 : decode cX9_guarded 45 = .ok (.iconst 1, 1) := by decide +kernel
theorem dX9_guarded_46 : decode cX9_guarded 46 = .ok (.ireturn, 1) := by decide +kernel
theorem dX9_mostApart_0 : decode cX9_mostApart 0 = .ok (.iload_n 1, 1) := by decide +kernel
theorem dX9_mostApart_1 : decode cX9_mostApart 1 = .ok (.ifCond .lt 9, 3) := by decide +kernel
theorem dX9_mostApart_4 : decode cX9_mostApart 4 = .ok (.iload_n 1, 1) := by decide +kernel
theorem dX9_mostApart_5 : decode cX9_mostApart 5 = .ok (.bipush 12, 2) := by decide +kernel
theorem dX9_mostApart_7 : decode cX9_mostApart 7 = .ok (.if_icmp .lt 22, 3) := by decide +kernel
theorem dX9_mostApart_10 : decode cX9_mostApart 10 = .ok (.iload_n 3, 1) := by decide +kernel
theorem dX9_mostApart_11 : decode cX9_mostApart 11 = .ok (.invokestatic 97, 3) := by decide +kernel
theorem dX9_mostApart_14 : decode cX9_mostApart 14 = .ok (.iload 4, 2) := by decide +kernel
theorem dX9_mostApart_16 : decode cX9_mostApart 16 = .ok (.invokestatic 97, 3) := by decide +kernel
theorem dX9_mostApart_19 : decode cX9_mostApart 19 = .ok (.if_icmp .le 7, 3) := by decide +kernel
theorem dX9_mostApart_22 : decode cX9_mostApart 22 = .ok (.iload_n 3, 1) := by decide +kernel
theorem dX9_mostApart_23 : decode cX9_mostApart 23 = .ok (.goto 5, 3) := by decide +kernel
theorem dX9_mostApart_26 : decode cX9_mostApart 26 = .ok (.iload 4, 2) := by decide +kernel
theorem dX9_mostApart_28 : decode cX9_mostApart 28 = .ok (.ireturn, 1) := by decide +kernel
theorem dX9_mostApart_29 : decode cX9_mostApart 29 = .ok (.aload_n 0, 1) := by decide +kernel
theorem dX9_mostApart_30 : decode cX9_mostApart 30 = .ok (.iload_n 1, 1) := by decide +kernel
theorem dX9_mostApart_31 : decode cX9_mostApart 31 = .ok (.iconst 1, 1) := by decide +kernel
theorem dX9_mostApart_32 : decode cX9_mostApart 32 = .ok (.isub, 1) := by decide +kernel
theorem dX9_mostApart_33 : decode cX9_mostApart 33 = .ok (.iload_n 2, 1) := by decide +kernel
theorem dX9_mostApart_34 : decode cX9_mostApart 34 = .ok (.iload_n 3, 1) := by decide +kernel
theorem dX9_mostApart_35 : decode cX9_mostApart 35 = .ok (.iload 4, 2) := by decide +kernel
theorem dX9_mostApart_37 : decode cX9_mostApart 37 = .ok (.invokestatic 102, 3) := by decide +kernel
theorem dX9_mostApart_40 : decode cX9_mostApart 40 = .ok (.istore 5, 2) := by decide +kernel
theorem dX9_mostApart_42 : decode cX9_mostApart 42 = .ok (.aload_n 0, 1) := by decide +kernel
theorem dX9_mostApart_43 : decode cX9_mostApart 43 = .ok (.iload_n 1, 1) := by decide +kernel
theorem dX9_mostApart_44 : decode cX9_mostApart 44 = .ok (.invokevirtual 70, 3) := by decide +kernel
theorem dX9_mostApart_47 : decode cX9_mostApart 47 = .ok (.istore 6, 2) := by decide +kernel
theorem dX9_mostApart_49 : decode cX9_mostApart 49 = .ok (.aload_n 0, 1) := by decide +kernel
theorem dX9_mostApart_50 : decode cX9_mostApart 50 = .ok (.iload_n 1, 1) := by decide +kernel
theorem dX9_mostApart_51 : decode cX9_mostApart 51 = .ok (.invokevirtual 28, 3) := by decide +kernel
theorem dX9_mostApart_54 : decode cX9_mostApart 54 = .ok (.ifCond .eq 30, 3) := by decide +kernel
theorem dX9_mostApart_57 : decode cX9_mostApart 57 = .ok (.iload_n 2, 1) := by decide +kernel
theorem dX9_mostApart_58 : decode cX9_mostApart 58 = .ok (.iload 6, 2) := by decide +kernel
theorem dX9_mostApart_60 : decode cX9_mostApart 60 = .ok (.iand, 1) := by decide +kernel
theorem dX9_mostApart_61 : decode cX9_mostApart 61 = .ok (.ifCond .ne 23, 3) := by decide +kernel
theorem dX9_mostApart_64 : decode cX9_mostApart 64 = .ok (.aload_n 0, 1) := by decide +kernel
theorem dX9_mostApart_65 : decode cX9_mostApart 65 = .ok (.iload_n 1, 1) := by decide +kernel
theorem dX9_mostApart_66 : decode cX9_mostApart 66 = .ok (.iconst 1, 1) := by decide +kernel
theorem dX9_mostApart_67 : decode cX9_mostApart 67 = .ok (.isub, 1) := by decide +kernel
theorem dX9_mostApart_68 : decode cX9_mostApart 68 = .ok (.iload_n 2, 1) := by decide +kernel
theorem dX9_mostApart_69 : decode cX9_mostApart 69 = .ok (.iload 6, 2) := by decide +kernel
theorem dX9_mostApart_71 : decode cX9_mostApart 71 = .ok (.ior, 1) := by decide +kernel
theorem dX9_mostApart_72 : decode cX9_mostApart 72 = .ok (.iload_n 3, 1) := by decide +kernel
theorem dX9_mostApart_73 : decode cX9_mostApart 73 = .ok (.iconst 1, 1) := by decide +kernel
theorem dX9_mostApart_74 : decode cX9_mostApart 74 = .ok (.iload_n 1, 1) := by decide +kernel
theorem dX9_mostApart_75 : decode cX9_mostApart 75 = .ok (.ishl, 1) := by decide +kernel
theorem dX9_mostApart_76 : decode cX9_mostApart 76 = .ok (.ior, 1) := by decide +kernel
theorem dX9_mostApart_77 : decode cX9_mostApart 77 = .ok (.iload 5, 2) := by decide +kernel
theorem dX9_mostApart_79 : decode cX9_mostApart 79 = .ok (.invokestatic 102, 3) := by decide +kernel
theorem dX9_mostApart_82 : decode cX9_mostApart 82 = .ok (.istore 5, 2) := by decide +kernel
theorem dX9_mostApart_84 : decode cX9_mostApart 84 = .ok (.iload 5, 2) := by decide +kernel
theorem dX9_mostApart_86 : decode cX9_mostApart 86 = .ok (.ireturn, 1) := by decide +kernel
theorem dJ11_isValidCodePoint_9a6ad_0 : decode cJ11_isValidCodePoint_9a6ad 0 = .ok (.iload_n 0, 1) := by decide +kernel
theorem dJ11_isValidCodePoint_9a6ad_1 : decode cJ11_isValidCodePoint_9a6ad 1 = .ok (.bipush 16, 2) := by decide +kernel
theorem dJ11_isValidCodePoint_9a6ad_3 : decode cJ11_isValidCodePoint_9a6ad 3 = .ok (.iushr, 1) := by decide +kernel
theorem dJ11_isValidCodePoint_9a6ad_4 : decode cJ11_isValidCodePoint_9a6ad 4 = .ok (.istore_n 1, 1) := by decide +kernel
theorem dJ11_isValidCodePoint_9a6ad_5 : decode cJ11_isValidCodePoint_9a6ad 5 = .ok (.iload_n 1, 1) := by decide +kernel
theorem dJ11_isValidCodePoint_9a6ad_6 : decode cJ11_isValidCodePoint_9a6ad 6 = .ok (.bipush 17, 2) := by decide +kernel
theorem dJ11_isValidCodePoint_9a6ad_8 : decode cJ11_isValidCodePoint_9a6ad 8 = .ok (.if_icmp .ge 7, 3) := by decide +kernel
theorem dJ11_isValidCodePoint_9a6ad_11 : decode cJ11_isValidCodePoint_9a6ad 11 = .ok (.iconst 1, 1) := by decide +kernel
theorem dJ11_isValidCodePoint_9a6ad_12 : decode cJ11_isValidCodePoint_9a6ad 12 = .ok (.goto 4, 3) := by decide +kernel
theorem dJ11_isValidCodePoint_9a6ad_15 : decode cJ11_isValidCodePoint_9a6ad 15 = .ok (.iconst 0, 1) := by decide +kernel
theorem dJ11_isValidCodePoint_9a6ad_16 : decode cJ11_isValidCodePoint_9a6ad 16 = .ok (.ireturn, 1) := by decide +kernel
theorem dJ11_highSurrogate_5068e_0 : decode cJ11_highSurrogate_5068e 0 = .ok (.iload_n 0, 1) := by decide +kernel
theorem dJ11_highSurrogate_5068e_1 : decode cJ11_highSurrogate_5068e 1 = .ok (.bipush 10, 2) := by decide +kernel
theorem dJ11_highSurrogate_5068e_3 : decode cJ11_highSurrogate_5068e 3 = .ok (.iushr, 1) := by decide +kernel
theorem dJ11_highSurrogate_5068e_4 : decode cJ11_highSurrogate_5068e 4 = .ok (.ldc 110, 2) := by decide +kernel
theorem dJ11_highSurrogate_5068e_6 : decode cJ11_highSurrogate_5068e 6 = .ok (.iadd, 1) := by decide +kernel
theorem dJ11_highSurrogate_5068e_7 : decode cJ11_highSurrogate_5068e 7 = .ok (.i2c, 1) := by decide +kernel
theorem dJ11_highSurrogate_5068e_8 : decode cJ11_highSurrogate_5068e 8 = .ok (.ireturn, 1) := by decide +kernel
theorem dJ11_lowSurrogate_5068e_0 : decode cJ11_lowSurrogate_5068e 0 = .ok (.iload_n 0, 1) := by decide +kernel
theorem dJ11_lowSurrogate_5068e_1 : decode cJ11_lowSurrogate_5068e 1 = .ok (.sipush 1023, 3) := by decide +kernel
theorem dJ11_lowSurrogate_5068e_4 : decode cJ11_lowSurrogate_5068e 4 = .ok (.iand, 1) := by decide +kernel
theorem dJ11_lowSurrogate_5068e_5 : decode cJ11_lowSurrogate_5068e 5 = .ok (.ldc 76, 2) := by decide +kernel
theorem dJ11_lowSurrogate_5068e_7 : decode cJ11_lowSurrogate_5068e 7 = .ok (.iadd, 1) := by decide +kernel
theorem dJ11_lowSurrogate_5068e_8 : decode cJ11_lowSurrogate_5068e 8 = .ok (.i2c, 1) := by decide +kernel
theorem dJ11_lowSurrogate_5068e_9 : decode cJ11_lowSurrogate_5068e 9 = .ok (.ireturn, 1) := by decide +kernel
theorem dJ6_numberOfTrailingZeros_0f7a4_0 : decode cJ6_numberOfTrailingZeros_0f7a4 0 = .ok (.iload_n 0, 1) := by decide +kernel
theorem dJ6_numberOfTrailingZeros_0f7a4_1 : decode cJ6_numberOfTrailingZeros_0f7a4 1 = .ok (.iconst (-1), 1) := by decide +kernel
theorem dJ6_numberOfTrailingZeros_0f7a4_2 : decode cJ6_numberOfTrailingZeros_0f7a4 2 = .ok (.ixor, 1) := by decide +kernel
theorem dJ6_numberOfTrailingZeros_0f7a4_3 : decode cJ6_numberOfTrailingZeros_0f7a4 3 = .ok (.iload_n 0, 1) := by decide +kernel
theorem dJ6_numberOfTrailingZeros_0f7a4_4 : decode cJ6_numberOfTrailingZeros_0f7a4 4 = .ok (.iconst 1, 1) := by decide +kernel
theorem dJ6_numberOfTrailingZeros_0f7a4_5 : decode cJ6_numberOfTrailingZeros_0f7a4 5 = .ok (.isub, 1) := by decide +kernel
theorem dJ6_numberOfTrailingZeros_0f7a4_6 : decode cJ6_numberOfTrailingZeros_0f7a4 6 = .ok (.iand, 1) := by decide +kernel
theorem dJ6_numberOfTrailingZeros_0f7a4_7 : decode cJ6_numberOfTrailingZeros_0f7a4 7 = .ok (.istore_n 0, 1) := by decide +kernel
theorem dJ6_numberOfTrailingZeros_0f7a4_8 : decode cJ6_numberOfTrailingZeros_0f7a4 8 = .ok (.iload_n 0, 1) := by decide +kernel
theorem dJ6_numberOfTrailingZeros_0f7a4_9 : decode cJ6_numberOfTrailingZeros_0f7a4 9 = .ok (.ifCond .gt 8, 3) := by decide +kernel
theorem dJ6_numberOfTrailingZeros_0f7a4_12 : decode cJ6_numberOfTrailingZeros_0f7a4 12 = .ok (.iload_n 0, 1) := by decide +kernel
theorem dJ6_numberOfTrailingZeros_0f7a4_13 : decode cJ6_numberOfTrailingZeros_0f7a4 13 = .ok (.bipush 32, 2) := by decide +kernel
theorem dJ6_numberOfTrailingZeros_0f7a4_15 : decode cJ6_numberOfTrailingZeros_0f7a4 15 = .ok (.iand, 1) := by decide +kernel
theorem dJ6_numberOfTrailingZeros_0f7a4_16 : decode cJ6_numberOfTrailingZeros_0f7a4 16 = .ok (.ireturn, 1) := by decide +kernel
theorem dJ6_numberOfTrailingZeros_0f7a4_17 : decode cJ6_numberOfTrailingZeros_0f7a4 17 = .ok (.iconst 1, 1) := by decide +kernel
theorem dJ6_numberOfTrailingZeros_0f7a4_18 : decode cJ6_numberOfTrailingZeros_0f7a4 18 = .ok (.istore_n 1, 1) := by decide +kernel
theorem dJ6_numberOfTrailingZeros_0f7a4_19 : decode cJ6_numberOfTrailingZeros_0f7a4 19 = .ok (.iload_n 0, 1) := by decide +kernel
theorem dJ6_numberOfTrailingZeros_0f7a4_20 : decode cJ6_numberOfTrailingZeros_0f7a4 20 = .ok (.ldc_w 264, 3) := by decide +kernel
theorem dJ6_numberOfTrailingZeros_0f7a4_23 : decode cJ6_numberOfTrailingZeros_0f7a4 23 = .ok (.if_icmp .le 11, 3) := by decide +kernel
theorem dJ6_numberOfTrailingZeros_0f7a4_26 : decode cJ6_numberOfTrailingZeros_0f7a4 26 = .ok (.iinc 1 16, 3) := by decide +kernel
theorem dJ6_numberOfTrailingZeros_0f7a4_29 : decode cJ6_numberOfTrailingZeros_0f7a4 29 = .ok (.iload_n 0, 1) := by decide +kernel
theorem dJ6_numberOfTrailingZeros_0f7a4_30 : decode cJ6_numberOfTrailingZeros_0f7a4 30 = .ok (.bipush 16, 2) := by decide +kernel
theorem dJ6_numberOfTrailingZeros_0f7a4_32 : decode cJ6_numberOfTrailingZeros_0f7a4 32 = .ok (.iushr, 1) := by decide +kernel
theorem dJ6_numberOfTrailingZeros_0f7a4_33 : decode cJ6_numberOfTrailingZeros_0f7a4 33 = .ok (.istore_n 0, 1) := by decide +kernel
theorem dJ6_numberOfTrailingZeros_0f7a4_34 : decode cJ6_numberOfTrailingZeros_0f7a4 34 = .ok (.iload_n 0, 1) := by decide +kernel
theorem dJ6_numberOfTrailingZeros_0f7a4_35 : decode cJ6_numberOfTrailingZeros_0f7a4 35 = .ok (.sipush 256, 3) := by decide +kernel
theorem dJ6_numberOfTrailingZeros_0f7a4_38 : decode cJ6_numberOfTrailingZeros_0f7a4 38 = .ok (.if_icmp .le 11, 3) := by decide +kernel
theorem dJ6_numberOfTrailingZeros_0f7a4_41 : decode cJ6_numberOfTrailingZeros_0f7a4 41 = .ok (.iinc 1 8, 3) := by decide +kernel
theorem dJ6_numberOfTrailingZeros_0f7a4_44 : decode cJ6_numberOfTrailingZeros_0f7a4 44 = .ok (.iload_n 0, 1) := by decide +kernel
theorem dJ6_numberOfTrailingZeros_0f7a4_45 : decode cJ6_numberOfTrailingZeros_0f7a4 45 = .ok (.bipush 8, 2) := by decide +kernel
theorem dJ6_numberOfTrailingZeros_0f7a4_47 : decode cJ6_numberOfTrailingZeros_0f7a4 47 = .ok (.iushr, 1) := by decide +kernel
theorem dJ6_numberOfTrailingZeros_0f7a4_48 : decode cJ6_numberOfTrailingZeros_0f7a4 48 = .ok (.istore_n 0, 1) := by decide +kernel
theorem dJ6_numberOfTrailingZeros_0f7a4_49 : decode cJ6_numberOfTrailingZeros_0f7a4 49 = .ok (.iload_n 0, 1) := by decide +kernel
theorem dJ6_numberOfTrailingZeros_0f7a4_50 : decode cJ6_numberOfTrailingZeros_0f7a4 50 = .ok (.bipush 16, 2) := by decide +kernel
theorem dJ6_numberOfTrailingZeros_0f7a4_52 : decode cJ6_numberOfTrailingZeros_0f7a4 52 = .ok (.if_icmp .le 10, 3) := by decide +kernel
theorem dJ6_numberOfTrailingZeros_0f7a4_55 : decode cJ6_numberOfTrailingZeros_0f7a4 55 = .ok (.iinc 1 4, 3) := by decide +kernel
theorem dJ6_numberOfTrailingZeros_0f7a4_58 : decode cJ6_numberOfTrailingZeros_0f7a4 58 = .ok (.iload_n 0, 1) := by decide +kernel
theorem dJ6_numberOfTrailingZeros_0f7a4_59 : decode cJ6_numberOfTrailingZeros_0f7a4 59 = .ok (.iconst 4, 1) := by decide +kernel
theorem dJ6_numberOfTrailingZeros_0f7a4_60 : decode cJ6_numberOfTrailingZeros_0f7a4 60 = .ok (.iushr, 1) := by decide +kernel
theorem dJ6_numberOfTrailingZeros_0f7a4_61 : decode cJ6_numberOfTrailingZeros_0f7a4 61 = .ok (.istore_n 0, 1) := by decide +kernel
theorem dJ6_numberOfTrailingZeros_0f7a4_62 : decode cJ6_numberOfTrailingZeros_0f7a4 62 = .ok (.iload_n 0, 1) := by decide +kernel
theorem dJ6_numberOfTrailingZeros_0f7a4_63 : decode cJ6_numberOfTrailingZeros_0f7a4 63 = .ok (.iconst 4, 1) := by decide +kernel
theorem dJ6_numberOfTrailingZeros_0f7a4_64 : decode cJ6_numberOfTrailingZeros_0f7a4 64 = .ok (.if_icmp .le 10, 3) := by decide +kernel
theorem dJ6_numberOfTrailingZeros_0f7a4_67 : decode cJ6_numberOfTrailingZeros_0f7a4 67 = .ok (.iinc 1 2, 3) := by decide +kernel
theorem dJ6_numberOfTrailingZeros_0f7a4_70 : decode cJ6_numberOfTrailingZeros_0f7a4 70 = .ok (.iload_n 0, 1) := by decide +kernel
theorem dJ6_numberOfTrailingZeros_0f7a4_71 : decode cJ6_numberOfTrailingZeros_0f7a4 71 = .ok (.iconst 2, 1) := by decide +kernel
theorem dJ6_numberOfTrailingZeros_0f7a4_72 : decode cJ6_numberOfTrailingZeros_0f7a4 72 = .ok (.iushr, 1) := by decide +kernel
theorem dJ6_numberOfTrailingZeros_0f7a4_73 : decode cJ6_numberOfTrailingZeros_0f7a4 73 = .ok (.istore_n 0, 1) := by decide +kernel
theorem dJ6_numberOfTrailingZeros_0f7a4_74 : decode cJ6_numberOfTrailingZeros_0f7a4 74 = .ok (.iload_n 1, 1) := by decide +kernel
theorem dJ6_numberOfTrailingZeros_0f7a4_75 : decode cJ6_numberOfTrailingZeros_0f7a4 75 = .ok (.iload_n 0, 1) := by decide +kernel
theorem dJ6_numberOfTrailingZeros_0f7a4_76 : decode cJ6_numberOfTrailingZeros_0f7a4 76 = .ok (.iconst 1, 1) := by decide +kernel
theorem dJ6_numberOfTrailingZeros_0f7a4_77 : decode cJ6_numberOfTrailingZeros_0f7a4 77 = .ok (.iushr, 1) := by decide +kernel
theorem dJ6_numberOfTrailingZeros_0f7a4_78 : decode cJ6_numberOfTrailingZeros_0f7a4 78 = .ok (.iadd, 1) := by decide +kernel
theorem dJ6_numberOfTrailingZeros_0f7a4_79 : decode cJ6_numberOfTrailingZeros_0f7a4 79 = .ok (.ireturn, 1) := by decide +kernel
theorem dJ6_bitCount_0f7a4_0 : decode cJ6_bitCount_0f7a4 0 = .ok (.iload_n 0, 1) := by decide +kernel
theorem dJ6_bitCount_0f7a4_1 : decode cJ6_bitCount_0f7a4 1 = .ok (.iload_n 0, 1) := by decide +kernel
theorem dJ6_bitCount_0f7a4_2 : decode cJ6_bitCount_0f7a4 2 = .ok (.iconst 1, 1) := by decide +kernel
theorem dJ6_bitCount_0f7a4_3 : decode cJ6_bitCount_0f7a4 3 = .ok (.iushr, 1) := by decide +kernel
theorem dJ6_bitCount_0f7a4_4 : decode cJ6_bitCount_0f7a4 4 = .ok (.ldc_w 265, 3) := by decide +kernel
theorem dJ6_bitCount_0f7a4_7 : decode cJ6_bitCount_0f7a4 7 = .ok (.iand, 1) := by decide +kernel
theorem dJ6_bitCount_0f7a4_8 : decode cJ6_bitCount_0f7a4 8 = .ok (.isub, 1) := by decide +kernel
theorem dJ6_bitCount_0f7a4_9 : decode cJ6_bitCount_0f7a4 9 = .ok (.istore_n 0, 1) := by decide +kernel
theorem dJ6_bitCount_0f7a4_10 : decode cJ6_bitCount_0f7a4 10 = .ok (.iload_n 0, 1) := by decide +kernel
theorem dJ6_bitCount_0f7a4_11 : decode cJ6_bitCount_0f7a4 11 = .ok (.ldc_w 266, 3) := by decide +kernel
theorem dJ6_bitCount_0f7a4_14 : decode cJ6_bitCount_0f7a4 14 = .ok (.iand, 1) := by decide +kernel
theorem dJ6_bitCount_0f7a4_15 : decode cJ6_bitCount_0f7a4 15 = .ok (.iload_n 0, 1) := by decide +kernel
theorem dJ6_bitCount_0f7a4_16 : decode cJ6_bitCount_0f7a4 16 = .ok (.iconst 2, 1) := by decide +kernel
theorem dJ6_bitCount_0f7a4_17 : decode cJ6_bitCount_0f7a4 17 = .ok (.iushr, 1) := by decide +kernel
theorem dJ6_bitCount_0f7a4_18 : decode cJ6_bitCount_0f7a4 18 = .ok (.ldc_w 266, 3) := by decide +kernel
theorem dJ6_bitCount_0f7a4_21 : decode cJ6_bitCount_0f7a4 21 = .ok (.iand, 1) := by decide +kernel
theorem dJ6_bitCount_0f7a4_22 : decode cJ6_bitCount_0f7a4 22 = .ok (.iadd, 1) := by decide +kernel
theorem dJ6_bitCount_0f7a4_23 : decode cJ6_bitCount_0f7a4 23 = .ok (.istore_n 0, 1) := by decide +kernel
theorem dJ6_bitCount_0f7a4_24 : decode cJ6_bitCount_0f7a4 24 = .ok (.iload_n 0, 1) := by decide +kernel
theorem dJ6_bitCount_0f7a4_25 : decode cJ6_bitCount_0f7a4 25 = .ok (.iload_n 0, 1) := by decide +kernel
theorem dJ6_bitCount_0f7a4_26 : decode cJ6_bitCount_0f7a4 26 = .ok (.iconst 4, 1) := by decide +kernel
theorem dJ6_bitCount_0f7a4_27 : decode cJ6_bitCount_0f7a4 27 = .ok (.iushr, 1) := by decide +kernel
theorem dJ6_bitCount_0f7a4_28 : decode cJ6_bitCount_0f7a4 28 = .ok (.iadd, 1) := by decide +kernel
theorem dJ6_bitCount_0f7a4_29 : decode cJ6_bitCount_0f7a4 29 = .ok (.ldc_w 267, 3) := by decide +kernel
theorem dJ6_bitCount_0f7a4_32 : decode cJ6_bitCount_0f7a4 32 = .ok (.iand, 1) := by decide +kernel
theorem dJ6_bitCount_0f7a4_33 : decode cJ6_bitCount_0f7a4 33 = .ok (.istore_n 0, 1) := by decide +kernel
theorem dJ6_bitCount_0f7a4_34 : decode cJ6_bitCount_0f7a4 34 = .ok (.iload_n 0, 1) := by decide +kernel
theorem dJ6_bitCount_0f7a4_35 : decode cJ6_bitCount_0f7a4 35 = .ok (.iload_n 0, 1) := by decide +kernel
theorem dJ6_bitCount_0f7a4_36 : decode cJ6_bitCount_0f7a4 36 = .ok (.bipush 8, 2) := by decide +kernel
theorem dJ6_bitCount_0f7a4_38 : decode cJ6_bitCount_0f7a4 38 = .ok (.iushr, 1) := by decide +kernel
theorem dJ6_bitCount_0f7a4_39 : decode cJ6_bitCount_0f7a4 39 = .ok (.iadd, 1) := by decide +kernel
theorem dJ6_bitCount_0f7a4_40 : decode cJ6_bitCount_0f7a4 40 = .ok (.istore_n 0, 1) := by decide +kernel
theorem dJ6_bitCount_0f7a4_41 : decode cJ6_bitCount_0f7a4 41 = .ok (.iload_n 0, 1) := by decide +kernel
theorem dJ6_bitCount_0f7a4_42 : decode cJ6_bitCount_0f7a4 42 = .ok (.iload_n 0, 1) := by decide +kernel
theorem dJ6_bitCount_0f7a4_43 : decode cJ6_bitCount_0f7a4 43 = .ok (.bipush 16, 2) := by decide +kernel
theorem dJ6_bitCount_0f7a4_45 : decode cJ6_bitCount_0f7a4 45 = .ok (.iushr, 1) := by decide +kernel
theorem dJ6_bitCount_0f7a4_46 : decode cJ6_bitCount_0f7a4 46 = .ok (.iadd, 1) := by decide +kernel
theorem dJ6_bitCount_0f7a4_47 : decode cJ6_bitCount_0f7a4 47 = .ok (.istore_n 0, 1) := by decide +kernel
theorem dJ6_bitCount_0f7a4_48 : decode cJ6_bitCount_0f7a4 48 = .ok (.iload_n 0, 1) := by decide +kernel
theorem dJ6_bitCount_0f7a4_49 : decode cJ6_bitCount_0f7a4 49 = .ok (.bipush 63, 2) := by decide +kernel
theorem dJ6_bitCount_0f7a4_51 : decode cJ6_bitCount_0f7a4 51 = .ok (.iand, 1) := by decide +kernel
theorem dJ6_bitCount_0f7a4_52 : decode cJ6_bitCount_0f7a4 52 = .ok (.ireturn, 1) := by decide +kernel
theorem dJ9_floorMod_7cf53_0 : decode cJ9_floorMod_7cf53 0 = .ok (.iload_n 0, 1) := by decide +kernel
theorem dJ9_floorMod_7cf53_1 : decode cJ9_floorMod_7cf53 1 = .ok (.iload_n 1, 1) := by decide +kernel
theorem dJ9_floorMod_7cf53_2 : decode cJ9_floorMod_7cf53 2 = .ok (.irem, 1) := by decide +kernel
theorem dJ9_floorMod_7cf53_3 : decode cJ9_floorMod_7cf53 3 = .ok (.istore_n 2, 1) := by decide +kernel
theorem dJ9_floorMod_7cf53_4 : decode cJ9_floorMod_7cf53 4 = .ok (.iload_n 0, 1) := by decide +kernel
theorem dJ9_floorMod_7cf53_5 : decode cJ9_floorMod_7cf53 5 = .ok (.iload_n 1, 1) := by decide +kernel
theorem dJ9_floorMod_7cf53_6 : decode cJ9_floorMod_7cf53 6 = .ok (.ixor, 1) := by decide +kernel
theorem dJ9_floorMod_7cf53_7 : decode cJ9_floorMod_7cf53 7 = .ok (.ifCond .ge 11, 3) := by decide +kernel
theorem dJ9_floorMod_7cf53_10 : decode cJ9_floorMod_7cf53 10 = .ok (.iload_n 2, 1) := by decide +kernel
theorem dJ9_floorMod_7cf53_11 : decode cJ9_floorMod_7cf53 11 = .ok (.ifCond .eq 7, 3) := by decide +kernel
theorem dJ9_floorMod_7cf53_14 : decode cJ9_floorMod_7cf53 14 = .ok (.iload_n 2, 1) := by decide +kernel
theorem dJ9_floorMod_7cf53_15 : decode cJ9_floorMod_7cf53 15 = .ok (.iload_n 1, 1) := by decide +kernel
theorem dJ9_floorMod_7cf53_16 : decode cJ9_floorMod_7cf53 16 = .ok (.iadd, 1) := by decide +kernel
theorem dJ9_floorMod_7cf53_17 : decode cJ9_floorMod_7cf53 17 = .ok (.ireturn, 1) := by decide +kernel
theorem dJ9_floorMod_7cf53_18 : decode cJ9_floorMod_7cf53 18 = .ok (.iload_n 2, 1) := by decide +kernel
theorem dJ9_floorMod_7cf53_19 : decode cJ9_floorMod_7cf53 19 = .ok (.ireturn, 1) := by decide +kernel
theorem dJ9_max_7cf53_0 : decode cJ9_max_7cf53 0 = .ok (.iload_n 0, 1) := by decide +kernel
theorem dJ9_max_7cf53_1 : decode cJ9_max_7cf53 1 = .ok (.iload_n 1, 1) := by decide +kernel
theorem dJ9_max_7cf53_2 : decode cJ9_max_7cf53 2 = .ok (.if_icmp .lt 7, 3) := by decide +kernel
theorem dJ9_max_7cf53_5 : decode cJ9_max_7cf53 5 = .ok (.iload_n 0, 1) := by decide +kernel
theorem dJ9_max_7cf53_6 : decode cJ9_max_7cf53 6 = .ok (.goto 4, 3) := by decide +kernel
theorem dJ9_max_7cf53_9 : decode cJ9_max_7cf53 9 = .ok (.iload_n 1, 1) := by decide +kernel
theorem dJ9_max_7cf53_10 : decode cJ9_max_7cf53 10 = .ok (.ireturn, 1) := by decide +kernel
theorem dJ9_min_7cf53_0 : decode cJ9_min_7cf53 0 = .ok (.iload_n 0, 1) := by decide +kernel
theorem dJ9_min_7cf53_1 : decode cJ9_min_7cf53 1 = .ok (.iload_n 1, 1) := by decide +kernel
theorem dJ9_min_7cf53_2 : decode cJ9_min_7cf53 2 = .ok (.if_icmp .gt 7, 3) := by decide +kernel
theorem dJ9_min_7cf53_5 : decode cJ9_min_7cf53 5 = .ok (.iload_n 0, 1) := by decide +kernel
theorem dJ9_min_7cf53_6 : decode cJ9_min_7cf53 6 = .ok (.goto 4, 3) := by decide +kernel
theorem dJ9_min_7cf53_9 : decode cJ9_min_7cf53 9 = .ok (.iload_n 1, 1) := by decide +kernel
theorem dJ9_min_7cf53_10 : decode cJ9_min_7cf53 10 = .ok (.ireturn, 1) := by decide +kernel
theorem dJ0_length_8abf5_0 : decode cJ0_length_8abf5 0 = .ok (.aload_n 0, 1) := by decide +kernel
theorem dJ0_length_8abf5_1 : decode cJ0_length_8abf5 1 = .ok (.getfield 9, 3) := by decide +kernel
theorem dJ0_length_8abf5_4 : decode cJ0_length_8abf5 4 = .ok (.arraylength, 1) := by decide +kernel
theorem dJ0_length_8abf5_5 : decode cJ0_length_8abf5 5 = .ok (.aload_n 0, 1) := by decide +kernel
theorem dJ0_length_8abf5_6 : decode cJ0_length_8abf5 6 = .ok (.invokevirtual 335, 3) := by decide +kernel
theorem dJ0_length_8abf5_9 : decode cJ0_length_8abf5 9 = .ok (.ishr, 1) := by decide +kernel
theorem dJ0_length_8abf5_10 : decode cJ0_length_8abf5 10 = .ok (.ireturn, 1) := by decide +kernel
theorem dJ0_charAt_5068e_0 : decode cJ0_charAt_5068e 0 = .ok (.aload_n 0, 1) := by decide +kernel
theorem dJ0_charAt_5068e_1 : decode cJ0_charAt_5068e 1 = .ok (.invokevirtual 492, 3) := by decide +kernel
theorem dJ0_charAt_5068e_4 : decode cJ0_charAt_5068e 4 = .ok (.ifCond .eq 12, 3) := by decide +kernel
theorem dJ0_charAt_5068e_7 : decode cJ0_charAt_5068e 7 = .ok (.aload_n 0, 1) := by decide +kernel
theorem dJ0_charAt_5068e_8 : decode cJ0_charAt_5068e 8 = .ok (.getfield 9, 3) := by decide +kernel
theorem dJ0_charAt_5068e_11 : decode cJ0_charAt_5068e 11 = .ok (.iload_n 1, 1) := by decide +kernel
theorem dJ0_charAt_5068e_12 : decode cJ0_charAt_5068e 12 = .ok (.invokestatic 495, 3) := by decide +kernel
theorem dJ0_charAt_5068e_15 : decode cJ0_charAt_5068e 15 = .ok (.ireturn, 1) := by decide +kernel
theorem dJ0_charAt_5068e_16 : decode cJ0_charAt_5068e 16 = .ok (.aload_n 0, 1) := by decide +kernel
theorem dJ0_charAt_5068e_17 : decode cJ0_charAt_5068e 17 = .ok (.getfield 9, 3) := by decide +kernel
theorem dJ0_charAt_5068e_20 : decode cJ0_charAt_5068e 20 = .ok (.iload_n 1, 1) := by decide +kernel
theorem dJ0_charAt_5068e_21 : decode cJ0_charAt_5068e 21 = .ok (.invokestatic 498, 3) := by decide +kernel
theorem dJ0_charAt_5068e_24 : decode cJ0_charAt_5068e 24 = .ok (.ireturn, 1) := by decide +kernel
theorem dJ0_indexOf_0f7a4_0 : decode cJ0_indexOf_0f7a4 0 = .ok (.aload_n 0, 1) := by decide +kernel
theorem dJ0_indexOf_0f7a4_1 : decode cJ0_indexOf_0f7a4 1 = .ok (.iload_n 1, 1) := by decide +kernel
theorem dJ0_indexOf_0f7a4_2 : decode cJ0_indexOf_0f7a4 2 = .ok (.iconst 0, 1) := by decide +kernel
theorem dJ0_indexOf_0f7a4_3 : decode cJ0_indexOf_0f7a4 3 = .ok (.invokevirtual 633, 3) := by decide +kernel
theorem dJ0_indexOf_0f7a4_6 : decode cJ0_indexOf_0f7a4 6 = .ok (.ireturn, 1) := by decide +kernel
theorem dJ0_indexOf_7cf53_0 : decode cJ0_indexOf_7cf53 0 = .ok (.aload_n 0, 1) := by decide +kernel
theorem dJ0_indexOf_7cf53_1 : decode cJ0_indexOf_7cf53 1 = .ok (.invokevirtual 492, 3) := by decide +kernel
theorem dJ0_indexOf_7cf53_4 : decode cJ0_indexOf_7cf53 4 = .ok (.ifCond .eq 19, 3) := by decide +kernel
theorem dJ0_indexOf_7cf53_7 : decode cJ0_indexOf_7cf53 7 = .ok (.aload_n 0, 1) := by decide +kernel
theorem dJ0_indexOf_7cf53_8 : decode cJ0_indexOf_7cf53 8 = .ok (.getfield 9, 3) := by decide +kernel
theorem dJ0_indexOf_7cf53_11 : decode cJ0_indexOf_7cf53 11 = .ok (.iload_n 1, 1) := by decide +kernel
theorem dJ0_indexOf_7cf53_12 : decode cJ0_indexOf_7cf53 12 = .ok (.iload_n 2, 1) := by decide +kernel
theorem dJ0_indexOf_7cf53_13 : decode cJ0_indexOf_7cf53 13 = .ok (.aload_n 0, 1) := by decide +kernel
theorem dJ0_indexOf_7cf53_14 : decode cJ0_indexOf_7cf53 14 = .ok (.invokevirtual 505, 3) := by decide +kernel
theorem dJ0_indexOf_7cf53_17 : decode cJ0_indexOf_7cf53 17 = .ok (.invokestatic 637, 3) := by decide +kernel
theorem dJ0_indexOf_7cf53_20 : decode cJ0_indexOf_7cf53 20 = .ok (.goto 16, 3) := by decide +kernel
theorem dJ0_indexOf_7cf53_23 : decode cJ0_indexOf_7cf53 23 = .ok (.aload_n 0, 1) := by decide +kernel
theorem dJ0_indexOf_7cf53_24 : decode cJ0_indexOf_7cf53 24 = .ok (.getfield 9, 3) := by decide +kernel
theorem dJ0_indexOf_7cf53_27 : decode cJ0_indexOf_7cf53 27 = .ok (.iload_n 1, 1) := by decide +kernel
theorem dJ0_indexOf_7cf53_28 : decode cJ0_indexOf_7cf53 28 = .ok (.iload_n 2, 1) := by decide +kernel
theorem dJ0_indexOf_7cf53_29 : decode cJ0_indexOf_7cf53 29 = .ok (.aload_n 0, 1) := by decide +kernel
theorem dJ0_indexOf_7cf53_30 : decode cJ0_indexOf_7cf53 30 = .ok (.invokevirtual 505, 3) := by decide +kernel
theorem dJ0_indexOf_7cf53_33 : decode cJ0_indexOf_7cf53 33 = .ok (.invokestatic 640, 3) := by decide +kernel
theorem dJ0_indexOf_7cf53_36 : decode cJ0_indexOf_7cf53 36 = .ok (.ireturn, 1) := by decide +kernel
theorem dJ0_coder_7d493_0 : decode cJ0_coder_7d493 0 = .ok (.getstatic 38, 3) := by decide +kernel
theorem dJ0_coder_7d493_3 : decode cJ0_coder_7d493 3 = .ok (.ifCond .eq 10, 3) := by decide +kernel
theorem dJ0_coder_7d493_6 : decode cJ0_coder_7d493 6 = .ok (.aload_n 0, 1) := by decide +kernel
theorem dJ0_coder_7d493_7 : decode cJ0_coder_7d493 7 = .ok (.getfield 15, 3) := by decide +kernel
theorem dJ0_coder_7d493_10 : decode cJ0_coder_7d493 10 = .ok (.goto 4, 3) := by decide +kernel
theorem dJ0_coder_7d493_13 : decode cJ0_coder_7d493 13 = .ok (.iconst 1, 1) := by decide +kernel
theorem dJ0_coder_7d493_14 : decode cJ0_coder_7d493 14 = .ok (.ireturn, 1) := by decide +kernel
theorem dJ0_isLatin1_aae02_0 : decode cJ0_isLatin1_aae02 0 = .ok (.getstatic 38, 3) := by decide +kernel
theorem dJ0_isLatin1_aae02_3 : decode cJ0_isLatin1_aae02 3 = .ok (.ifCond .eq 14, 3) := by decide +kernel
theorem dJ0_isLatin1_aae02_6 : decode cJ0_isLatin1_aae02 6 = .ok (.aload_n 0, 1) := by decide +kernel
theorem dJ0_isLatin1_aae02_7 : decode cJ0_isLatin1_aae02 7 = .ok (.getfield 15, 3) := by decide +kernel
theorem dJ0_isLatin1_aae02_10 : decode cJ0_isLatin1_aae02 10 = .ok (.ifCond .ne 7, 3) := by decide +kernel
theorem dJ0_isLatin1_aae02_13 : decode cJ0_isLatin1_aae02 13 = .ok (.iconst 1, 1) := by decide +kernel
theorem dJ0_isLatin1_aae02_14 : decode cJ0_isLatin1_aae02 14 = .ok (.goto 4, 3) := by decide +kernel
theorem dJ0_isLatin1_aae02_17 : decode cJ0_isLatin1_aae02 17 = .ok (.iconst 0, 1) := by decide +kernel
theorem dJ0_isLatin1_aae02_18 : decode cJ0_isLatin1_aae02 18 = .ok (.ireturn, 1) := by decide +kernel
theorem dJ0_checkIndex_df160_0 : decode cJ0_checkIndex_df160 0 = .ok (.iload_n 0, 1) := by decide +kernel
theorem dJ0_checkIndex_df160_1 : decode cJ0_checkIndex_df160 1 = .ok (.iload_n 1, 1) := by decide +kernel
theorem dJ0_checkIndex_df160_2 : decode cJ0_checkIndex_df160 2 = .ok (.getstatic 1053, 3) := by decide +kernel
theorem dJ0_checkIndex_df160_5 : decode cJ0_checkIndex_df160 5 = .ok (.invokestatic 1059, 3) := by decide +kernel
theorem dJ0_checkIndex_df160_8 : decode cJ0_checkIndex_df160 8 = .ok (.pop, 1) := by decide +kernel
theorem dJ0_checkIndex_df160_9 : decode cJ0_checkIndex_df160 9 = .ok (.return_, 1) := by decide +kernel
theorem dJ0_checkBoundsBeginEnd_23922_0 : decode cJ0_checkBoundsBeginEnd_23922 0 = .ok (.iload_n 0, 1) := by decide +kernel
theorem dJ0_checkBoundsBeginEnd_23922_1 : decode cJ0_checkBoundsBeginEnd_23922 1 = .ok (.iload_n 1, 1) := by decide +kernel
theorem dJ0_checkBoundsBeginEnd_23922_2 : decode cJ0_checkBoundsBeginEnd_23922 2 = .ok (.iload_n 2, 1) := by decide +kernel
theorem dJ0_checkBoundsBeginEnd_23922_3 : decode cJ0_checkBoundsBeginEnd_23922 3 = .ok (.getstatic 1053, 3) := by decide +kernel
theorem dJ0_checkBoundsBeginEnd_23922_6 : decode cJ0_checkBoundsBeginEnd_23922 6 = .ok (.invokestatic 1062, 3) := by decide +kernel
theorem dJ0_checkBoundsBeginEnd_23922_9 : decode cJ0_checkBoundsBeginEnd_23922 9 = .ok (.pop, 1) := by decide +kernel
theorem dJ0_checkBoundsBeginEnd_23922_10 : decode cJ0_checkBoundsBeginEnd_23922 10 = .ok (.return_, 1) := by decide +kernel
theorem dJ1_charAt_3b067_0 : decode cJ1_charAt_3b067 0 = .ok (.iload_n 1, 1) := by decide +kernel
theorem dJ1_charAt_3b067_1 : decode cJ1_charAt_3b067 1 = .ok (.aload_n 0, 1) := by decide +kernel
theorem dJ1_charAt_3b067_2 : decode cJ1_charAt_3b067 2 = .ok (.arraylength, 1) := by decide +kernel
theorem dJ1_charAt_3b067_3 : decode cJ1_charAt_3b067 3 = .ok (.invokestatic 9, 3) := by decide +kernel
theorem dJ1_charAt_3b067_6 : decode cJ1_charAt_3b067 6 = .ok (.aload_n 0, 1) := by decide +kernel
theorem dJ1_charAt_3b067_7 : decode cJ1_charAt_3b067 7 = .ok (.iload_n 1, 1) := by decide +kernel
theorem dJ1_charAt_3b067_8 : decode cJ1_charAt_3b067 8 = .ok (.baload, 1) := by decide +kernel
theorem dJ1_charAt_3b067_9 : decode cJ1_charAt_3b067 9 = .ok (.sipush 255, 3) := by decide +kernel
theorem dJ1_charAt_3b067_12 : decode cJ1_charAt_3b067 12 = .ok (.iand, 1) := by decide +kernel
theorem dJ1_charAt_3b067_13 : decode cJ1_charAt_3b067 13 = .ok (.i2c, 1) := by decide +kernel
theorem dJ1_charAt_3b067_14 : decode cJ1_charAt_3b067 14 = .ok (.ireturn, 1) := by decide +kernel
theorem dJ1_canEncode_9a6ad_0 : decode cJ1_canEncode_9a6ad 0 = .ok (.iload_n 0, 1) := by decide +kernel
theorem dJ1_canEncode_9a6ad_1 : decode cJ1_canEncode_9a6ad 1 = .ok (.ifCond .lt 14, 3) := by decide +kernel
theorem dJ1_canEncode_9a6ad_4 : decode cJ1_canEncode_9a6ad 4 = .ok (.iload_n 0, 1) := by decide +kernel
theorem dJ1_canEncode_9a6ad_5 : decode cJ1_canEncode_9a6ad 5 = .ok (.sipush 255, 3) := by decide +kernel
theorem dJ1_canEncode_9a6ad_8 : decode cJ1_canEncode_9a6ad 8 = .ok (.if_icmp .gt 7, 3) := by decide +kernel
theorem dJ1_canEncode_9a6ad_11 : decode cJ1_canEncode_9a6ad 11 = .ok (.iconst 1, 1) := by decide +kernel
theorem dJ1_canEncode_9a6ad_12 : decode cJ1_canEncode_9a6ad 12 = .ok (.goto 4, 3) := by decide +kernel
theorem dJ1_canEncode_9a6ad_15 : decode cJ1_canEncode_9a6ad 15 = .ok (.iconst 0, 1) := by decide +kernel
theorem dJ1_canEncode_9a6ad_16 : decode cJ1_canEncode_9a6ad 16 = .ok (.ireturn, 1) := by decide +kernel
theorem dJ1_indexOf_4cfef_0 : decode cJ1_indexOf_4cfef 0 = .ok (.iload_n 1, 1) := by decide +kernel
theorem dJ1_indexOf_4cfef_1 : decode cJ1_indexOf_4cfef 1 = .ok (.invokestatic 88, 3) := by decide +kernel
theorem dJ1_indexOf_4cfef_4 : decode cJ1_indexOf_4cfef 4 = .ok (.ifCond .ne 5, 3) := by decide +kernel
theorem dJ1_indexOf_4cfef_7 : decode cJ1_indexOf_4cfef 7 = .ok (.iconst (-1), 1) := by decide +kernel
theorem dJ1_indexOf_4cfef_8 : decode cJ1_indexOf_4cfef 8 = .ok (.ireturn, 1) := by decide +kernel
theorem dJ1_indexOf_4cfef_9 : decode cJ1_indexOf_4cfef 9 = .ok (.iload_n 2, 1) := by decide +kernel
theorem dJ1_indexOf_4cfef_10 : decode cJ1_indexOf_4cfef 10 = .ok (.iconst 0, 1) := by decide +kernel
theorem dJ1_indexOf_4cfef_11 : decode cJ1_indexOf_4cfef 11 = .ok (.invokestatic 92, 3) := by decide +kernel
theorem dJ1_indexOf_4cfef_14 : decode cJ1_indexOf_4cfef 14 = .ok (.istore_n 2, 1) := by decide +kernel
theorem dJ1_indexOf_4cfef_15 : decode cJ1_indexOf_4cfef 15 = .ok (.iload_n 3, 1) := by decide +kernel
theorem dJ1_indexOf_4cfef_16 : decode cJ1_indexOf_4cfef 16 = .ok (.aload_n 0, 1) := by decide +kernel
theorem dJ1_indexOf_4cfef_17 : decode cJ1_indexOf_4cfef 17 = .ok (.arraylength, 1) := by decide +kernel
theorem dJ1_indexOf_4cfef_18 : decode cJ1_indexOf_4cfef 18 = .ok (.invokestatic 38, 3) := by decide +kernel
theorem dJ1_indexOf_4cfef_21 : decode cJ1_indexOf_4cfef 21 = .ok (.istore_n 3, 1) := by decide +kernel
theorem dJ1_indexOf_4cfef_22 : decode cJ1_indexOf_4cfef 22 = .ok (.iload_n 2, 1) := by decide +kernel
theorem dJ1_indexOf_4cfef_23 : decode cJ1_indexOf_4cfef 23 = .ok (.iload_n 3, 1) := by decide +kernel
theorem dJ1_indexOf_4cfef_24 : decode cJ1_indexOf_4cfef 24 = .ok (.if_icmp .lt 5, 3) := by decide +kernel
theorem dJ1_indexOf_4cfef_27 : decode cJ1_indexOf_4cfef 27 = .ok (.iconst (-1), 1) := by decide +kernel
theorem dJ1_indexOf_4cfef_28 : decode cJ1_indexOf_4cfef 28 = .ok (.ireturn, 1) := by decide +kernel
theorem dJ1_indexOf_4cfef_29 : decode cJ1_indexOf_4cfef 29 = .ok (.aload_n 0, 1) := by decide +kernel
theorem dJ1_indexOf_4cfef_30 : decode cJ1_indexOf_4cfef 30 = .ok (.iload_n 1, 1) := by decide +kernel
theorem dJ1_indexOf_4cfef_31 : decode cJ1_indexOf_4cfef 31 = .ok (.iload_n 2, 1) := by decide +kernel
theorem dJ1_indexOf_4cfef_32 : decode cJ1_indexOf_4cfef 32 = .ok (.iload_n 3, 1) := by decide +kernel
theorem dJ1_indexOf_4cfef_33 : decode cJ1_indexOf_4cfef 33 = .ok (.invokestatic 95, 3) := by decide +kernel
theorem dJ1_indexOf_4cfef_36 : decode cJ1_indexOf_4cfef 36 = .ok (.ireturn, 1) := by decide +kernel
theorem dJ1_indexOfChar_4cfef_0 : decode cJ1_indexOfChar_4cfef 0 = .ok (.iload_n 1, 1) := by decide +kernel
theorem dJ1_indexOfChar_4cfef_1 : decode cJ1_indexOfChar_4cfef 1 = .ok (.i2b, 1) := by decide +kernel
theorem dJ1_indexOfChar_4cfef_2 : decode cJ1_indexOfChar_4cfef 2 = .ok (.istore 4, 2) := by decide +kernel
theorem dJ1_indexOfChar_4cfef_4 : decode cJ1_indexOfChar_4cfef 4 = .ok (.iload_n 2, 1) := by decide +kernel
theorem dJ1_indexOfChar_4cfef_5 : decode cJ1_indexOfChar_4cfef 5 = .ok (.istore 5, 2) := by decide +kernel
theorem dJ1_indexOfChar_4cfef_7 : decode cJ1_indexOfChar_4cfef 7 = .ok (.iload 5, 2) := by decide +kernel
theorem dJ1_indexOfChar_4cfef_9 : decode cJ1_indexOfChar_4cfef 9 = .ok (.iload_n 3, 1) := by decide +kernel
theorem dJ1_indexOfChar_4cfef_10 : decode cJ1_indexOfChar_4cfef 10 = .ok (.if_icmp .ge 21, 3) := by decide +kernel
theorem dJ1_indexOfChar_4cfef_13 : decode cJ1_indexOfChar_4cfef 13 = .ok (.aload_n 0, 1) := by decide +kernel
theorem dJ1_indexOfChar_4cfef_14 : decode cJ1_indexOfChar_4cfef 14 = .ok (.iload 5, 2) := by decide +kernel
theorem dJ1_indexOfChar_4cfef_16 : decode cJ1_indexOfChar_4cfef 16 = .ok (.baload, 1) := by decide +kernel
theorem dJ1_indexOfChar_4cfef_17 : decode cJ1_indexOfChar_4cfef 17 = .ok (.iload 4, 2) := by decide +kernel
theorem dJ1_indexOfChar_4cfef_19 : decode cJ1_indexOfChar_4cfef 19 = .ok (.if_icmp .ne 6, 3) := by decide +kernel
theorem dJ1_indexOfChar_4cfef_22 : decode cJ1_indexOfChar_4cfef 22 = .ok (.iload 5, 2) := by decide +kernel
theorem dJ1_indexOfChar_4cfef_24 : decode cJ1_indexOfChar_4cfef 24 = .ok (.ireturn, 1) := by decide +kernel
theorem dJ1_indexOfChar_4cfef_25 : decode cJ1_indexOfChar_4cfef 25 = .ok (.iinc 5 1, 3) := by decide +kernel
theorem dJ1_indexOfChar_4cfef_28 : decode cJ1_indexOfChar_4cfef 28 = .ok (.goto (-21), 3) := by decide +kernel
theorem dJ1_indexOfChar_4cfef_31 : decode cJ1_indexOfChar_4cfef 31 = .ok (.iconst (-1), 1) := by decide +kernel
theorem dJ1_indexOfChar_4cfef_32 : decode cJ1_indexOfChar_4cfef 32 = .ok (.ireturn, 1) := by decide +kernel
theorem dJ2_getChar_3b067_0 : decode cJ2_getChar_3b067 0 = .ok (.getstatic 44, 3) := by decide +kernel
theorem dJ2_getChar_3b067_3 : decode cJ2_getChar_3b067 3 = .ok (.ifCond .ne 25, 3) := by decide +kernel
theorem dJ2_getChar_3b067_6 : decode cJ2_getChar_3b067 6 = .ok (.iload_n 1, 1) := by decide +kernel
theorem dJ2_getChar_3b067_7 : decode cJ2_getChar_3b067 7 = .ok (.ifCond .lt 11, 3) := by decide +kernel
theorem dJ2_getChar_3b067_10 : decode cJ2_getChar_3b067 10 = .ok (.iload_n 1, 1) := by decide +kernel
theorem dJ2_getChar_3b067_11 : decode cJ2_getChar_3b067 11 = .ok (.aload_n 0, 1) := by decide +kernel
theorem dJ2_getChar_3b067_12 : decode cJ2_getChar_3b067 12 = .ok (.invokestatic 48, 3) := by decide +kernel
theorem dJ2_getChar_3b067_15 : decode cJ2_getChar_3b067 15 = .ok (.if_icmp .lt 13, 3) := by decide +kernel
theorem dJ2_getChar_3b067_18 : decode cJ2_getChar_3b067 18 = .ok (.new 52, 3) := by decide +kernel
theorem dJ2_getChar_3b067_21 : decode cJ2_getChar_3b067 21 = .ok (.dup, 1) := by decide +kernel
theorem dJ2_getChar_3b067_22 : decode cJ2_getChar_3b067 22 = .ok (.ldc 54, 2) := by decide +kernel
theorem dJ2_getChar_3b067_24 : decode cJ2_getChar_3b067 24 = .ok (.invokespecial 56, 3) := by decide +kernel
theorem dJ2_getChar_3b067_27 : decode cJ2_getChar_3b067 27 = .ok (.athrow, 1) := by decide +kernel
theorem dJ2_getChar_3b067_28 : decode cJ2_getChar_3b067 28 = .ok (.iload_n 1, 1) := by decide +kernel
theorem dJ2_getChar_3b067_29 : decode cJ2_getChar_3b067 29 = .ok (.iconst 1, 1) := by decide +kernel
theorem dJ2_getChar_3b067_30 : decode cJ2_getChar_3b067 30 = .ok (.ishl, 1) := by decide +kernel
theorem dJ2_getChar_3b067_31 : decode cJ2_getChar_3b067 31 = .ok (.istore_n 1, 1) := by decide +kernel
theorem dJ2_getChar_3b067_32 : decode cJ2_getChar_3b067 32 = .ok (.aload_n 0, 1) := by decide +kernel
theorem dJ2_getChar_3b067_33 : decode cJ2_getChar_3b067 33 = .ok (.iload_n 1, 1) := by decide +kernel
theorem dJ2_getChar_3b067_34 : decode cJ2_getChar_3b067 34 = .ok (.iinc 1 1, 3) := by decide +kernel
theorem dJ2_getChar_3b067_37 : decode cJ2_getChar_3b067 37 = .ok (.baload, 1) := by decide +kernel
theorem dJ2_getChar_3b067_38 : decode cJ2_getChar_3b067 38 = .ok (.sipush 255, 3) := by decide +kernel
theorem dJ2_getChar_3b067_41 : decode cJ2_getChar_3b067 41 = .ok (.iand, 1) := by decide +kernel
theorem dJ2_getChar_3b067_42 : decode cJ2_getChar_3b067 42 = .ok (.getstatic 59, 3) := by decide +kernel
theorem dJ2_getChar_3b067_45 : decode cJ2_getChar_3b067 45 = .ok (.ishl, 1) := by decide +kernel
theorem dJ2_getChar_3b067_46 : decode cJ2_getChar_3b067 46 = .ok (.aload_n 0, 1) := by decide +kernel
theorem dJ2_getChar_3b067_47 : decode cJ2_getChar_3b067 47 = .ok (.iload_n 1, 1) := by decide +kernel
theorem dJ2_getChar_3b067_48 : decode cJ2_getChar_3b067 48 = .ok (.baload, 1) := by decide +kernel
theorem dJ2_getChar_3b067_49 : decode cJ2_getChar_3b067 49 = .ok (.sipush 255, 3) := by decide +kernel
theorem dJ2_getChar_3b067_52 : decode cJ2_getChar_3b067 52 = .ok (.iand, 1) := by decide +kernel
theorem dJ2_getChar_3b067_53 : decode cJ2_getChar_3b067 53 = .ok (.getstatic 63, 3) := by decide +kernel
theorem dJ2_getChar_3b067_56 : decode cJ2_getChar_3b067 56 = .ok (.ishl, 1) := by decide +kernel
theorem dJ2_getChar_3b067_57 : decode cJ2_getChar_3b067 57 = .ok (.ior, 1) := by decide +kernel
theorem dJ2_getChar_3b067_58 : decode cJ2_getChar_3b067 58 = .ok (.i2c, 1) := by decide +kernel
theorem dJ2_getChar_3b067_59 : decode cJ2_getChar_3b067 59 = .ok (.ireturn, 1) := by decide +kernel
theorem dJ2_length_9d52b_0 : decode cJ2_length_9d52b 0 = .ok (.aload_n 0, 1) := by decide +kernel
theorem dJ2_length_9d52b_1 : decode cJ2_length_9d52b 1 = .ok (.arraylength, 1) := by decide +kernel
theorem dJ2_length_9d52b_2 : decode cJ2_length_9d52b 2 = .ok (.iconst 1, 1) := by decide +kernel
theorem dJ2_length_9d52b_3 : decode cJ2_length_9d52b 3 = .ok (.ishr, 1) := by decide +kernel
theorem dJ2_length_9d52b_4 : decode cJ2_length_9d52b 4 = .ok (.ireturn, 1) := by decide +kernel
theorem dJ2_indexOf_4cfef_0 : decode cJ2_indexOf_4cfef 0 = .ok (.iload_n 2, 1) := by decide +kernel
theorem dJ2_indexOf_4cfef_1 : decode cJ2_indexOf_4cfef 1 = .ok (.iconst 0, 1) := by decide +kernel
theorem dJ2_indexOf_4cfef_2 : decode cJ2_indexOf_4cfef 2 = .ok (.invokestatic 224, 3) := by decide +kernel
theorem dJ2_indexOf_4cfef_5 : decode cJ2_indexOf_4cfef 5 = .ok (.istore_n 2, 1) := by decide +kernel
theorem dJ2_indexOf_4cfef_6 : decode cJ2_indexOf_4cfef 6 = .ok (.iload_n 3, 1) := by decide +kernel
theorem dJ2_indexOf_4cfef_7 : decode cJ2_indexOf_4cfef 7 = .ok (.aload_n 0, 1) := by decide +kernel
theorem dJ2_indexOf_4cfef_8 : decode cJ2_indexOf_4cfef 8 = .ok (.arraylength, 1) := by decide +kernel
theorem dJ2_indexOf_4cfef_9 : decode cJ2_indexOf_4cfef 9 = .ok (.iconst 1, 1) := by decide +kernel
theorem dJ2_indexOf_4cfef_10 : decode cJ2_indexOf_4cfef 10 = .ok (.ishr, 1) := by decide +kernel
theorem dJ2_indexOf_4cfef_11 : decode cJ2_indexOf_4cfef 11 = .ok (.invokestatic 183, 3) := by decide +kernel
theorem dJ2_indexOf_4cfef_14 : decode cJ2_indexOf_4cfef 14 = .ok (.istore_n 3, 1) := by decide +kernel
theorem dJ2_indexOf_4cfef_15 : decode cJ2_indexOf_4cfef 15 = .ok (.iload_n 2, 1) := by decide +kernel
theorem dJ2_indexOf_4cfef_16 : decode cJ2_indexOf_4cfef 16 = .ok (.iload_n 3, 1) := by decide +kernel
theorem dJ2_indexOf_4cfef_17 : decode cJ2_indexOf_4cfef 17 = .ok (.if_icmp .lt 5, 3) := by decide +kernel
theorem dJ2_indexOf_4cfef_20 : decode cJ2_indexOf_4cfef 20 = .ok (.iconst (-1), 1) := by decide +kernel
theorem dJ2_indexOf_4cfef_21 : decode cJ2_indexOf_4cfef 21 = .ok (.ireturn, 1) := by decide +kernel
theorem dJ2_indexOf_4cfef_22 : decode cJ2_indexOf_4cfef 22 = .ok (.iload_n 1, 1) := by decide +kernel
theorem dJ2_indexOf_4cfef_23 : decode cJ2_indexOf_4cfef 23 = .ok (.ldc 227, 2) := by decide +kernel
theorem dJ2_indexOf_4cfef_25 : decode cJ2_indexOf_4cfef 25 = .ok (.if_icmp .ge 11, 3) := by decide +kernel
theorem dJ2_indexOf_4cfef_28 : decode cJ2_indexOf_4cfef 28 = .ok (.aload_n 0, 1) := by decide +kernel
theorem dJ2_indexOf_4cfef_29 : decode cJ2_indexOf_4cfef 29 = .ok (.iload_n 1, 1) := by decide +kernel
theorem dJ2_indexOf_4cfef_30 : decode cJ2_indexOf_4cfef 30 = .ok (.iload_n 2, 1) := by decide +kernel
theorem dJ2_indexOf_4cfef_31 : decode cJ2_indexOf_4cfef 31 = .ok (.iload_n 3, 1) := by decide +kernel
theorem dJ2_indexOf_4cfef_32 : decode cJ2_indexOf_4cfef 32 = .ok (.invokestatic 228, 3) := by decide +kernel
theorem dJ2_indexOf_4cfef_35 : decode cJ2_indexOf_4cfef 35 = .ok (.ireturn, 1) := by decide +kernel
theorem dJ2_indexOf_4cfef_36 : decode cJ2_indexOf_4cfef 36 = .ok (.aload_n 0, 1) := by decide +kernel
theorem dJ2_indexOf_4cfef_37 : decode cJ2_indexOf_4cfef 37 = .ok (.iload_n 1, 1) := by decide +kernel
theorem dJ2_indexOf_4cfef_38 : decode cJ2_indexOf_4cfef 38 = .ok (.iload_n 2, 1) := by decide +kernel
theorem dJ2_indexOf_4cfef_39 : decode cJ2_indexOf_4cfef 39 = .ok (.iload_n 3, 1) := by decide +kernel
theorem dJ2_indexOf_4cfef_40 : decode cJ2_indexOf_4cfef 40 = .ok (.invokestatic 232, 3) := by decide +kernel
theorem dJ2_indexOf_4cfef_43 : decode cJ2_indexOf_4cfef 43 = .ok (.ireturn, 1) := by decide +kernel
theorem dJ2_indexOfChar_4cfef_0 : decode cJ2_indexOfChar_4cfef 0 = .ok (.iload_n 2, 1) := by decide +kernel
theorem dJ2_indexOfChar_4cfef_1 : decode cJ2_indexOfChar_4cfef 1 = .ok (.iload_n 3, 1) := by decide +kernel
theorem dJ2_indexOfChar_4cfef_2 : decode cJ2_indexOfChar_4cfef 2 = .ok (.aload_n 0, 1) := by decide +kernel
theorem dJ2_indexOfChar_4cfef_3 : decode cJ2_indexOfChar_4cfef 3 = .ok (.invokestatic 96, 3) := by decide +kernel
theorem dJ2_indexOfChar_4cfef_6 : decode cJ2_indexOfChar_4cfef 6 = .ok (.aload_n 0, 1) := by decide +kernel
theorem dJ2_indexOfChar_4cfef_7 : decode cJ2_indexOfChar_4cfef 7 = .ok (.iload_n 1, 1) := by decide +kernel
theorem dJ2_indexOfChar_4cfef_8 : decode cJ2_indexOfChar_4cfef 8 = .ok (.iload_n 2, 1) := by decide +kernel
theorem dJ2_indexOfChar_4cfef_9 : decode cJ2_indexOfChar_4cfef 9 = .ok (.iload_n 3, 1) := by decide +kernel
theorem dJ2_indexOfChar_4cfef_10 : decode cJ2_indexOfChar_4cfef 10 = .ok (.invokestatic 244, 3) := by decide +kernel
theorem dJ2_indexOfChar_4cfef_13 : decode cJ2_indexOfChar_4cfef 13 = .ok (.ireturn, 1) := by decide +kernel
theorem dJ2_indexOfCharUnsafe_4cfef_0 : decode cJ2_indexOfCharUnsafe_4cfef 0 = .ok (.iload_n 2, 1) := by decide +kernel
theorem dJ2_indexOfCharUnsafe_4cfef_1 : decode cJ2_indexOfCharUnsafe_4cfef 1 = .ok (.istore 4, 2) := by decide +kernel
theorem dJ2_indexOfCharUnsafe_4cfef_3 : decode cJ2_indexOfCharUnsafe_4cfef 3 = .ok (.iload 4, 2) := by decide +kernel
theorem dJ2_indexOfCharUnsafe_4cfef_5 : decode cJ2_indexOfCharUnsafe_4cfef 5 = .ok (.iload_n 3, 1) := by decide +kernel
theorem dJ2_indexOfCharUnsafe_4cfef_6 : decode cJ2_indexOfCharUnsafe_4cfef 6 = .ok (.if_icmp .ge 22, 3) := by decide +kernel
theorem dJ2_indexOfCharUnsafe_4cfef_9 : decode cJ2_indexOfCharUnsafe_4cfef 9 = .ok (.aload_n 0, 1) := by decide +kernel
theorem dJ2_indexOfCharUnsafe_4cfef_10 : decode cJ2_indexOfCharUnsafe_4cfef 10 = .ok (.iload 4, 2) := by decide +kernel
theorem dJ2_indexOfCharUnsafe_4cfef_12 : decode cJ2_indexOfCharUnsafe_4cfef 12 = .ok (.invokestatic 71, 3) := by decide +kernel
theorem dJ2_indexOfCharUnsafe_4cfef_15 : decode cJ2_indexOfCharUnsafe_4cfef 15 = .ok (.iload_n 1, 1) := by decide +kernel
theorem dJ2_indexOfCharUnsafe_4cfef_16 : decode cJ2_indexOfCharUnsafe_4cfef 16 = .ok (.if_icmp .ne 6, 3) := by decide +kernel
theorem dJ2_indexOfCharUnsafe_4cfef_19 : decode cJ2_indexOfCharUnsafe_4cfef 19 = .ok (.iload 4, 2) := by decide +kernel
theorem dJ2_indexOfCharUnsafe_4cfef_21 : decode cJ2_indexOfCharUnsafe_4cfef 21 = .ok (.ireturn, 1) := by decide +kernel
theorem dJ2_indexOfCharUnsafe_4cfef_22 : decode cJ2_indexOfCharUnsafe_4cfef 22 = .ok (.iinc 4 1, 3) := by decide +kernel
theorem dJ2_indexOfCharUnsafe_4cfef_25 : decode cJ2_indexOfCharUnsafe_4cfef 25 = .ok (.goto (-22), 3) := by decide +kernel
theorem dJ2_indexOfCharUnsafe_4cfef_28 : decode cJ2_indexOfCharUnsafe_4cfef 28 = .ok (.iconst (-1), 1) := by decide +kernel
theorem dJ2_indexOfCharUnsafe_4cfef_29 : decode cJ2_indexOfCharUnsafe_4cfef 29 = .ok (.ireturn, 1) := by decide +kernel
theorem dJ2_indexOfSupplementary_4cfef_0 : decode cJ2_indexOfSupplementary_4cfef 0 = .ok (.iload_n 1, 1) := by decide +kernel
theorem dJ2_indexOfSupplementary_4cfef_1 : decode cJ2_indexOfSupplementary_4cfef 1 = .ok (.invokestatic 164, 3) := by decide +kernel
theorem dJ2_indexOfSupplementary_4cfef_4 : decode cJ2_indexOfSupplementary_4cfef 4 = .ok (.ifCond .eq 65, 3) := by decide +kernel
theorem dJ2_indexOfSupplementary_4cfef_7 : decode cJ2_indexOfSupplementary_4cfef 7 = .ok (.iload_n 1, 1) := by decide +kernel
theorem dJ2_indexOfSupplementary_4cfef_8 : decode cJ2_indexOfSupplementary_4cfef 8 = .ok (.invokestatic 157, 3) := by decide +kernel
theorem dJ2_indexOfSupplementary_4cfef_11 : decode cJ2_indexOfSupplementary_4cfef 11 = .ok (.istore 4, 2) := by decide +kernel
theorem dJ2_indexOfSupplementary_4cfef_13 : decode cJ2_indexOfSupplementary_4cfef 13 = .ok (.iload_n 1, 1) := by decide +kernel
theorem dJ2_indexOfSupplementary_4cfef_14 : decode cJ2_indexOfSupplementary_4cfef 14 = .ok (.invokestatic 161, 3) := by decide +kernel
theorem dJ2_indexOfSupplementary_4cfef_17 : decode cJ2_indexOfSupplementary_4cfef 17 = .ok (.istore 5, 2) := by decide +kernel
theorem dJ2_indexOfSupplementary_4cfef_19 : decode cJ2_indexOfSupplementary_4cfef 19 = .ok (.iload_n 2, 1) := by decide +kernel
theorem dJ2_indexOfSupplementary_4cfef_20 : decode cJ2_indexOfSupplementary_4cfef 20 = .ok (.iload_n 3, 1) := by decide +kernel
theorem dJ2_indexOfSupplementary_4cfef_21 : decode cJ2_indexOfSupplementary_4cfef 21 = .ok (.aload_n 0, 1) := by decide +kernel
theorem dJ2_indexOfSupplementary_4cfef_22 : decode cJ2_indexOfSupplementary_4cfef 22 = .ok (.invokestatic 96, 3) := by decide +kernel
theorem dJ2_indexOfSupplementary_4cfef_25 : decode cJ2_indexOfSupplementary_4cfef 25 = .ok (.iload_n 2, 1) := by decide +kernel
theorem dJ2_indexOfSupplementary_4cfef_26 : decode cJ2_indexOfSupplementary_4cfef 26 = .ok (.istore 6, 2) := by decide +kernel
theorem dJ2_indexOfSupplementary_4cfef_28 : decode cJ2_indexOfSupplementary_4cfef 28 = .ok (.iload 6, 2) := by decide +kernel
theorem dJ2_indexOfSupplementary_4cfef_30 : decode cJ2_indexOfSupplementary_4cfef 30 = .ok (.iload_n 3, 1) := by decide +kernel
theorem dJ2_indexOfSupplementary_4cfef_31 : decode cJ2_indexOfSupplementary_4cfef 31 = .ok (.iconst 1, 1) := by decide +kernel
theorem dJ2_indexOfSupplementary_4cfef_32 : decode cJ2_indexOfSupplementary_4cfef 32 = .ok (.isub, 1) := by decide +kernel
theorem dJ2_indexOfSupplementary_4cfef_33 : decode cJ2_indexOfSupplementary_4cfef 33 = .ok (.if_icmp .ge 36, 3) := by decide +kernel
theorem dJ2_indexOfSupplementary_4cfef_36 : decode cJ2_indexOfSupplementary_4cfef 36 = .ok (.aload_n 0, 1) := by decide +kernel
theorem dJ2_indexOfSupplementary_4cfef_37 : decode cJ2_indexOfSupplementary_4cfef 37 = .ok (.iload 6, 2) := by decide +kernel
theorem dJ2_indexOfSupplementary_4cfef_39 : decode cJ2_indexOfSupplementary_4cfef 39 = .ok (.invokestatic 71, 3) := by decide +kernel
theorem dJ2_indexOfSupplementary_4cfef_42 : decode cJ2_indexOfSupplementary_4cfef 42 = .ok (.iload 4, 2) := by decide +kernel
theorem dJ2_indexOfSupplementary_4cfef_44 : decode cJ2_indexOfSupplementary_4cfef 44 = .ok (.if_icmp .ne 19, 3) := by decide +kernel
theorem dJ2_indexOfSupplementary_4cfef_47 : decode cJ2_indexOfSupplementary_4cfef 47 = .ok (.aload_n 0, 1) := by decide +kernel
theorem dJ2_indexOfSupplementary_4cfef_48 : decode cJ2_indexOfSupplementary_4cfef 48 = .ok (.iload 6, 2) := by decide +kernel
theorem dJ2_indexOfSupplementary_4cfef_50 : decode cJ2_indexOfSupplementary_4cfef 50 = .ok (.iconst 1, 1) := by decide +kernel
theorem dJ2_indexOfSupplementary_4cfef_51 : decode cJ2_indexOfSupplementary_4cfef 51 = .ok (.iadd, 1) := by decide +kernel
theorem dJ2_indexOfSupplementary_4cfef_52 : decode cJ2_indexOfSupplementary_4cfef 52 = .ok (.invokestatic 71, 3) := by decide +kernel
theorem dJ2_indexOfSupplementary_4cfef_55 : decode cJ2_indexOfSupplementary_4cfef 55 = .ok (.iload 5, 2) := by decide +kernel
theorem dJ2_indexOfSupplementary_4cfef_57 : decode cJ2_indexOfSupplementary_4cfef 57 = .ok (.if_icmp .ne 6, 3) := by decide +kernel
theorem dJ2_indexOfSupplementary_4cfef_60 : decode cJ2_indexOfSupplementary_4cfef 60 = .ok (.iload 6, 2) := by decide +kernel
theorem dJ2_indexOfSupplementary_4cfef_62 : decode cJ2_indexOfSupplementary_4cfef 62 = .ok (.ireturn, 1) := by decide +kernel
theorem dJ2_indexOfSupplementary_4cfef_63 : decode cJ2_indexOfSupplementary_4cfef 63 = .ok (.iinc 6 1, 3) := by decide +kernel
theorem dJ2_indexOfSupplementary_4cfef_66 : decode cJ2_indexOfSupplementary_4cfef 66 = .ok (.goto (-38), 3) := by decide +kernel
theorem dJ2_indexOfSupplementary_4cfef_69 : decode cJ2_indexOfSupplementary_4cfef 69 = .ok (.iconst (-1), 1) := by decide +kernel
theorem dJ2_indexOfSupplementary_4cfef_70 : decode cJ2_indexOfSupplementary_4cfef 70 = .ok (.ireturn, 1) := by decide +kernel
theorem dJ2_charAt_3b067_0 : decode cJ2_charAt_3b067 0 = .ok (.iload_n 1, 1) := by decide +kernel
theorem dJ2_charAt_3b067_1 : decode cJ2_charAt_3b067 1 = .ok (.aload_n 0, 1) := by decide +kernel
theorem dJ2_charAt_3b067_2 : decode cJ2_charAt_3b067 2 = .ok (.invokestatic 67, 3) := by decide +kernel
theorem dJ2_charAt_3b067_5 : decode cJ2_charAt_3b067 5 = .ok (.aload_n 0, 1) := by decide +kernel
theorem dJ2_charAt_3b067_6 : decode cJ2_charAt_3b067 6 = .ok (.iload_n 1, 1) := by decide +kernel
theorem dJ2_charAt_3b067_7 : decode cJ2_charAt_3b067 7 = .ok (.invokestatic 71, 3) := by decide +kernel
theorem dJ2_charAt_3b067_10 : decode cJ2_charAt_3b067 10 = .ok (.ireturn, 1) := by decide +kernel
theorem dJ2_checkIndex_2214a_0 : decode cJ2_checkIndex_2214a 0 = .ok (.iload_n 0, 1) := by decide +kernel
theorem dJ2_checkIndex_2214a_1 : decode cJ2_checkIndex_2214a 1 = .ok (.aload_n 1, 1) := by decide +kernel
theorem dJ2_checkIndex_2214a_2 : decode cJ2_checkIndex_2214a 2 = .ok (.invokestatic 48, 3) := by decide +kernel
theorem dJ2_checkIndex_2214a_5 : decode cJ2_checkIndex_2214a 5 = .ok (.invokestatic 414, 3) := by decide +kernel
theorem dJ2_checkIndex_2214a_8 : decode cJ2_checkIndex_2214a 8 = .ok (.return_, 1) := by decide +kernel
theorem dJ2_checkBoundsBeginEnd_d044e_0 : decode cJ2_checkBoundsBeginEnd_d044e 0 = .ok (.iload_n 0, 1) := by decide +kernel
theorem dJ2_checkBoundsBeginEnd_d044e_1 : decode cJ2_checkBoundsBeginEnd_d044e 1 = .ok (.iload_n 1, 1) := by decide +kernel
theorem dJ2_checkBoundsBeginEnd_d044e_2 : decode cJ2_checkBoundsBeginEnd_d044e 2 = .ok (.aload_n 2, 1) := by decide +kernel
theorem dJ2_checkBoundsBeginEnd_d044e_3 : decode cJ2_checkBoundsBeginEnd_d044e 3 = .ok (.invokestatic 48, 3) := by decide +kernel
theorem dJ2_checkBoundsBeginEnd_d044e_6 : decode cJ2_checkBoundsBeginEnd_d044e 6 = .ok (.invokestatic 241, 3) := by decide +kernel
theorem dJ2_checkBoundsBeginEnd_d044e_9 : decode cJ2_checkBoundsBeginEnd_d044e 9 = .ok (.return_, 1) := by decide +kernel
theorem dJ3_checkIndex_8e157_0 : decode cJ3_checkIndex_8e157 0 = .ok (.iload_n 0, 1) := by decide +kernel
theorem dJ3_checkIndex_8e157_1 : decode cJ3_checkIndex_8e157 1 = .ok (.ifCond .lt 8, 3) := by decide +kernel
theorem dJ3_checkIndex_8e157_4 : decode cJ3_checkIndex_8e157 4 = .ok (.iload_n 0, 1) := by decide +kernel
theorem dJ3_checkIndex_8e157_5 : decode cJ3_checkIndex_8e157 5 = .ok (.iload_n 1, 1) := by decide +kernel
theorem dJ3_checkIndex_8e157_6 : decode cJ3_checkIndex_8e157 6 = .ok (.if_icmp .lt 10, 3) := by decide +kernel
theorem dJ3_checkIndex_8e157_9 : decode cJ3_checkIndex_8e157 9 = .ok (.aload_n 2, 1) := by decide +kernel
theorem dJ3_checkIndex_8e157_10 : decode cJ3_checkIndex_8e157 10 = .ok (.iload_n 0, 1) := by decide +kernel
theorem dJ3_checkIndex_8e157_11 : decode cJ3_checkIndex_8e157 11 = .ok (.iload_n 1, 1) := by decide +kernel
theorem dJ3_checkIndex_8e157_12 : decode cJ3_checkIndex_8e157 12 = .ok (.invokestatic 95, 3) := by decide +kernel
theorem dJ3_checkIndex_8e157_15 : decode cJ3_checkIndex_8e157 15 = .ok (.athrow, 1) := by decide +kernel
theorem dJ3_checkIndex_8e157_16 : decode cJ3_checkIndex_8e157 16 = .ok (.iload_n 0, 1) := by decide +kernel
theorem dJ3_checkIndex_8e157_17 : decode cJ3_checkIndex_8e157 17 = .ok (.ireturn, 1) := by decide +kernel
theorem dJ3_checkFromToIndex_8c36e_0 : decode cJ3_checkFromToIndex_8c36e 0 = .ok (.iload_n 0, 1) := by decide +kernel
theorem dJ3_checkFromToIndex_8c36e_1 : decode cJ3_checkFromToIndex_8c36e 1 = .ok (.ifCond .lt 13, 3) := by decide +kernel
theorem dJ3_checkFromToIndex_8c36e_4 : decode cJ3_checkFromToIndex_8c36e 4 = .ok (.iload_n 0, 1) := by decide +kernel
theorem dJ3_checkFromToIndex_8c36e_5 : decode cJ3_checkFromToIndex_8c36e 5 = .ok (.iload_n 1, 1) := by decide +kernel
theorem dJ3_checkFromToIndex_8c36e_6 : decode cJ3_checkFromToIndex_8c36e 6 = .ok (.if_icmp .gt 8, 3) := by decide +kernel
theorem dJ3_checkFromToIndex_8c36e_9 : decode cJ3_checkFromToIndex_8c36e 9 = .ok (.iload_n 1, 1) := by decide +kernel
theorem dJ3_checkFromToIndex_8c36e_10 : decode cJ3_checkFromToIndex_8c36e 10 = .ok (.iload_n 2, 1) := by decide +kernel
theorem dJ3_checkFromToIndex_8c36e_11 : decode cJ3_checkFromToIndex_8c36e 11 = .ok (.if_icmp .le 11, 3) := by decide +kernel
theorem dJ3_checkFromToIndex_8c36e_14 : decode cJ3_checkFromToIndex_8c36e 14 = .ok (.aload_n 3, 1) := by decide +kernel
theorem dJ3_checkFromToIndex_8c36e_15 : decode cJ3_checkFromToIndex_8c36e 15 = .ok (.iload_n 0, 1) := by decide +kernel
theorem dJ3_checkFromToIndex_8c36e_16 : decode cJ3_checkFromToIndex_8c36e 16 = .ok (.iload_n 1, 1) := by decide +kernel
theorem dJ3_checkFromToIndex_8c36e_17 : decode cJ3_checkFromToIndex_8c36e 17 = .ok (.iload_n 2, 1) := by decide +kernel
theorem dJ3_checkFromToIndex_8c36e_18 : decode cJ3_checkFromToIndex_8c36e 18 = .ok (.invokestatic 99, 3) := by decide +kernel
theorem dJ3_checkFromToIndex_8c36e_21 : decode cJ3_checkFromToIndex_8c36e 21 = .ok (.athrow, 1) := by decide +kernel
theorem dJ3_checkFromToIndex_8c36e_22 : decode cJ3_checkFromToIndex_8c36e 22 = .ok (.iload_n 0, 1) := by decide +kernel
theorem dJ3_checkFromToIndex_8c36e_23 : decode cJ3_checkFromToIndex_8c36e 23 = .ok (.ireturn, 1) := by decide +kernel
