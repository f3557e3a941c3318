theorem dX10_init_0 : decode cX10_init 0 = .ok (.aload_n 0, 1) := by decide +kernel
theorem dX10_init_1 : decode cX10_init 1 = .ok (.invokespecial 1, 3) := by decide +kernel
theorem dX10_init_4 : decode cX10_init 4 = .ok (.aload_n 0, 1) := by decide +kernel
theorem dX10_init_5 : decode cX10_init 5 = .ok (.new 7, 3) := by decide +kernel
theorem dX10_init_8 : decode cX10_init 8 = .ok (.dup, 1) := by decide +kernel
theorem dX10_init_9 : decode cX10_init 9 = .ok (.invokespecial 9, 3) := by decide +kernel
theorem dX10_init_12 : decode cX10_init 12 = .ok (.putfield 10, 3) := by decide +kernel
theorem dX10_init_15 : decode cX10_init 15 = .ok (.aload_n 0, 1) := by decide +kernel
theorem dX10_init_16 : decode cX10_init 16 = .ok (.new 16, 3) := by decide +kernel
theorem dX10_init_19 : decode cX10_init 19 = .ok (.dup, 1) := by decide +kernel
theorem dX10_init_20 : decode cX10_init 20 = .ok (.invokespecial 18, 3) := by decide +kernel
theorem dX10_init_23 : decode cX10_init 23 = .ok (.putfield 19, 3) := by decide +kernel
theorem dX10_init_26 : decode cX10_init 26 = .ok (.aload_n 0, 1) := by decide +kernel
theorem dX10_init_27 : decode cX10_init 27 = .ok (.new 23, 3) := by decide +kernel
theorem dX10_init_30 : decode cX10_init 30 = .ok (.dup, 1) := by decide +kernel
theorem dX10_init_31 : decode cX10_init 31 = .ok (.invokespecial 25, 3) := by decide +kernel
theorem dX10_init_34 : decode cX10_init 34 = .ok (.putfield 26, 3) := by decide +kernel
theorem dX10_init_37 : decode cX10_init 37 = .ok (.aload_n 0, 1) := by decide +kernel
theorem dX10_init_38 : decode cX10_init 38 = .ok (.new 30, 3) := by decide +kernel
theorem dX10_init_41 : decode cX10_init 41 = .ok (.dup, 1) := by decide +kernel
theorem dX10_init_42 : decode cX10_init 42 = .ok (.invokespecial 32, 3) := by decide +kernel
theorem dX10_init_45 : decode cX10_init 45 = .ok (.putfield 33, 3) := by decide +kernel
theorem dX10_init_48 : decode cX10_init 48 = .ok (.aload_n 0, 1) := by decide +kernel
theorem dX10_init_49 : decode cX10_init 49 = .ok (.new 37, 3) := by decide +kernel
theorem dX10_init_52 : decode cX10_init 52 = .ok (.dup, 1) := by decide +kernel
theorem dX10_init_53 : decode cX10_init 53 = .ok (.aload_n 0, 1) := by decide +kernel
theorem dX10_init_54 : decode cX10_init 54 = .ok (.getfield 19, 3) := by decide +kernel
theorem dX10_init_57 : decode cX10_init 57 = .ok (.invokespecial 39, 3) := by decide +kernel
theorem dX10_init_60 : decode cX10_init 60 = .ok (.putfield 42, 3) := by decide +kernel
theorem dX10_init_63 : decode cX10_init 63 = .ok (.aload_n 0, 1) := by decide +kernel
theorem dX10_init_64 : decode cX10_init 64 = .ok (.new 46, 3) := by decide +kernel
theorem dX10_init_67 : decode cX10_init 67 = .ok (.dup, 1) := by decide +kernel
theorem dX10_init_68 : decode cX10_init 68 = .ok (.aload_n 0, 1) := by decide +kernel
theorem dX10_init_69 : decode cX10_init 69 = .ok (.getfield 19, 3) := by decide +kernel
theorem dX10_init_72 : decode cX10_init 72 = .ok (.invokespecial 48, 3) := by decide +kernel
theorem dX10_init_75 : decode cX10_init 75 = .ok (.putfield 49, 3) := by decide +kernel
theorem dX10_init_78 : decode cX10_init 78 = .ok (.aload_n 0, 1) := by decide +kernel
theorem dX10_init_79 : decode cX10_init 79 = .ok (.new 53, 3) := by decide +kernel
theorem dX10_init_82 : decode cX10_init 82 = .ok (.dup, 1) := by decide +kernel
theorem dX10_init_83 : decode cX10_init 83 = .ok (.aload_n 0, 1) := by decide +kernel
theorem dX10_init_84 : decode cX10_init 84 = .ok (.getfield 19, 3) := by decide +kernel
theorem dX10_init_87 : decode cX10_init 87 = .ok (.invokespecial 55, 3) := by decide +kernel
theorem dX10_init_90 : decode cX10_init 90 = .ok (.putfield 56, 3) := by decide +kernel
theorem dX10_init_93 : decode cX10_init 93 = .ok (.aload_n 0, 1) := by decide +kernel
theorem dX10_init_94 : decode cX10_init 94 = .ok (.new 60, 3) := by decide +kernel
theorem dX10_init_97 : decode cX10_init 97 = .ok (.dup, 1) := by decide +kernel
theorem dX10_init_98 : decode cX10_init 98 = .ok (.invokespecial 62, 3) := by decide +kernel
theorem dX10_init_101 : decode cX10_init 101 = .ok (.putfield 63, 3) := by decide +kernel
theorem dX10_init_104 : decode cX10_init 104 = .ok (.aload_n 0, 1) := by decide +kernel
theorem dX10_init_105 : decode cX10_init 105 = .ok (.new 67, 3) := by decide +kernel
theorem dX10_init_108 : decode cX10_init 108 = .ok (.dup, 1) := by decide +kernel
theorem dX10_init_109 : decode cX10_init 109 = .ok (.invokespecial 69, 3) := by decide +kernel
theorem dX10_init_112 : decode cX10_init 112 = .ok (.putfield 70, 3) := by decide +kernel
theorem dX10_init_115 : decode cX10_init 115 = .ok (.aload_n 0, 1) := by decide +kernel
theorem dX10_init_116 : decode cX10_init 116 = .ok (.new 67, 3) := by decide +kernel
theorem dX10_init_119 : decode cX10_init 119 = .ok (.dup, 1) := by decide +kernel
theorem dX10_init_120 : decode cX10_init 120 = .ok (.invokespecial 69, 3) := by decide +kernel
theorem dX10_init_123 : decode cX10_init 123 = .ok (.putfield 74, 3) := by decide +kernel
theorem dX10_init_126 : decode cX10_init 126 = .ok (.aload_n 0, 1) := by decide +kernel
theorem dX10_init_127 : decode cX10_init 127 = .ok (.bipush 8, 2) := by decide +kernel
theorem dX10_init_129 : decode cX10_init 129 = .ok (.newarray .int, 2) := by decide +kernel
theorem dX10_init_131 : decode cX10_init 131 = .ok (.putfield 77, 3) := by decide +kernel
theorem dX10_init_134 : decode cX10_init 134 = .ok (.aload_n 0, 1) := by decide +kernel
theorem dX10_init_135 : decode cX10_init 135 = .ok (.bipush 61, 2) := by decide +kernel
theorem dX10_init_137 : decode cX10_init 137 = .ok (.newarray .int, 2) := by decide +kernel
theorem dX10_init_139 : decode cX10_init 139 = .ok (.putfield 81, 3) := by decide +kernel
theorem dX10_init_142 : decode cX10_init 142 = .ok (.aload_n 0, 1) := by decide +kernel
theorem dX10_init_143 : decode cX10_init 143 = .ok (.iconst 0, 1) := by decide +kernel
theorem dX10_init_144 : decode cX10_init 144 = .ok (.putfield 84, 3) := by decide +kernel
theorem dX10_init_147 : decode cX10_init 147 = .ok (.return_, 1) := by decide +kernel
theorem dX10_sign_0 : decode cX10_sign 0 = .ok (.aload_n 0, 1) := by decide +kernel
theorem dX10_sign_1 : decode cX10_sign 1 = .ok (.getfield 10, 3) := by decide +kernel
theorem dX10_sign_4 : decode cX10_sign 4 = .ok (.getfield 88, 3) := by decide +kernel
theorem dX10_sign_7 : decode cX10_sign 7 = .ok (.iconst 4, 1) := by decide +kernel
theorem dX10_sign_8 : decode cX10_sign 8 = .ok (.iadd, 1) := by decide +kernel
theorem dX10_sign_9 : decode cX10_sign 9 = .ok (.bipush 80, 2) := by decide +kernel
theorem dX10_sign_11 : decode cX10_sign 11 = .ok (.if_icmp .le 5, 3) := by decide +kernel
theorem dX10_sign_14 : decode cX10_sign 14 = .ok (.iconst (-1), 1) := by decide +kernel
theorem dX10_sign_15 : decode cX10_sign 15 = .ok (.ireturn, 1) := by decide +kernel
theorem dX10_sign_16 : decode cX10_sign 16 = .ok (.bipush 24, 2) := by decide +kernel
theorem dX10_sign_18 : decode cX10_sign 18 = .ok (.istore_n 2, 1) := by decide +kernel
theorem dX10_sign_19 : decode cX10_sign 19 = .ok (.iload_n 2, 1) := by decide +kernel
theorem dX10_sign_20 : decode cX10_sign 20 = .ok (.ifCond .lt 45, 3) := by decide +kernel
theorem dX10_sign_23 : decode cX10_sign 23 = .ok (.aload_n 0, 1) := by decide +kernel
theorem dX10_sign_24 : decode cX10_sign 24 = .ok (.getfield 10, 3) := by decide +kernel
theorem dX10_sign_27 : decode cX10_sign 27 = .ok (.getfield 91, 3) := by decide +kernel
theorem dX10_sign_30 : decode cX10_sign 30 = .ok (.aload_n 0, 1) := by decide +kernel
theorem dX10_sign_31 : decode cX10_sign 31 = .ok (.getfield 10, 3) := by decide +kernel
theorem dX10_sign_34 : decode cX10_sign 34 = .ok (.getfield 88, 3) := by decide +kernel
theorem dX10_sign_37 : decode cX10_sign 37 = .ok (.iload_n 1, 1) := by decide +kernel
theorem dX10_sign_38 : decode cX10_sign 38 = .ok (.iload_n 2, 1) := by decide +kernel
theorem dX10_sign_39 : decode cX10_sign 39 = .ok (.iushr, 1) := by decide +kernel
theorem dX10_sign_40 : decode cX10_sign 40 = .ok (.sipush 255, 3) := by decide +kernel
theorem dX10_sign_43 : decode cX10_sign 43 = .ok (.iand, 1) := by decide +kernel
theorem dX10_sign_44 : decode cX10_sign 44 = .ok (.i2c, 1) := by decide +kernel
theorem dX10_sign_45 : decode cX10_sign 45 = .ok (.castore, 1) := by decide +kernel
theorem dX10_sign_46 : decode cX10_sign 46 = .ok (.aload_n 0, 1) := by decide +kernel
theorem dX10_sign_47 : decode cX10_sign 47 = .ok (.getfield 10, 3) := by decide +kernel
theorem dX10_sign_50 : decode cX10_sign 50 = .ok (.dup, 1) := by decide +kernel
theorem dX10_sign_51 : decode cX10_sign 51 = .ok (.getfield 88, 3) := by decide +kernel
theorem dX10_sign_54 : decode cX10_sign 54 = .ok (.iconst 1, 1) := by decide +kernel
theorem dX10_sign_55 : decode cX10_sign 55 = .ok (.iadd, 1) := by decide +kernel
theorem dX10_sign_56 : decode cX10_sign 56 = .ok (.putfield 88, 3) := by decide +kernel
theorem dX10_sign_59 : decode cX10_sign 59 = .ok (.iinc 2 (-8), 3) := by decide +kernel
theorem dX10_sign_62 : decode cX10_sign 62 = .ok (.goto (-43), 3) := by decide +kernel
theorem dX10_sign_65 : decode cX10_sign 65 = .ok (.aload_n 0, 1) := by decide +kernel
theorem dX10_sign_66 : decode cX10_sign 66 = .ok (.getfield 10, 3) := by decide +kernel
theorem dX10_sign_69 : decode cX10_sign 69 = .ok (.getfield 88, 3) := by decide +kernel
theorem dX10_sign_72 : decode cX10_sign 72 = .ok (.ireturn, 1) := by decide +kernel
theorem dX10_end_0 : decode cX10_end 0 = .ok (.iload_n 1, 1) := by decide +kernel
theorem dX10_end_1 : decode cX10_end 1 = .ok (.ifCond .lt 14, 3) := by decide +kernel
theorem dX10_end_4 : decode cX10_end 4 = .ok (.iload_n 1, 1) := by decide +kernel
theorem dX10_end_5 : decode cX10_end 5 = .ok (.aload_n 0, 1) := by decide +kernel
theorem dX10_end_6 : decode cX10_end 6 = .ok (.getfield 10, 3) := by decide +kernel
theorem dX10_end_9 : decode cX10_end 9 = .ok (.getfield 88, 3) := by decide +kernel
theorem dX10_end_12 : decode cX10_end 12 = .ok (.if_icmp .le 5, 3) := by decide +kernel
theorem dX10_end_15 : decode cX10_end 15 = .ok (.iconst 0, 1) := by decide +kernel
theorem dX10_end_16 : decode cX10_end 16 = .ok (.ireturn, 1) := by decide +kernel
theorem dX10_end_17 : decode cX10_end 17 = .ok (.aload_n 0, 1) := by decide +kernel
theorem dX10_end_18 : decode cX10_end 18 = .ok (.getfield 10, 3) := by decide +kernel
theorem dX10_end_21 : decode cX10_end 21 = .ok (.iload_n 1, 1) := by decide +kernel
theorem dX10_end_22 : decode cX10_end 22 = .ok (.putfield 88, 3) := by decide +kernel
theorem dX10_end_25 : decode cX10_end 25 = .ok (.iconst 1, 1) := by decide +kernel
theorem dX10_end_26 : decode cX10_end 26 = .ok (.ireturn, 1) := by decide +kernel
theorem dX10_passages_0 : decode cX10_passages 0 = .ok (.aload_n 0, 1) := by decide +kernel
theorem dX10_passages_1 : decode cX10_passages 1 = .ok (.getfield 10, 3) := by decide +kernel
theorem dX10_passages_4 : decode cX10_passages 4 = .ok (.getfield 88, 3) := by decide +kernel
theorem dX10_passages_7 : decode cX10_passages 7 = .ok (.istore_n 1, 1) := by decide +kernel
theorem dX10_passages_8 : decode cX10_passages 8 = .ok (.iload_n 1, 1) := by decide +kernel
theorem dX10_passages_9 : decode cX10_passages 9 = .ok (.ifCond .ne 5, 3) := by decide +kernel
theorem dX10_passages_12 : decode cX10_passages 12 = .ok (.iconst 0, 1) := by decide +kernel
theorem dX10_passages_13 : decode cX10_passages 13 = .ok (.ireturn, 1) := by decide +kernel
theorem dX10_passages_14 : decode cX10_passages 14 = .ok (.aload_n 0, 1) := by decide +kernel
theorem dX10_passages_15 : decode cX10_passages 15 = .ok (.getfield 10, 3) := by decide +kernel
theorem dX10_passages_18 : decode cX10_passages 18 = .ok (.bipush 12, 2) := by decide +kernel
theorem dX10_passages_20 : decode cX10_passages 20 = .ok (.aload_n 0, 1) := by decide +kernel
theorem dX10_passages_21 : decode cX10_passages 21 = .ok (.getfield 19, 3) := by decide +kernel
theorem dX10_passages_24 : decode cX10_passages 24 = .ok (.getfield 95, 3) := by decide +kernel
theorem dX10_passages_27 : decode cX10_passages 27 = .ok (.isub, 1) := by decide +kernel
theorem dX10_passages_28 : decode cX10_passages 28 = .ok (.invokevirtual 98, 3) := by decide +kernel
theorem dX10_passages_31 : decode cX10_passages 31 = .ok (.istore_n 2, 1) := by decide +kernel
theorem dX10_passages_32 : decode cX10_passages 32 = .ok (.aload_n 0, 1) := by decide +kernel
theorem dX10_passages_33 : decode cX10_passages 33 = .ok (.getfield 10, 3) := by decide +kernel
theorem dX10_passages_36 : decode cX10_passages 36 = .ok (.iconst 0, 1) := by decide +kernel
theorem dX10_passages_37 : decode cX10_passages 37 = .ok (.putfield 88, 3) := by decide +kernel
theorem dX10_passages_40 : decode cX10_passages 40 = .ok (.iload_n 2, 1) := by decide +kernel
theorem dX10_passages_41 : decode cX10_passages 41 = .ok (.iconst (-1), 1) := by decide +kernel
theorem dX10_passages_42 : decode cX10_passages 42 = .ok (.if_icmp .eq 7, 3) := by decide +kernel
theorem dX10_passages_45 : decode cX10_passages 45 = .ok (.iconst (-1), 1) := by decide +kernel
theorem dX10_passages_46 : decode cX10_passages 46 = .ok (.iload_n 2, 1) := by decide +kernel
theorem dX10_passages_47 : decode cX10_passages 47 = .ok (.isub, 1) := by decide +kernel
theorem dX10_passages_48 : decode cX10_passages 48 = .ok (.ireturn, 1) := by decide +kernel
theorem dX10_passages_49 : decode cX10_passages 49 = .ok (.aload_n 0, 1) := by decide +kernel
theorem dX10_passages_50 : decode cX10_passages 50 = .ok (.getfield 19, 3) := by decide +kernel
theorem dX10_passages_53 : decode cX10_passages 53 = .ok (.getfield 95, 3) := by decide +kernel
theorem dX10_passages_56 : decode cX10_passages 56 = .ok (.istore_n 3, 1) := by decide +kernel
theorem dX10_passages_57 : decode cX10_passages 57 = .ok (.iconst 0, 1) := by decide +kernel
theorem dX10_passages_58 : decode cX10_passages 58 = .ok (.istore 4, 2) := by decide +kernel
theorem dX10_passages_60 : decode cX10_passages 60 = .ok (.iload 4, 2) := by decide +kernel
theorem dX10_passages_62 : decode cX10_passages 62 = .ok (.iload_n 1, 1) := by decide +kernel
theorem dX10_passages_63 : decode cX10_passages 63 = .ok (.if_icmp .ge 58, 3) := by decide +kernel
theorem dX10_passages_66 : decode cX10_passages 66 = .ok (.aload_n 0, 1) := by decide +kernel
theorem dX10_passages_67 : decode cX10_passages 67 = .ok (.getfield 19, 3) := by decide +kernel
theorem dX10_passages_70 : decode cX10_passages 70 = .ok (.aload_n 0, 1) := by decide +kernel
theorem dX10_passages_71 : decode cX10_passages 71 = .ok (.getfield 10, 3) := by decide +kernel
theorem dX10_passages_74 : decode cX10_passages 74 = .ok (.iload 4, 2) := by decide +kernel
theorem dX10_passages_76 : decode cX10_passages 76 = .ok (.invokevirtual 102, 3) := by decide +kernel
theorem dX10_passages_79 : decode cX10_passages 79 = .ok (.aload_n 0, 1) := by decide +kernel
theorem dX10_passages_80 : decode cX10_passages 80 = .ok (.getfield 10, 3) := by decide +kernel
theorem dX10_passages_83 : decode cX10_passages 83 = .ok (.iload 4, 2) := by decide +kernel
theorem dX10_passages_85 : decode cX10_passages 85 = .ok (.iconst 1, 1) := by decide +kernel
theorem dX10_passages_86 : decode cX10_passages 86 = .ok (.iadd, 1) := by decide +kernel
theorem dX10_passages_87 : decode cX10_passages 87 = .ok (.invokevirtual 102, 3) := by decide +kernel
theorem dX10_passages_90 : decode cX10_passages 90 = .ok (.aload_n 0, 1) := by decide +kernel
theorem dX10_passages_91 : decode cX10_passages 91 = .ok (.getfield 10, 3) := by decide +kernel
theorem dX10_passages_94 : decode cX10_passages 94 = .ok (.iload 4, 2) := by decide +kernel
theorem dX10_passages_96 : decode cX10_passages 96 = .ok (.iconst 2, 1) := by decide +kernel
theorem dX10_passages_97 : decode cX10_passages 97 = .ok (.iadd, 1) := by decide +kernel
theorem dX10_passages_98 : decode cX10_passages 98 = .ok (.invokevirtual 102, 3) := by decide +kernel
theorem dX10_passages_101 : decode cX10_passages 101 = .ok (.aload_n 0, 1) := by decide +kernel
theorem dX10_passages_102 : decode cX10_passages 102 = .ok (.getfield 10, 3) := by decide +kernel
theorem dX10_passages_105 : decode cX10_passages 105 = .ok (.iload 4, 2) := by decide +kernel
theorem dX10_passages_107 : decode cX10_passages 107 = .ok (.iconst 3, 1) := by decide +kernel
theorem dX10_passages_108 : decode cX10_passages 108 = .ok (.iadd, 1) := by decide +kernel
theorem dX10_passages_109 : decode cX10_passages 109 = .ok (.invokevirtual 102, 3) := by decide +kernel
theorem dX10_passages_112 : decode cX10_passages 112 = .ok (.invokevirtual 105, 3) := by decide +kernel
theorem dX10_passages_115 : decode cX10_passages 115 = .ok (.iinc 4 5, 3) := by decide +kernel
theorem dX10_passages_118 : decode cX10_passages 118 = .ok (.goto (-58), 3) := by decide +kernel
theorem dX10_passages_121 : decode cX10_passages 121 = .ok (.aload_n 0, 1) := by decide +kernel
theorem dX10_passages_122 : decode cX10_passages 122 = .ok (.getfield 33, 3) := by decide +kernel
theorem dX10_passages_125 : decode cX10_passages 125 = .ok (.invokevirtual 109, 3) := by decide +kernel
theorem dX10_passages_128 : decode cX10_passages 128 = .ok (.aload_n 0, 1) := by decide +kernel
theorem dX10_passages_129 : decode cX10_passages 129 = .ok (.getfield 19, 3) := by decide +kernel
theorem dX10_passages_132 : decode cX10_passages 132 = .ok (.getfield 95, 3) := by decide +kernel
theorem dX10_passages_135 : decode cX10_passages 135 = .ok (.iload_n 3, 1) := by decide +kernel
theorem dX10_passages_136 : decode cX10_passages 136 = .ok (.isub, 1) := by decide +kernel
theorem dX10_passages_137 : decode cX10_passages 137 = .ok (.ireturn, 1) := by decide +kernel
theorem dX10_rule_0 : decode cX10_rule 0 = .ok (.aload_n 0, 1) := by decide +kernel
theorem dX10_rule_1 : decode cX10_rule 1 = .ok (.getfield 74, 3) := by decide +kernel
theorem dX10_rule_4 : decode cX10_rule 4 = .ok (.aload_n 0, 1) := by decide +kernel
theorem dX10_rule_5 : decode cX10_rule 5 = .ok (.getfield 10, 3) := by decide +kernel
theorem dX10_rule_8 : decode cX10_rule 8 = .ok (.invokevirtual 112, 3) := by decide +kernel
theorem dX10_rule_11 : decode cX10_rule 11 = .ok (.istore_n 1, 1) := by decide +kernel
theorem dX10_rule_12 : decode cX10_rule 12 = .ok (.aload_n 0, 1) := by decide +kernel
theorem dX10_rule_13 : decode cX10_rule 13 = .ok (.getfield 10, 3) := by decide +kernel
theorem dX10_rule_16 : decode cX10_rule 16 = .ok (.iconst 0, 1) := by decide +kernel
theorem dX10_rule_17 : decode cX10_rule 17 = .ok (.putfield 88, 3) := by decide +kernel
theorem dX10_rule_20 : decode cX10_rule 20 = .ok (.iload_n 1, 1) := by decide +kernel
theorem dX10_rule_21 : decode cX10_rule 21 = .ok (.iconst (-1), 1) := by decide +kernel
theorem dX10_rule_22 : decode cX10_rule 22 = .ok (.if_icmp .eq 7, 3) := by decide +kernel
theorem dX10_rule_25 : decode cX10_rule 25 = .ok (.iconst (-1), 1) := by decide +kernel
theorem dX10_rule_26 : decode cX10_rule 26 = .ok (.iload_n 1, 1) := by decide +kernel
theorem dX10_rule_27 : decode cX10_rule 27 = .ok (.isub, 1) := by decide +kernel
theorem dX10_rule_28 : decode cX10_rule 28 = .ok (.ireturn, 1) := by decide +kernel
theorem dX10_rule_29 : decode cX10_rule 29 = .ok (.aload_n 0, 1) := by decide +kernel
theorem dX10_rule_30 : decode cX10_rule 30 = .ok (.getfield 74, 3) := by decide +kernel
theorem dX10_rule_33 : decode cX10_rule 33 = .ok (.astore_n 2, 1) := by decide +kernel
theorem dX10_rule_34 : decode cX10_rule 34 = .ok (.aload_n 0, 1) := by decide +kernel
theorem dX10_rule_35 : decode cX10_rule 35 = .ok (.aload_n 0, 1) := by decide +kernel
theorem dX10_rule_36 : decode cX10_rule 36 = .ok (.getfield 70, 3) := by decide +kernel
theorem dX10_rule_39 : decode cX10_rule 39 = .ok (.putfield 74, 3) := by decide +kernel
theorem dX10_rule_42 : decode cX10_rule 42 = .ok (.aload_n 0, 1) := by decide +kernel
theorem dX10_rule_43 : decode cX10_rule 43 = .ok (.aload_n 2, 1) := by decide +kernel
theorem dX10_rule_44 : decode cX10_rule 44 = .ok (.putfield 70, 3) := by decide +kernel
theorem dX10_rule_47 : decode cX10_rule 47 = .ok (.iconst 0, 1) := by decide +kernel
theorem dX10_rule_48 : decode cX10_rule 48 = .ok (.ireturn, 1) := by decide +kernel
theorem dX10_passage_0 : decode cX10_passage 0 = .ok (.aload_n 0, 1) := by decide +kernel
theorem dX10_passage_1 : decode cX10_passage 1 = .ok (.getfield 19, 3) := by decide +kernel
theorem dX10_passage_4 : decode cX10_passage 4 = .ok (.iload_n 1, 1) := by decide +kernel
theorem dX10_passage_5 : decode cX10_passage 5 = .ok (.invokevirtual 116, 3) := by decide +kernel
theorem dX10_passage_8 : decode cX10_passage 8 = .ok (.ifCond .ne 11, 3) := by decide +kernel
theorem dX10_passage_11 : decode cX10_passage 11 = .ok (.new 120, 3) := by decide +kernel
theorem dX10_passage_14 : decode cX10_passage 14 = .ok (.dup, 1) := by decide +kernel
theorem dX10_passage_15 : decode cX10_passage 15 = .ok (.invokespecial 122, 3) := by decide +kernel
theorem dX10_passage_18 : decode cX10_passage 18 = .ok (.athrow, 1) := by decide +kernel
theorem dX10_passage_19 : decode cX10_passage 19 = .ok (.iload_n 2, 1) := by decide +kernel
theorem dX10_passage_20 : decode cX10_passage 20 = .ok (.tableswitch 116 0 5 #[40, 50, 60, 73, 86, 99], 40) := by decide +kernel
theorem dX10_passage_60 : decode cX10_passage 60 = .ok (.aload_n 0, 1) := by decide +kernel
theorem dX10_passage_61 : decode cX10_passage 61 = .ok (.getfield 19, 3) := by decide +kernel
theorem dX10_passage_64 : decode cX10_passage 64 = .ok (.getfield 123, 3) := by decide +kernel
theorem dX10_passage_67 : decode cX10_passage 67 = .ok (.iload_n 1, 1) := by decide +kernel
theorem dX10_passage_68 : decode cX10_passage 68 = .ok (.iaload, 1) := by decide +kernel
theorem dX10_passage_69 : decode cX10_passage 69 = .ok (.ireturn, 1) := by decide +kernel
theorem dX10_passage_70 : decode cX10_passage 70 = .ok (.aload_n 0, 1) := by decide +kernel
theorem dX10_passage_71 : decode cX10_passage 71 = .ok (.getfield 19, 3) := by decide +kernel
theorem dX10_passage_74 : decode cX10_passage 74 = .ok (.getfield 126, 3) := by decide +kernel
theorem dX10_passage_77 : decode cX10_passage 77 = .ok (.iload_n 1, 1) := by decide +kernel
theorem dX10_passage_78 : decode cX10_passage 78 = .ok (.iaload, 1) := by decide +kernel
theorem dX10_passage_79 : decode cX10_passage 79 = .ok (.ireturn, 1) := by decide +kernel
theorem dX10_passage_80 : decode cX10_passage 80 = .ok (.aload_n 0, 1) := by decide +kernel
theorem dX10_passage_81 : decode cX10_passage 81 = .ok (.getfield 19, 3) := by decide +kernel
theorem dX10_passage_84 : decode cX10_passage 84 = .ok (.getfield 129, 3) := by decide +kernel
theorem dX10_passage_87 : decode cX10_passage 87 = .ok (.getfield 133, 3) := by decide +kernel
theorem dX10_passage_90 : decode cX10_passage 90 = .ok (.iload_n 1, 1) := by decide +kernel
theorem dX10_passage_91 : decode cX10_passage 91 = .ok (.iaload, 1) := by decide +kernel
theorem dX10_passage_92 : decode cX10_passage 92 = .ok (.ireturn, 1) := by decide +kernel
theorem dX10_passage_93 : decode cX10_passage 93 = .ok (.aload_n 0, 1) := by decide +kernel
theorem dX10_passage_94 : decode cX10_passage 94 = .ok (.getfield 19, 3) := by decide +kernel
theorem dX10_passage_97 : decode cX10_passage 97 = .ok (.getfield 129, 3) := by decide +kernel
theorem dX10_passage_100 : decode cX10_passage 100 = .ok (.getfield 138, 3) := by decide +kernel
theorem dX10_passage_103 : decode cX10_passage 103 = .ok (.iload_n 1, 1) := by decide +kernel
theorem dX10_passage_104 : decode cX10_passage 104 = .ok (.iaload, 1) := by decide +kernel
theorem dX10_passage_105 : decode cX10_passage 105 = .ok (.ireturn, 1) := by decide +kernel
theorem dX10_passage_106 : decode cX10_passage 106 = .ok (.aload_n 0, 1) := by decide +kernel
theorem dX10_passage_107 : decode cX10_passage 107 = .ok (.getfield 19, 3) := by decide +kernel
theorem dX10_passage_110 : decode cX10_passage 110 = .ok (.getfield 129, 3) := by decide +kernel
theorem dX10_passage_113 : decode cX10_passage 113 = .ok (.getfield 141, 3) := by decide +kernel
theorem dX10_passage_116 : decode cX10_passage 116 = .ok (.iload_n 1, 1) := by decide +kernel
theorem dX10_passage_117 : decode cX10_passage 117 = .ok (.iaload, 1) := by decide +kernel
theorem dX10_passage_118 : decode cX10_passage 118 = .ok (.ireturn, 1) := by decide +kernel
theorem dX10_passage_119 : decode cX10_passage 119 = .ok (.aload_n 0, 1) := by decide +kernel
theorem dX10_passage_120 : decode cX10_passage 120 = .ok (.getfield 19, 3) := by decide +kernel
theorem dX10_passage_123 : decode cX10_passage 123 = .ok (.iload_n 1, 1) := by decide +kernel
theorem dX10_passage_124 : decode cX10_passage 124 = .ok (.invokevirtual 144, 3) := by decide +kernel
theorem dX10_passage_127 : decode cX10_passage 127 = .ok (.ifCond .eq 7, 3) := by decide +kernel
theorem dX10_passage_130 : decode cX10_passage 130 = .ok (.iconst 1, 1) := by decide +kernel
theorem dX10_passage_131 : decode cX10_passage 131 = .ok (.goto 4, 3) := by decide +kernel
theorem dX10_passage_134 : decode cX10_passage 134 = .ok (.iconst 0, 1) := by decide +kernel
theorem dX10_passage_135 : decode cX10_passage 135 = .ok (.ireturn, 1) := by decide +kernel
theorem dX10_passage_136 : decode cX10_passage 136 = .ok (.new 120, 3) := by decide +kernel
theorem dX10_passage_139 : decode cX10_passage 139 = .ok (.dup, 1) := by decide +kernel
theorem dX10_passage_140 : decode cX10_passage 140 = .ok (.invokespecial 122, 3) := by decide +kernel
theorem dX10_passage_143 : decode cX10_passage 143 = .ok (.athrow, 1) := by decide +kernel
theorem dX10_cavern_0 : decode cX10_cavern 0 = .ok (.iload_n 1, 1) := by decide +kernel
theorem dX10_cavern_1 : decode cX10_cavern 1 = .ok (.invokestatic 147, 3) := by decide +kernel
theorem dX10_cavern_4 : decode cX10_cavern 4 = .ok (.ifCond .eq 12, 3) := by decide +kernel
theorem dX10_cavern_7 : decode cX10_cavern 7 = .ok (.iload_n 2, 1) := by decide +kernel
theorem dX10_cavern_8 : decode cX10_cavern 8 = .ok (.ifCond .lt 8, 3) := by decide +kernel
theorem dX10_cavern_11 : decode cX10_cavern 11 = .ok (.iload_n 2, 1) := by decide +kernel
theorem dX10_cavern_12 : decode cX10_cavern 12 = .ok (.iconst 2, 1) := by decide +kernel
theorem dX10_cavern_13 : decode cX10_cavern 13 = .ok (.if_icmp .le 11, 3) := by decide +kernel
theorem dX10_cavern_16 : decode cX10_cavern 16 = .ok (.new 120, 3) := by decide +kernel
theorem dX10_cavern_19 : decode cX10_cavern 19 = .ok (.dup, 1) := by decide +kernel
theorem dX10_cavern_20 : decode cX10_cavern 20 = .ok (.invokespecial 122, 3) := by decide +kernel
theorem dX10_cavern_23 : decode cX10_cavern 23 = .ok (.athrow, 1) := by decide +kernel
theorem dX10_cavern_24 : decode cX10_cavern 24 = .ok (.iload_n 2, 1) := by decide +kernel
theorem dX10_cavern_25 : decode cX10_cavern 25 = .ok (.ifCond .ne 12, 3) := by decide +kernel
theorem dX10_cavern_28 : decode cX10_cavern 28 = .ok (.aload_n 0, 1) := by decide +kernel
theorem dX10_cavern_29 : decode cX10_cavern 29 = .ok (.getfield 19, 3) := by decide +kernel
theorem dX10_cavern_32 : decode cX10_cavern 32 = .ok (.iload_n 1, 1) := by decide +kernel
theorem dX10_cavern_33 : decode cX10_cavern 33 = .ok (.invokevirtual 150, 3) := by decide +kernel
theorem dX10_cavern_36 : decode cX10_cavern 36 = .ok (.ireturn, 1) := by decide +kernel
theorem dX10_cavern_37 : decode cX10_cavern 37 = .ok (.aload_n 0, 1) := by decide +kernel
theorem dX10_cavern_38 : decode cX10_cavern 38 = .ok (.getfield 49, 3) := by decide +kernel
theorem dX10_cavern_41 : decode cX10_cavern 41 = .ok (.invokevirtual 153, 3) := by decide +kernel
theorem dX10_cavern_44 : decode cX10_cavern 44 = .ok (.iload_n 2, 1) := by decide +kernel
theorem dX10_cavern_45 : decode cX10_cavern 45 = .ok (.iconst 1, 1) := by decide +kernel
theorem dX10_cavern_46 : decode cX10_cavern 46 = .ok (.if_icmp .ne 14, 3) := by decide +kernel
theorem dX10_cavern_49 : decode cX10_cavern 49 = .ok (.aload_n 0, 1) := by decide +kernel
theorem dX10_cavern_50 : decode cX10_cavern 50 = .ok (.getfield 49, 3) := by decide +kernel
theorem dX10_cavern_53 : decode cX10_cavern 53 = .ok (.iload_n 1, 1) := by decide +kernel
theorem dX10_cavern_54 : decode cX10_cavern 54 = .ok (.invokevirtual 156, 3) := by decide +kernel
theorem dX10_cavern_57 : decode cX10_cavern 57 = .ok (.goto 11, 3) := by decide +kernel
theorem dX10_cavern_60 : decode cX10_cavern 60 = .ok (.aload_n 0, 1) := by decide +kernel
theorem dX10_cavern_61 : decode cX10_cavern 61 = .ok (.getfield 49, 3) := by decide +kernel
theorem dX10_cavern_64 : decode cX10_cavern 64 = .ok (.iload_n 1, 1) := by decide +kernel
theorem dX10_cavern_65 : decode cX10_cavern 65 = .ok (.invokevirtual 159, 3) := by decide +kernel
theorem dX10_cavern_68 : decode cX10_cavern 68 = .ok (.ireturn, 1) := by decide +kernel
theorem dX10_sheet_0 : decode cX10_sheet 0 = .ok (.iload_n 1, 1) := by decide +kernel
theorem dX10_sheet_1 : decode cX10_sheet 1 = .ok (.ifCond .lt 14, 3) := by decide +kernel
theorem dX10_sheet_4 : decode cX10_sheet 4 = .ok (.iload_n 1, 1) := by decide +kernel
theorem dX10_sheet_5 : decode cX10_sheet 5 = .ok (.iconst 3, 1) := by decide +kernel
theorem dX10_sheet_6 : decode cX10_sheet 6 = .ok (.if_icmp .gt 9, 3) := by decide +kernel
theorem dX10_sheet_9 : decode cX10_sheet 9 = .ok (.iload_n 2, 1) := by decide +kernel
theorem dX10_sheet_10 : decode cX10_sheet 10 = .ok (.bipush 12, 2) := by decide +kernel
theorem dX10_sheet_12 : decode cX10_sheet 12 = .ok (.if_icmp .le 5, 3) := by decide +kernel
theorem dX10_sheet_15 : decode cX10_sheet 15 = .ok (.iconst (-1), 1) := by decide +kernel
theorem dX10_sheet_16 : decode cX10_sheet 16 = .ok (.ireturn, 1) := by decide +kernel
theorem dX10_sheet_17 : decode cX10_sheet 17 = .ok (.iload_n 1, 1) := by decide +kernel
theorem dX10_sheet_18 : decode cX10_sheet 18 = .ok (.iconst 3, 1) := by decide +kernel
theorem dX10_sheet_19 : decode cX10_sheet 19 = .ok (.if_icmp .eq 10, 3) := by decide +kernel
theorem dX10_sheet_22 : decode cX10_sheet 22 = .ok (.iload_n 2, 1) := by decide +kernel
theorem dX10_sheet_23 : decode cX10_sheet 23 = .ok (.ifCond .ge 6, 3) := by decide +kernel
theorem dX10_sheet_26 : decode cX10_sheet 26 = .ok (.bipush (-2), 2) := by decide +kernel
theorem dX10_sheet_28 : decode cX10_sheet 28 = .ok (.ireturn, 1) := by decide +kernel
theorem dX10_sheet_29 : decode cX10_sheet 29 = .ok (.iload_n 3, 1) := by decide +kernel
theorem dX10_sheet_30 : decode cX10_sheet 30 = .ok (.istore 5, 2) := by decide +kernel
theorem dX10_sheet_32 : decode cX10_sheet 32 = .ok (.iconst 0, 1) := by decide +kernel
theorem dX10_sheet_33 : decode cX10_sheet 33 = .ok (.istore 6, 2) := by decide +kernel
theorem dX10_sheet_35 : decode cX10_sheet 35 = .ok (.iload 6, 2) := by decide +kernel
theorem dX10_sheet_37 : decode cX10_sheet 37 = .ok (.aload_n 0, 1) := by decide +kernel
theorem dX10_sheet_38 : decode cX10_sheet 38 = .ok (.getfield 19, 3) := by decide +kernel
theorem dX10_sheet_41 : decode cX10_sheet 41 = .ok (.getfield 95, 3) := by decide +kernel
theorem dX10_sheet_44 : decode cX10_sheet 44 = .ok (.if_icmp .ge 50, 3) := by decide +kernel
theorem dX10_sheet_47 : decode cX10_sheet 47 = .ok (.aload_n 0, 1) := by decide +kernel
theorem dX10_sheet_48 : decode cX10_sheet 48 = .ok (.getfield 19, 3) := by decide +kernel
theorem dX10_sheet_51 : decode cX10_sheet 51 = .ok (.getfield 129, 3) := by decide +kernel
theorem dX10_sheet_54 : decode cX10_sheet 54 = .ok (.getfield 141, 3) := by decide +kernel
theorem dX10_sheet_57 : decode cX10_sheet 57 = .ok (.iload 6, 2) := by decide +kernel
theorem dX10_sheet_59 : decode cX10_sheet 59 = .ok (.iload_n 1, 1) := by decide +kernel
theorem dX10_sheet_60 : decode cX10_sheet 60 = .ok (.iconst 3, 1) := by decide +kernel
theorem dX10_sheet_61 : decode cX10_sheet 61 = .ok (.if_icmp .eq 9, 3) := by decide +kernel
theorem dX10_sheet_64 : decode cX10_sheet 64 = .ok (.iload 6, 2) := by decide +kernel
theorem dX10_sheet_66 : decode cX10_sheet 66 = .ok (.iload_n 2, 1) := by decide +kernel
theorem dX10_sheet_67 : decode cX10_sheet 67 = .ok (.if_icmp .lt 7, 3) := by decide +kernel
theorem dX10_sheet_70 : decode cX10_sheet 70 = .ok (.iconst 0, 1) := by decide +kernel
theorem dX10_sheet_71 : decode cX10_sheet 71 = .ok (.goto 9, 3) := by decide +kernel
theorem dX10_sheet_74 : decode cX10_sheet 74 = .ok (.iload_n 1, 1) := by decide +kernel
theorem dX10_sheet_75 : decode cX10_sheet 75 = .ok (.iload 5, 2) := by decide +kernel
theorem dX10_sheet_77 : decode cX10_sheet 77 = .ok (.invokestatic 162, 3) := by decide +kernel
theorem dX10_sheet_80 : decode cX10_sheet 80 = .ok (.iastore, 1) := by decide +kernel
theorem dX10_sheet_81 : decode cX10_sheet 81 = .ok (.iload 5, 2) := by decide +kernel
theorem dX10_sheet_83 : decode cX10_sheet 83 = .ok (.iload 4, 2) := by decide +kernel
theorem dX10_sheet_85 : decode cX10_sheet 85 = .ok (.iadd, 1) := by decide +kernel
theorem dX10_sheet_86 : decode cX10_sheet 86 = .ok (.istore 5, 2) := by decide +kernel
theorem dX10_sheet_88 : decode cX10_sheet 88 = .ok (.iinc 6 1, 3) := by decide +kernel
theorem dX10_sheet_91 : decode cX10_sheet 91 = .ok (.goto (-56), 3) := by decide +kernel
theorem dX10_sheet_94 : decode cX10_sheet 94 = .ok (.iload_n 1, 1) := by decide +kernel
theorem dX10_sheet_95 : decode cX10_sheet 95 = .ok (.iconst 3, 1) := by decide +kernel
theorem dX10_sheet_96 : decode cX10_sheet 96 = .ok (.if_icmp .ne 8, 3) := by decide +kernel
theorem dX10_sheet_99 : decode cX10_sheet 99 = .ok (.bipush (-3), 2) := by decide +kernel
theorem dX10_sheet_101 : decode cX10_sheet 101 = .ok (.goto 10, 3) := by decide +kernel
theorem dX10_sheet_104 : decode cX10_sheet 104 = .ok (.aload_n 0, 1) := by decide +kernel
theorem dX10_sheet_105 : decode cX10_sheet 105 = .ok (.getfield 19, 3) := by decide +kernel
theorem dX10_sheet_108 : decode cX10_sheet 108 = .ok (.invokevirtual 166, 3) := by decide +kernel
theorem dX10_sheet_111 : decode cX10_sheet 111 = .ok (.ireturn, 1) := by decide +kernel
theorem dX10_wearToldBy_0 : decode cX10_wearToldBy 0 = .ok (.iload_n 0, 1) := by decide +kernel
theorem dX10_wearToldBy_1 : decode cX10_wearToldBy 1 = .ok (.ifCond .ne 8, 3) := by decide +kernel
theorem dX10_wearToldBy_4 : decode cX10_wearToldBy 4 = .ok (.iload_n 1, 1) := by decide +kernel
theorem dX10_wearToldBy_5 : decode cX10_wearToldBy 5 = .ok (.i2b, 1) := by decide +kernel
theorem dX10_wearToldBy_6 : decode cX10_wearToldBy 6 = .ok (.goto 14, 3) := by decide +kernel
theorem dX10_wearToldBy_9 : decode cX10_wearToldBy 9 = .ok (.iload_n 0, 1) := by decide +kernel
theorem dX10_wearToldBy_10 : decode cX10_wearToldBy 10 = .ok (.iconst 1, 1) := by decide +kernel
theorem dX10_wearToldBy_11 : decode cX10_wearToldBy 11 = .ok (.if_icmp .ne 8, 3) := by decide +kernel
theorem dX10_wearToldBy_14 : decode cX10_wearToldBy 14 = .ok (.iload_n 1, 1) := by decide +kernel
theorem dX10_wearToldBy_15 : decode cX10_wearToldBy 15 = .ok (.i2s, 1) := by decide +kernel
theorem dX10_wearToldBy_16 : decode cX10_wearToldBy 16 = .ok (.goto 4, 3) := by decide +kernel
theorem dX10_wearToldBy_19 : decode cX10_wearToldBy 19 = .ok (.iload_n 1, 1) := by decide +kernel
theorem dX10_wearToldBy_20 : decode cX10_wearToldBy 20 = .ok (.istore_n 2, 1) := by decide +kernel
theorem dX10_wearToldBy_21 : decode cX10_wearToldBy 21 = .ok (.iconst 0, 1) := by decide +kernel
theorem dX10_wearToldBy_22 : decode cX10_wearToldBy 22 = .ok (.bipush 9, 2) := by decide +kernel
theorem dX10_wearToldBy_24 : decode cX10_wearToldBy 24 = .ok (.iload_n 2, 1) := by decide +kernel
theorem dX10_wearToldBy_25 : decode cX10_wearToldBy 25 = .ok (.invokestatic 170, 3) := by decide +kernel
theorem dX10_wearToldBy_28 : decode cX10_wearToldBy 28 = .ok (.invokestatic 175, 3) := by decide +kernel
theorem dX10_wearToldBy_31 : decode cX10_wearToldBy 31 = .ok (.ireturn, 1) := by decide +kernel
theorem dX10_calls_0 : decode cX10_calls 0 = .ok (.aload_n 0, 1) := by decide +kernel
theorem dX10_calls_1 : decode cX10_calls 1 = .ok (.iload_n 1, 1) := by decide +kernel
theorem dX10_calls_2 : decode cX10_calls 2 = .ok (.iload_n 2, 1) := by decide +kernel
theorem dX10_calls_3 : decode cX10_calls 3 = .ok (.invokevirtual 178, 3) := by decide +kernel
theorem dX10_calls_6 : decode cX10_calls 6 = .ok (.istore_n 3, 1) := by decide +kernel
theorem dX10_calls_7 : decode cX10_calls 7 = .ok (.iload_n 3, 1) := by decide +kernel
theorem dX10_calls_8 : decode cX10_calls 8 = .ok (.ifCond .ne 63, 3) := by decide +kernel
theorem dX10_calls_11 : decode cX10_calls 11 = .ok (.aload_n 0, 1) := by decide +kernel
theorem dX10_calls_12 : decode cX10_calls 12 = .ok (.getfield 33, 3) := by decide +kernel
theorem dX10_calls_15 : decode cX10_calls 15 = .ok (.aload_n 0, 1) := by decide +kernel
theorem dX10_calls_16 : decode cX10_calls 16 = .ok (.getfield 19, 3) := by decide +kernel
theorem dX10_calls_19 : decode cX10_calls 19 = .ok (.getfield 129, 3) := by decide +kernel
theorem dX10_calls_22 : decode cX10_calls 22 = .ok (.invokevirtual 181, 3) := by decide +kernel
theorem dX10_calls_25 : decode cX10_calls 25 = .ok (.aload_n 0, 1) := by decide +kernel
theorem dX10_calls_26 : decode cX10_calls 26 = .ok (.getfield 26, 3) := by decide +kernel
theorem dX10_calls_29 : decode cX10_calls 29 = .ok (.invokevirtual 185, 3) := by decide +kernel
theorem dX10_calls_32 : decode cX10_calls 32 = .ok (.aload_n 0, 1) := by decide +kernel
theorem dX10_calls_33 : decode cX10_calls 33 = .ok (.getfield 26, 3) := by decide +kernel
theorem dX10_calls_36 : decode cX10_calls 36 = .ok (.aload_n 0, 1) := by decide +kernel
theorem dX10_calls_37 : decode cX10_calls 37 = .ok (.getfield 42, 3) := by decide +kernel
theorem dX10_calls_40 : decode cX10_calls 40 = .ok (.getfield 188, 3) := by decide +kernel
theorem dX10_calls_43 : decode cX10_calls 43 = .ok (.i2l, 1) := by decide +kernel
theorem dX10_calls_44 : decode cX10_calls 44 = .ok (.invokevirtual 191, 3) := by decide +kernel
theorem dX10_calls_47 : decode cX10_calls 47 = .ok (.aload_n 0, 1) := by decide +kernel
theorem dX10_calls_48 : decode cX10_calls 48 = .ok (.aload_n 0, 1) := by decide +kernel
theorem dX10_calls_49 : decode cX10_calls 49 = .ok (.getfield 10, 3) := by decide +kernel
theorem dX10_calls_52 : decode cX10_calls 52 = .ok (.getfield 88, 3) := by decide +kernel
theorem dX10_calls_55 : decode cX10_calls 55 = .ok (.invokevirtual 195, 3) := by decide +kernel
theorem dX10_calls_58 : decode cX10_calls 58 = .ok (.aload_n 0, 1) := by decide +kernel
theorem dX10_calls_59 : decode cX10_calls 59 = .ok (.invokevirtual 199, 3) := by decide +kernel
theorem dX10_calls_62 : decode cX10_calls 62 = .ok (.istore_n 3, 1) := by decide +kernel
theorem dX10_calls_63 : decode cX10_calls 63 = .ok (.aload_n 0, 1) := by decide +kernel
theorem dX10_calls_64 : decode cX10_calls 64 = .ok (.getfield 33, 3) := by decide +kernel
theorem dX10_calls_67 : decode cX10_calls 67 = .ok (.iconst 1, 1) := by decide +kernel
theorem dX10_calls_68 : decode cX10_calls 68 = .ok (.invokevirtual 202, 3) := by decide +kernel
theorem dX10_calls_71 : decode cX10_calls 71 = .ok (.aload_n 0, 1) := by decide +kernel
theorem dX10_calls_72 : decode cX10_calls 72 = .ok (.getfield 10, 3) := by decide +kernel
theorem dX10_calls_75 : decode cX10_calls 75 = .ok (.iconst 0, 1) := by decide +kernel
theorem dX10_calls_76 : decode cX10_calls 76 = .ok (.putfield 88, 3) := by decide +kernel
theorem dX10_calls_79 : decode cX10_calls 79 = .ok (.iload_n 3, 1) := by decide +kernel
theorem dX10_calls_80 : decode cX10_calls 80 = .ok (.ireturn, 1) := by decide +kernel
theorem dX10_hours_0 : decode cX10_hours 0 = .ok (.aload_n 0, 1) := by decide +kernel
theorem dX10_hours_1 : decode cX10_hours 1 = .ok (.getfield 33, 3) := by decide +kernel
theorem dX10_hours_4 : decode cX10_hours 4 = .ok (.aload_n 0, 1) := by decide +kernel
theorem dX10_hours_5 : decode cX10_hours 5 = .ok (.getfield 19, 3) := by decide +kernel
theorem dX10_hours_8 : decode cX10_hours 8 = .ok (.getfield 129, 3) := by decide +kernel
theorem dX10_hours_11 : decode cX10_hours 11 = .ok (.invokevirtual 181, 3) := by decide +kernel
theorem dX10_hours_14 : decode cX10_hours 14 = .ok (.aload_n 0, 1) := by decide +kernel
theorem dX10_hours_15 : decode cX10_hours 15 = .ok (.iload_n 1, 1) := by decide +kernel
theorem dX10_hours_16 : decode cX10_hours 16 = .ok (.invokevirtual 206, 3) := by decide +kernel
theorem dX10_hours_19 : decode cX10_hours 19 = .ok (.istore_n 2, 1) := by decide +kernel
theorem dX10_hours_20 : decode cX10_hours 20 = .ok (.aload_n 0, 1) := by decide +kernel
theorem dX10_hours_21 : decode cX10_hours 21 = .ok (.getfield 33, 3) := by decide +kernel
theorem dX10_hours_24 : decode cX10_hours 24 = .ok (.iload_n 2, 1) := by decide +kernel
theorem dX10_hours_25 : decode cX10_hours 25 = .ok (.ifCond .lt 7, 3) := by decide +kernel
theorem dX10_hours_28 : decode cX10_hours 28 = .ok (.iconst 1, 1) := by decide +kernel
theorem dX10_hours_29 : decode cX10_hours 29 = .ok (.goto 4, 3) := by decide +kernel
theorem dX10_hours_32 : decode cX10_hours 32 = .ok (.iconst 0, 1) := by decide +kernel
theorem dX10_hours_33 : decode cX10_hours 33 = .ok (.invokevirtual 202, 3) := by decide +kernel
theorem dX10_hours_36 : decode cX10_hours 36 = .ok (.iload_n 2, 1) := by decide +kernel
theorem dX10_hours_37 : decode cX10_hours 37 = .ok (.ireturn, 1) := by decide +kernel
theorem dX10_falls_0 : decode cX10_falls 0 = .ok (.aload_n 0, 1) := by decide +kernel
theorem dX10_falls_1 : decode cX10_falls 1 = .ok (.getfield 33, 3) := by decide +kernel
theorem dX10_falls_4 : decode cX10_falls 4 = .ok (.aload_n 0, 1) := by decide +kernel
theorem dX10_falls_5 : decode cX10_falls 5 = .ok (.getfield 19, 3) := by decide +kernel
theorem dX10_falls_8 : decode cX10_falls 8 = .ok (.getfield 129, 3) := by decide +kernel
theorem dX10_falls_11 : decode cX10_falls 11 = .ok (.invokevirtual 181, 3) := by decide +kernel
theorem dX10_falls_14 : decode cX10_falls 14 = .ok (.aload_n 0, 1) := by decide +kernel
theorem dX10_falls_15 : decode cX10_falls 15 = .ok (.iload_n 1, 1) := by decide +kernel
theorem dX10_falls_16 : decode cX10_falls 16 = .ok (.invokevirtual 209, 3) := by decide +kernel
theorem dX10_falls_19 : decode cX10_falls 19 = .ok (.istore_n 2, 1) := by decide +kernel
theorem dX10_falls_20 : decode cX10_falls 20 = .ok (.aload_n 0, 1) := by decide +kernel
theorem dX10_falls_21 : decode cX10_falls 21 = .ok (.getfield 33, 3) := by decide +kernel
theorem dX10_falls_24 : decode cX10_falls 24 = .ok (.iload_n 2, 1) := by decide +kernel
theorem dX10_falls_25 : decode cX10_falls 25 = .ok (.ifCond .lt 7, 3) := by decide +kernel
theorem dX10_falls_28 : decode cX10_falls 28 = .ok (.iconst 1, 1) := by decide +kernel
theorem dX10_falls_29 : decode cX10_falls 29 = .ok (.goto 4, 3) := by decide +kernel
theorem dX10_falls_32 : decode cX10_falls 32 = .ok (.iconst 0, 1) := by decide +kernel
theorem dX10_falls_33 : decode cX10_falls 33 = .ok (.invokevirtual 202, 3) := by decide +kernel
theorem dX10_falls_36 : decode cX10_falls 36 = .ok (.iload_n 2, 1) := by decide +kernel
theorem dX10_falls_37 : decode cX10_falls 37 = .ok (.ireturn, 1) := by decide +kernel
theorem dX10_digs_0 : decode cX10_digs 0 = .ok (.aload_n 0, 1) := by decide +kernel
theorem dX10_digs_1 : decode cX10_digs 1 = .ok (.getfield 33, 3) := by decide +kernel
theorem dX10_digs_4 : decode cX10_digs 4 = .ok (.aload_n 0, 1) := by decide +kernel
theorem dX10_digs_5 : decode cX10_digs 5 = .ok (.getfield 19, 3) := by decide +kernel
theorem dX10_digs_8 : decode cX10_digs 8 = .ok (.getfield 129, 3) := by decide +kernel
theorem dX10_digs_11 : decode cX10_digs 11 = .ok (.invokevirtual 181, 3) := by decide +kernel
theorem dX10_digs_14 : decode cX10_digs 14 = .ok (.aload_n 0, 1) := by decide +kernel
theorem dX10_digs_15 : decode cX10_digs 15 = .ok (.iload_n 1, 1) := by decide +kernel
theorem dX10_digs_16 : decode cX10_digs 16 = .ok (.iload_n 2, 1) := by decide +kernel
theorem dX10_digs_17 : decode cX10_digs 17 = .ok (.iload_n 3, 1) := by decide +kernel
theorem dX10_digs_18 : decode cX10_digs 18 = .ok (.invokevirtual 212, 3) := by decide +kernel
theorem dX10_digs_21 : decode cX10_digs 21 = .ok (.istore 4, 2) := by decide +kernel
theorem dX10_digs_23 : decode cX10_digs 23 = .ok (.aload_n 0, 1) := by decide +kernel
theorem dX10_digs_24 : decode cX10_digs 24 = .ok (.getfield 33, 3) := by decide +kernel
theorem dX10_digs_27 : decode cX10_digs 27 = .ok (.iload 4, 2) := by decide +kernel
theorem dX10_digs_29 : decode cX10_digs 29 = .ok (.ifCond .lt 7, 3) := by decide +kernel
theorem dX10_digs_32 : decode cX10_digs 32 = .ok (.iconst 1, 1) := by decide +kernel
theorem dX10_digs_33 : decode cX10_digs 33 = .ok (.goto 4, 3) := by decide +kernel
theorem dX10_digs_36 : decode cX10_digs 36 = .ok (.iconst 0, 1) := by decide +kernel
theorem dX10_digs_37 : decode cX10_digs 37 = .ok (.invokevirtual 202, 3) := by decide +kernel
theorem dX10_digs_40 : decode cX10_digs 40 = .ok (.iload 4, 2) := by decide +kernel
theorem dX10_digs_42 : decode cX10_digs 42 = .ok (.ireturn, 1) := by decide +kernel
theorem dX10_season_0 : decode cX10_season 0 = .ok (.aload_n 0, 1) := by decide +kernel
theorem dX10_season_1 : decode cX10_season 1 = .ok (.getfield 10, 3) := by decide +kernel
theorem dX10_season_4 : decode cX10_season 4 = .ok (.invokevirtual 216, 3) := by decide +kernel
theorem dX10_season_7 : decode cX10_season 7 = .ok (.istore_n 1, 1) := by decide +kernel
theorem dX10_season_8 : decode cX10_season 8 = .ok (.iload_n 1, 1) := by decide +kernel
theorem dX10_season_9 : decode cX10_season 9 = .ok (.iconst (-1), 1) := by decide +kernel
theorem dX10_season_10 : decode cX10_season 10 = .ok (.if_icmp .eq 15, 3) := by decide +kernel
theorem dX10_season_13 : decode cX10_season 13 = .ok (.aload_n 0, 1) := by decide +kernel
theorem dX10_season_14 : decode cX10_season 14 = .ok (.getfield 10, 3) := by decide +kernel
theorem dX10_season_17 : decode cX10_season 17 = .ok (.iconst 0, 1) := by decide +kernel
theorem dX10_season_18 : decode cX10_season 18 = .ok (.putfield 88, 3) := by decide +kernel
theorem dX10_season_21 : decode cX10_season 21 = .ok (.iconst (-1), 1) := by decide +kernel
theorem dX10_season_22 : decode cX10_season 22 = .ok (.iload_n 1, 1) := by decide +kernel
theorem dX10_season_23 : decode cX10_season 23 = .ok (.isub, 1) := by decide +kernel
theorem dX10_season_24 : decode cX10_season 24 = .ok (.ireturn, 1) := by decide +kernel
theorem dX10_season_25 : decode cX10_season 25 = .ok (.aload_n 0, 1) := by decide +kernel
theorem dX10_season_26 : decode cX10_season 26 = .ok (.getfield 33, 3) := by decide +kernel
theorem dX10_season_29 : decode cX10_season 29 = .ok (.aload_n 0, 1) := by decide +kernel
theorem dX10_season_30 : decode cX10_season 30 = .ok (.getfield 19, 3) := by decide +kernel
theorem dX10_season_33 : decode cX10_season 33 = .ok (.getfield 129, 3) := by decide +kernel
theorem dX10_season_36 : decode cX10_season 36 = .ok (.invokevirtual 181, 3) := by decide +kernel
theorem dX10_season_39 : decode cX10_season 39 = .ok (.iconst 0, 1) := by decide +kernel
theorem dX10_season_40 : decode cX10_season 40 = .ok (.istore_n 2, 1) := by decide +kernel
theorem dX10_season_41 : decode cX10_season 41 = .ok (.iconst 0, 1) := by decide +kernel
theorem dX10_season_42 : decode cX10_season 42 = .ok (.istore_n 3, 1) := by decide +kernel
theorem dX10_season_43 : decode cX10_season 43 = .ok (.iconst 0, 1) := by decide +kernel
theorem dX10_season_44 : decode cX10_season 44 = .ok (.istore 4, 2) := by decide +kernel
theorem dX10_season_46 : decode cX10_season 46 = .ok (.iload 4, 2) := by decide +kernel
theorem dX10_season_48 : decode cX10_season 48 = .ok (.aload_n 0, 1) := by decide +kernel
theorem dX10_season_49 : decode cX10_season 49 = .ok (.getfield 10, 3) := by decide +kernel
theorem dX10_season_52 : decode cX10_season 52 = .ok (.getfield 88, 3) := by decide +kernel
theorem dX10_season_55 : decode cX10_season 55 = .ok (.if_icmp .ge 55, 3) := by decide +kernel
theorem dX10_season_58 : decode cX10_season 58 = .ok (.iload_n 3, 1) := by decide +kernel
theorem dX10_season_59 : decode cX10_season 59 = .ok (.ifCond .ne 51, 3) := by decide +kernel
theorem dX10_season_62 : decode cX10_season 62 = .ok (.aload_n 0, 1) := by decide +kernel
theorem dX10_season_63 : decode cX10_season 63 = .ok (.iload 4, 2) := by decide +kernel
theorem dX10_season_65 : decode cX10_season 65 = .ok (.invokevirtual 219, 3) := by decide +kernel
theorem dX10_season_68 : decode cX10_season 68 = .ok (.ifCond .ge 7, 3) := by decide +kernel
theorem dX10_season_71 : decode cX10_season 71 = .ok (.iconst 1, 1) := by decide +kernel
theorem dX10_season_72 : decode cX10_season 72 = .ok (.goto 4, 3) := by decide +kernel
theorem dX10_season_75 : decode cX10_season 75 = .ok (.iconst 0, 1) := by decide +kernel
theorem dX10_season_76 : decode cX10_season 76 = .ok (.istore_n 3, 1) := by decide +kernel
theorem dX10_season_77 : decode cX10_season 77 = .ok (.iload_n 2, 1) := by decide +kernel
theorem dX10_season_78 : decode cX10_season 78 = .ok (.iload_n 3, 1) := by decide +kernel
theorem dX10_season_79 : decode cX10_season 79 = .ok (.ifCond .eq 7, 3) := by decide +kernel
theorem dX10_season_82 : decode cX10_season 82 = .ok (.iconst 0, 1) := by decide +kernel
theorem dX10_season_83 : decode cX10_season 83 = .ok (.goto 4, 3) := by decide +kernel
theorem dX10_season_86 : decode cX10_season 86 = .ok (.iconst 1, 1) := by decide +kernel
theorem dX10_season_87 : decode cX10_season 87 = .ok (.iadd, 1) := by decide +kernel
theorem dX10_season_88 : decode cX10_season 88 = .ok (.istore_n 2, 1) := by decide +kernel
theorem dX10_season_89 : decode cX10_season 89 = .ok (.iload 4, 2) := by decide +kernel
theorem dX10_season_91 : decode cX10_season 91 = .ok (.iconst 1, 1) := by decide +kernel
theorem dX10_season_92 : decode cX10_season 92 = .ok (.aload_n 0, 1) := by decide +kernel
theorem dX10_season_93 : decode cX10_season 93 = .ok (.getfield 10, 3) := by decide +kernel
theorem dX10_season_96 : decode cX10_season 96 = .ok (.iload 4, 2) := by decide +kernel
theorem dX10_season_98 : decode cX10_season 98 = .ok (.invokevirtual 222, 3) := by decide +kernel
theorem dX10_season_101 : decode cX10_season 101 = .ok (.invokestatic 175, 3) := by decide +kernel
theorem dX10_season_104 : decode cX10_season 104 = .ok (.iadd, 1) := by decide +kernel
theorem dX10_season_105 : decode cX10_season 105 = .ok (.istore 4, 2) := by decide +kernel
theorem dX10_season_107 : decode cX10_season 107 = .ok (.goto (-61), 3) := by decide +kernel
theorem dX10_season_110 : decode cX10_season 110 = .ok (.aload_n 0, 1) := by decide +kernel
theorem dX10_season_111 : decode cX10_season 111 = .ok (.getfield 10, 3) := by decide +kernel
theorem dX10_season_114 : decode cX10_season 114 = .ok (.iconst 0, 1) := by decide +kernel
theorem dX10_season_115 : decode cX10_season 115 = .ok (.putfield 88, 3) := by decide +kernel
theorem dX10_season_118 : decode cX10_season 118 = .ok (.aload_n 0, 1) := by decide +kernel
theorem dX10_season_119 : decode cX10_season 119 = .ok (.getfield 33, 3) := by decide +kernel
theorem dX10_season_122 : decode cX10_season 122 = .ok (.iload_n 2, 1) := by decide +kernel
theorem dX10_season_123 : decode cX10_season 123 = .ok (.ifCond .le 7, 3) := by decide +kernel
theorem dX10_season_126 : decode cX10_season 126 = .ok (.iconst 1, 1) := by decide +kernel
theorem dX10_season_127 : decode cX10_season 127 = .ok (.goto 4, 3) := by decide +kernel
theorem dX10_season_130 : decode cX10_season 130 = .ok (.iconst 0, 1) := by decide +kernel
theorem dX10_season_131 : decode cX10_season 131 = .ok (.invokevirtual 202, 3) := by decide +kernel
theorem dX10_season_134 : decode cX10_season 134 = .ok (.aload_n 0, 1) := by decide +kernel
theorem dX10_season_135 : decode cX10_season 135 = .ok (.getfield 26, 3) := by decide +kernel
theorem dX10_season_138 : decode cX10_season 138 = .ok (.invokevirtual 185, 3) := by decide +kernel
theorem dX10_season_141 : decode cX10_season 141 = .ok (.aload_n 0, 1) := by decide +kernel
theorem dX10_season_142 : decode cX10_season 142 = .ok (.getfield 26, 3) := by decide +kernel
theorem dX10_season_145 : decode cX10_season 145 = .ok (.iload_n 3, 1) := by decide +kernel
theorem dX10_season_146 : decode cX10_season 146 = .ok (.ifCond .eq 7, 3) := by decide +kernel
theorem dX10_season_149 : decode cX10_season 149 = .ok (.lconst 1, 1) := by decide +kernel
theorem dX10_season_150 : decode cX10_season 150 = .ok (.goto 4, 3) := by decide +kernel
theorem dX10_season_153 : decode cX10_season 153 = .ok (.lconst 0, 1) := by decide +kernel
theorem dX10_season_154 : decode cX10_season 154 = .ok (.invokevirtual 191, 3) := by decide +kernel
theorem dX10_season_157 : decode cX10_season 157 = .ok (.aload_n 0, 1) := by decide +kernel
theorem dX10_season_158 : decode cX10_season 158 = .ok (.getfield 26, 3) := by decide +kernel
theorem dX10_season_161 : decode cX10_season 161 = .ok (.aload_n 0, 1) := by decide +kernel
theorem dX10_season_162 : decode cX10_season 162 = .ok (.getfield 19, 3) := by decide +kernel
theorem dX10_season_165 : decode cX10_season 165 = .ok (.getfield 129, 3) := by decide +kernel
theorem dX10_season_168 : decode cX10_season 168 = .ok (.getfield 225, 3) := by decide +kernel
theorem dX10_season_171 : decode cX10_season 171 = .ok (.i2l, 1) := by decide +kernel
theorem dX10_season_172 : decode cX10_season 172 = .ok (.invokevirtual 191, 3) := by decide +kernel
theorem dX10_season_175 : decode cX10_season 175 = .ok (.iload_n 2, 1) := by decide +kernel
theorem dX10_season_176 : decode cX10_season 176 = .ok (.ireturn, 1) := by decide +kernel
theorem dX10_undo_0 : decode cX10_undo 0 = .ok (.aload_n 0, 1) := by decide +kernel
theorem dX10_undo_1 : decode cX10_undo 1 = .ok (.getfield 33, 3) := by decide +kernel
theorem dX10_undo_4 : decode cX10_undo 4 = .ok (.getfield 228, 3) := by decide +kernel
theorem dX10_undo_7 : decode cX10_undo 7 = .ok (.ifCond .ne 5, 3) := by decide +kernel
theorem dX10_undo_10 : decode cX10_undo 10 = .ok (.iconst (-1), 1) := by decide +kernel
theorem dX10_undo_11 : decode cX10_undo 11 = .ok (.ireturn, 1) := by decide +kernel
theorem dX10_undo_12 : decode cX10_undo 12 = .ok (.aload_n 0, 1) := by decide +kernel
theorem dX10_undo_13 : decode cX10_undo 13 = .ok (.getfield 19, 3) := by decide +kernel
theorem dX10_undo_16 : decode cX10_undo 16 = .ok (.getfield 129, 3) := by decide +kernel
theorem dX10_undo_19 : decode cX10_undo 19 = .ok (.aload_n 0, 1) := by decide +kernel
theorem dX10_undo_20 : decode cX10_undo 20 = .ok (.getfield 33, 3) := by decide +kernel
theorem dX10_undo_23 : decode cX10_undo 23 = .ok (.invokevirtual 229, 3) := by decide +kernel
theorem dX10_undo_26 : decode cX10_undo 26 = .ok (.invokevirtual 233, 3) := by decide +kernel
theorem dX10_undo_29 : decode cX10_undo 29 = .ok (.aload_n 0, 1) := by decide +kernel
theorem dX10_undo_30 : decode cX10_undo 30 = .ok (.getfield 33, 3) := by decide +kernel
theorem dX10_undo_33 : decode cX10_undo 33 = .ok (.getfield 228, 3) := by decide +kernel
theorem dX10_undo_36 : decode cX10_undo 36 = .ok (.ireturn, 1) := by decide +kernel
theorem dX10_refusalOfCall_0 : decode cX10_refusalOfCall 0 = .ok (.aload_n 0, 1) := by decide +kernel
theorem dX10_refusalOfCall_1 : decode cX10_refusalOfCall 1 = .ok (.getfield 42, 3) := by decide +kernel
theorem dX10_refusalOfCall_4 : decode cX10_refusalOfCall 4 = .ok (.iload_n 1, 1) := by decide +kernel
theorem dX10_refusalOfCall_5 : decode cX10_refusalOfCall 5 = .ok (.iload_n 2, 1) := by decide +kernel
theorem dX10_refusalOfCall_6 : decode cX10_refusalOfCall 6 = .ok (.invokevirtual 236, 3) := by decide +kernel
theorem dX10_refusalOfCall_9 : decode cX10_refusalOfCall 9 = .ok (.ifCond .ne 6, 3) := by decide +kernel
theorem dX10_refusalOfCall_12 : decode cX10_refusalOfCall 12 = .ok (.bipush (-100), 2) := by decide +kernel
theorem dX10_refusalOfCall_14 : decode cX10_refusalOfCall 14 = .ok (.ireturn, 1) := by decide +kernel
theorem dX10_refusalOfCall_15 : decode cX10_refusalOfCall 15 = .ok (.aload_n 0, 1) := by decide +kernel
theorem dX10_refusalOfCall_16 : decode cX10_refusalOfCall 16 = .ok (.getfield 10, 3) := by decide +kernel
theorem dX10_refusalOfCall_19 : decode cX10_refusalOfCall 19 = .ok (.invokevirtual 240, 3) := by decide +kernel
theorem dX10_refusalOfCall_22 : decode cX10_refusalOfCall 22 = .ok (.istore_n 3, 1) := by decide +kernel
theorem dX10_refusalOfCall_23 : decode cX10_refusalOfCall 23 = .ok (.iload_n 3, 1) := by decide +kernel
theorem dX10_refusalOfCall_24 : decode cX10_refusalOfCall 24 = .ok (.iconst (-1), 1) := by decide +kernel
theorem dX10_refusalOfCall_25 : decode cX10_refusalOfCall 25 = .ok (.if_icmp .ne 7, 3) := by decide +kernel
theorem dX10_refusalOfCall_28 : decode cX10_refusalOfCall 28 = .ok (.iconst 0, 1) := by decide +kernel
theorem dX10_refusalOfCall_29 : decode cX10_refusalOfCall 29 = .ok (.goto 6, 3) := by decide +kernel
theorem dX10_refusalOfCall_32 : decode cX10_refusalOfCall 32 = .ok (.iconst (-1), 1) := by decide +kernel
theorem dX10_refusalOfCall_33 : decode cX10_refusalOfCall 33 = .ok (.iload_n 3, 1) := by decide +kernel
theorem dX10_refusalOfCall_34 : decode cX10_refusalOfCall 34 = .ok (.isub, 1) := by decide +kernel
theorem dX10_refusalOfCall_35 : decode cX10_refusalOfCall 35 = .ok (.ireturn, 1) := by decide +kernel
theorem dX10_putLetters_0 : decode cX10_putLetters 0 = .ok (.iconst 0, 1) := by decide +kernel
theorem dX10_putLetters_1 : decode cX10_putLetters 1 = .ok (.istore_n 2, 1) := by decide +kernel
theorem dX10_putLetters_2 : decode cX10_putLetters 2 = .ok (.iload_n 2, 1) := by decide +kernel
theorem dX10_putLetters_3 : decode cX10_putLetters 3 = .ok (.iload_n 1, 1) := by decide +kernel
theorem dX10_putLetters_4 : decode cX10_putLetters 4 = .ok (.if_icmp .ge 37, 3) := by decide +kernel
theorem dX10_putLetters_7 : decode cX10_putLetters 7 = .ok (.aload_n 0, 1) := by decide +kernel
theorem dX10_putLetters_8 : decode cX10_putLetters 8 = .ok (.getfield 26, 3) := by decide +kernel
theorem dX10_putLetters_11 : decode cX10_putLetters 11 = .ok (.aload_n 0, 1) := by decide +kernel
theorem dX10_putLetters_12 : decode cX10_putLetters 12 = .ok (.getfield 42, 3) := by decide +kernel
theorem dX10_putLetters_15 : decode cX10_putLetters 15 = .ok (.aload_n 0, 1) := by decide +kernel
theorem dX10_putLetters_16 : decode cX10_putLetters 16 = .ok (.getfield 70, 3) := by decide +kernel
theorem dX10_putLetters_19 : decode cX10_putLetters 19 = .ok (.aload_n 0, 1) := by decide +kernel
theorem dX10_putLetters_20 : decode cX10_putLetters 20 = .ok (.getfield 10, 3) := by decide +kernel
theorem dX10_putLetters_23 : decode cX10_putLetters 23 = .ok (.iload_n 2, 1) := by decide +kernel
theorem dX10_putLetters_24 : decode cX10_putLetters 24 = .ok (.invokevirtual 243, 3) := by decide +kernel
theorem dX10_putLetters_27 : decode cX10_putLetters 27 = .ok (.iload_n 2, 1) := by decide +kernel
theorem dX10_putLetters_28 : decode cX10_putLetters 28 = .ok (.invokevirtual 246, 3) := by decide +kernel
theorem dX10_putLetters_31 : decode cX10_putLetters 31 = .ok (.i2l, 1) := by decide +kernel
theorem dX10_putLetters_32 : decode cX10_putLetters 32 = .ok (.invokevirtual 191, 3) := by decide +kernel
theorem dX10_putLetters_35 : decode cX10_putLetters 35 = .ok (.iinc 2 1, 3) := by decide +kernel
theorem dX10_putLetters_38 : decode cX10_putLetters 38 = .ok (.goto (-36), 3) := by decide +kernel
theorem dX10_putLetters_41 : decode cX10_putLetters 41 = .ok (.return_, 1) := by decide +kernel
theorem dX10_wearByEcho_0 : decode cX10_wearByEcho 0 = .ok (.aload_n 0, 1) := by decide +kernel
theorem dX10_wearByEcho_1 : decode cX10_wearByEcho 1 = .ok (.getfield 19, 3) := by decide +kernel
theorem dX10_wearByEcho_4 : decode cX10_wearByEcho 4 = .ok (.aload_n 0, 1) := by decide +kernel
theorem dX10_wearByEcho_5 : decode cX10_wearByEcho 5 = .ok (.getfield 42, 3) := by decide +kernel
theorem dX10_wearByEcho_8 : decode cX10_wearByEcho 8 = .ok (.invokevirtual 250, 3) := by decide +kernel
theorem dX10_wearByEcho_11 : decode cX10_wearByEcho 11 = .ok (.aload_n 0, 1) := by decide +kernel
theorem dX10_wearByEcho_12 : decode cX10_wearByEcho 12 = .ok (.getfield 42, 3) := by decide +kernel
theorem dX10_wearByEcho_15 : decode cX10_wearByEcho 15 = .ok (.getfield 254, 3) := by decide +kernel
theorem dX10_wearByEcho_18 : decode cX10_wearByEcho 18 = .ok (.ireturn, 1) := by decide +kernel
theorem dX10_passHours_0 : decode cX10_passHours 0 = .ok (.iload_n 1, 1) := by decide +kernel
theorem dX10_passHours_1 : decode cX10_passHours 1 = .ok (.ifCond .lt 9, 3) := by decide +kernel
theorem dX10_passHours_4 : decode cX10_passHours 4 = .ok (.iload_n 1, 1) := by decide +kernel
theorem dX10_passHours_5 : decode cX10_passHours 5 = .ok (.bipush 60, 2) := by decide +kernel
theorem dX10_passHours_7 : decode cX10_passHours 7 = .ok (.if_icmp .le 5, 3) := by decide +kernel
theorem dX10_passHours_10 : decode cX10_passHours 10 = .ok (.iconst (-1), 1) := by decide +kernel
theorem dX10_passHours_11 : decode cX10_passHours 11 = .ok (.ireturn, 1) := by decide +kernel
theorem dX10_passHours_12 : decode cX10_passHours 12 = .ok (.aload_n 0, 1) := by decide +kernel
theorem dX10_passHours_13 : decode cX10_passHours 13 = .ok (.getfield 19, 3) := by decide +kernel
theorem dX10_passHours_16 : decode cX10_passHours 16 = .ok (.iload_n 1, 1) := by decide +kernel
theorem dX10_passHours_17 : decode cX10_passHours 17 = .ok (.invokevirtual 257, 3) := by decide +kernel
theorem dX10_passHours_20 : decode cX10_passHours 20 = .ok (.aload_n 0, 1) := by decide +kernel
theorem dX10_passHours_21 : decode cX10_passHours 21 = .ok (.getfield 19, 3) := by decide +kernel
theorem dX10_passHours_24 : decode cX10_passHours 24 = .ok (.invokevirtual 166, 3) := by decide +kernel
theorem dX10_passHours_27 : decode cX10_passHours 27 = .ok (.ireturn, 1) := by decide +kernel
theorem dX10_turnPassage_0 : decode cX10_turnPassage 0 = .ok (.aload_n 0, 1) := by decide +kernel
theorem dX10_turnPassage_1 : decode cX10_turnPassage 1 = .ok (.getfield 19, 3) := by decide +kernel
theorem dX10_turnPassage_4 : decode cX10_turnPassage 4 = .ok (.iload_n 1, 1) := by decide +kernel
theorem dX10_turnPassage_5 : decode cX10_turnPassage 5 = .ok (.invokevirtual 116, 3) := by decide +kernel
theorem dX10_turnPassage_8 : decode cX10_turnPassage 8 = .ok (.ifCond .ne 5, 3) := by decide +kernel
theorem dX10_turnPassage_11 : decode cX10_turnPassage 11 = .ok (.iconst (-1), 1) := by decide +kernel
theorem dX10_turnPassage_12 : decode cX10_turnPassage 12 = .ok (.ireturn, 1) := by decide +kernel
theorem dX10_turnPassage_13 : decode cX10_turnPassage 13 = .ok (.aload_n 0, 1) := by decide +kernel
theorem dX10_turnPassage_14 : decode cX10_turnPassage 14 = .ok (.getfield 19, 3) := by decide +kernel
theorem dX10_turnPassage_17 : decode cX10_turnPassage 17 = .ok (.getfield 129, 3) := by decide +kernel
theorem dX10_turnPassage_20 : decode cX10_turnPassage 20 = .ok (.dup, 1) := by decide +kernel
theorem dX10_turnPassage_21 : decode cX10_turnPassage 21 = .ok (.getfield 260, 3) := by decide +kernel
theorem dX10_turnPassage_24 : decode cX10_turnPassage 24 = .ok (.iconst 1, 1) := by decide +kernel
theorem dX10_turnPassage_25 : decode cX10_turnPassage 25 = .ok (.iload_n 1, 1) := by decide +kernel
theorem dX10_turnPassage_26 : decode cX10_turnPassage 26 = .ok (.ishl, 1) := by decide +kernel
theorem dX10_turnPassage_27 : decode cX10_turnPassage 27 = .ok (.ixor, 1) := by decide +kernel
theorem dX10_turnPassage_28 : decode cX10_turnPassage 28 = .ok (.putfield 260, 3) := by decide +kernel
theorem dX10_turnPassage_31 : decode cX10_turnPassage 31 = .ok (.aload_n 0, 1) := by decide +kernel
theorem dX10_turnPassage_32 : decode cX10_turnPassage 32 = .ok (.getfield 19, 3) := by decide +kernel
theorem dX10_turnPassage_35 : decode cX10_turnPassage 35 = .ok (.getfield 129, 3) := by decide +kernel
theorem dX10_turnPassage_38 : decode cX10_turnPassage 38 = .ok (.getfield 260, 3) := by decide +kernel
theorem dX10_turnPassage_41 : decode cX10_turnPassage 41 = .ok (.invokestatic 263, 3) := by decide +kernel
theorem dX10_turnPassage_44 : decode cX10_turnPassage 44 = .ok (.ireturn, 1) := by decide +kernel
theorem dX10_digPassage_0 : decode cX10_digPassage 0 = .ok (.aload_n 0, 1) := by decide +kernel
theorem dX10_digPassage_1 : decode cX10_digPassage 1 = .ok (.getfield 19, 3) := by decide +kernel
theorem dX10_digPassage_4 : decode cX10_digPassage 4 = .ok (.iload_n 1, 1) := by decide +kernel
theorem dX10_digPassage_5 : decode cX10_digPassage 5 = .ok (.invokevirtual 116, 3) := by decide +kernel
theorem dX10_digPassage_8 : decode cX10_digPassage 8 = .ok (.ifCond .eq 24, 3) := by decide +kernel
theorem dX10_digPassage_11 : decode cX10_digPassage 11 = .ok (.iload_n 2, 1) := by decide +kernel
theorem dX10_digPassage_12 : decode cX10_digPassage 12 = .ok (.iconst 1, 1) := by decide +kernel
theorem dX10_digPassage_13 : decode cX10_digPassage 13 = .ok (.if_icmp .lt 19, 3) := by decide +kernel
theorem dX10_digPassage_16 : decode cX10_digPassage 16 = .ok (.iload_n 2, 1) := by decide +kernel
theorem dX10_digPassage_17 : decode cX10_digPassage 17 = .ok (.bipush 9, 2) := by decide +kernel
theorem dX10_digPassage_19 : decode cX10_digPassage 19 = .ok (.if_icmp .gt 13, 3) := by decide +kernel
theorem dX10_digPassage_22 : decode cX10_digPassage 22 = .ok (.iload_n 3, 1) := by decide +kernel
theorem dX10_digPassage_23 : decode cX10_digPassage 23 = .ok (.ifCond .lt 9, 3) := by decide +kernel
theorem dX10_digPassage_26 : decode cX10_digPassage 26 = .ok (.iload_n 3, 1) := by decide +kernel
theorem dX10_digPassage_27 : decode cX10_digPassage 27 = .ok (.bipush 9, 2) := by decide +kernel
theorem dX10_digPassage_29 : decode cX10_digPassage 29 = .ok (.if_icmp .le 5, 3) := by decide +kernel
theorem dX10_digPassage_32 : decode cX10_digPassage 32 = .ok (.iconst (-1), 1) := by decide +kernel
theorem dX10_digPassage_33 : decode cX10_digPassage 33 = .ok (.ireturn, 1) := by decide +kernel
theorem dX10_digPassage_34 : decode cX10_digPassage 34 = .ok (.aload_n 0, 1) := by decide +kernel
theorem dX10_digPassage_35 : decode cX10_digPassage 35 = .ok (.getfield 19, 3) := by decide +kernel
theorem dX10_digPassage_38 : decode cX10_digPassage 38 = .ok (.getfield 129, 3) := by decide +kernel
theorem dX10_digPassage_41 : decode cX10_digPassage 41 = .ok (.getfield 133, 3) := by decide +kernel
theorem dX10_digPassage_44 : decode cX10_digPassage 44 = .ok (.iload_n 1, 1) := by decide +kernel
theorem dX10_digPassage_45 : decode cX10_digPassage 45 = .ok (.iaload, 1) := by decide +kernel
theorem dX10_digPassage_46 : decode cX10_digPassage 46 = .ok (.istore 4, 2) := by decide +kernel
theorem dX10_digPassage_48 : decode cX10_digPassage 48 = .ok (.aload_n 0, 1) := by decide +kernel
theorem dX10_digPassage_49 : decode cX10_digPassage 49 = .ok (.getfield 19, 3) := by decide +kernel
theorem dX10_digPassage_52 : decode cX10_digPassage 52 = .ok (.getfield 129, 3) := by decide +kernel
theorem dX10_digPassage_55 : decode cX10_digPassage 55 = .ok (.getfield 138, 3) := by decide +kernel
theorem dX10_digPassage_58 : decode cX10_digPassage 58 = .ok (.iload_n 1, 1) := by decide +kernel
theorem dX10_digPassage_59 : decode cX10_digPassage 59 = .ok (.iaload, 1) := by decide +kernel
theorem dX10_digPassage_60 : decode cX10_digPassage 60 = .ok (.istore 5, 2) := by decide +kernel
theorem dX10_digPassage_62 : decode cX10_digPassage 62 = .ok (.iload 4, 2) := by decide +kernel
theorem dX10_digPassage_64 : decode cX10_digPassage 64 = .ok (.iload_n 2, 1) := by decide +kernel
theorem dX10_digPassage_65 : decode cX10_digPassage 65 = .ok (.if_icmp .ne 12, 3) := by decide +kernel
theorem dX10_digPassage_68 : decode cX10_digPassage 68 = .ok (.iload 5, 2) := by decide +kernel
theorem dX10_digPassage_70 : decode cX10_digPassage 70 = .ok (.iload_n 3, 1) := by decide +kernel
theorem dX10_digPassage_71 : decode cX10_digPassage 71 = .ok (.if_icmp .ne 6, 3) := by decide +kernel
theorem dX10_digPassage_74 : decode cX10_digPassage 74 = .ok (.bipush (-2), 2) := by decide +kernel
theorem dX10_digPassage_76 : decode cX10_digPassage 76 = .ok (.ireturn, 1) := by decide +kernel
theorem dX10_digPassage_77 : decode cX10_digPassage 77 = .ok (.aload_n 0, 1) := by decide +kernel
theorem dX10_digPassage_78 : decode cX10_digPassage 78 = .ok (.getfield 19, 3) := by decide +kernel
theorem dX10_digPassage_81 : decode cX10_digPassage 81 = .ok (.getfield 129, 3) := by decide +kernel
theorem dX10_digPassage_84 : decode cX10_digPassage 84 = .ok (.getfield 133, 3) := by decide +kernel
theorem dX10_digPassage_87 : decode cX10_digPassage 87 = .ok (.iload_n 1, 1) := by decide +kernel
theorem dX10_digPassage_88 : decode cX10_digPassage 88 = .ok (.iload_n 2, 1) := by decide +kernel
theorem dX10_digPassage_89 : decode cX10_digPassage 89 = .ok (.iastore, 1) := by decide +kernel
theorem dX10_digPassage_90 : decode cX10_digPassage 90 = .ok (.aload_n 0, 1) := by decide +kernel
theorem dX10_digPassage_91 : decode cX10_digPassage 91 = .ok (.getfield 19, 3) := by decide +kernel
theorem dX10_digPassage_94 : decode cX10_digPassage 94 = .ok (.getfield 129, 3) := by decide +kernel
theorem dX10_digPassage_97 : decode cX10_digPassage 97 = .ok (.getfield 138, 3) := by decide +kernel
theorem dX10_digPassage_100 : decode cX10_digPassage 100 = .ok (.iload_n 1, 1) := by decide +kernel
theorem dX10_digPassage_101 : decode cX10_digPassage 101 = .ok (.iload_n 3, 1) := by decide +kernel
theorem dX10_digPassage_102 : decode cX10_digPassage 102 = .ok (.iastore, 1) := by decide +kernel
theorem dX10_digPassage_103 : decode cX10_digPassage 103 = .ok (.bipush 100, 2) := by decide +kernel
theorem dX10_digPassage_105 : decode cX10_digPassage 105 = .ok (.bipush 10, 2) := by decide +kernel
theorem dX10_digPassage_107 : decode cX10_digPassage 107 = .ok (.iload 4, 2) := by decide +kernel
theorem dX10_digPassage_109 : decode cX10_digPassage 109 = .ok (.imul, 1) := by decide +kernel
theorem dX10_digPassage_110 : decode cX10_digPassage 110 = .ok (.iadd, 1) := by decide +kernel
theorem dX10_digPassage_111 : decode cX10_digPassage 111 = .ok (.iload 5, 2) := by decide +kernel
theorem dX10_digPassage_113 : decode cX10_digPassage 113 = .ok (.iadd, 1) := by decide +kernel
theorem dX10_digPassage_114 : decode cX10_digPassage 114 = .ok (.ireturn, 1) := by decide +kernel
theorem dX10_doAct_0 : decode cX10_doAct 0 = .ok (.aload_n 0, 1) := by decide +kernel
theorem dX10_doAct_1 : decode cX10_doAct 1 = .ok (.getfield 10, 3) := by decide +kernel
theorem dX10_doAct_4 : decode cX10_doAct 4 = .ok (.getfield 91, 3) := by decide +kernel
theorem dX10_doAct_7 : decode cX10_doAct 7 = .ok (.iload_n 1, 1) := by decide +kernel
theorem dX10_doAct_8 : decode cX10_doAct 8 = .ok (.caload, 1) := by decide +kernel
theorem dX10_doAct_9 : decode cX10_doAct 9 = .ok (.lookupswitch 100 #[(109, 65), (110, 35), (120, 50)], 35) := by decide +kernel
theorem dX10_doAct_44 : decode cX10_doAct 44 = .ok (.aload_n 0, 1) := by decide +kernel
theorem dX10_doAct_45 : decode cX10_doAct 45 = .ok (.aload_n 0, 1) := by decide +kernel
theorem dX10_doAct_46 : decode cX10_doAct 46 = .ok (.getfield 10, 3) := by decide +kernel
theorem dX10_doAct_49 : decode cX10_doAct 49 = .ok (.iload_n 1, 1) := by decide +kernel
theorem dX10_doAct_50 : decode cX10_doAct 50 = .ok (.iconst 1, 1) := by decide +kernel
theorem dX10_doAct_51 : decode cX10_doAct 51 = .ok (.iadd, 1) := by decide +kernel
theorem dX10_doAct_52 : decode cX10_doAct 52 = .ok (.invokevirtual 102, 3) := by decide +kernel
theorem dX10_doAct_55 : decode cX10_doAct 55 = .ok (.invokevirtual 206, 3) := by decide +kernel
theorem dX10_doAct_58 : decode cX10_doAct 58 = .ok (.ireturn, 1) := by decide +kernel
theorem dX10_doAct_59 : decode cX10_doAct 59 = .ok (.aload_n 0, 1) := by decide +kernel
theorem dX10_doAct_60 : decode cX10_doAct 60 = .ok (.aload_n 0, 1) := by decide +kernel
theorem dX10_doAct_61 : decode cX10_doAct 61 = .ok (.getfield 10, 3) := by decide +kernel
theorem dX10_doAct_64 : decode cX10_doAct 64 = .ok (.iload_n 1, 1) := by decide +kernel
theorem dX10_doAct_65 : decode cX10_doAct 65 = .ok (.iconst 1, 1) := by decide +kernel
theorem dX10_doAct_66 : decode cX10_doAct 66 = .ok (.iadd, 1) := by decide +kernel
theorem dX10_doAct_67 : decode cX10_doAct 67 = .ok (.invokevirtual 102, 3) := by decide +kernel
theorem dX10_doAct_70 : decode cX10_doAct 70 = .ok (.invokevirtual 209, 3) := by decide +kernel
theorem dX10_doAct_73 : decode cX10_doAct 73 = .ok (.ireturn, 1) := by decide +kernel
theorem dX10_doAct_74 : decode cX10_doAct 74 = .ok (.aload_n 0, 1) := by decide +kernel
theorem dX10_doAct_75 : decode cX10_doAct 75 = .ok (.aload_n 0, 1) := by decide +kernel
theorem dX10_doAct_76 : decode cX10_doAct 76 = .ok (.getfield 10, 3) := by decide +kernel
theorem dX10_doAct_79 : decode cX10_doAct 79 = .ok (.iload_n 1, 1) := by decide +kernel
theorem dX10_doAct_80 : decode cX10_doAct 80 = .ok (.iconst 1, 1) := by decide +kernel
theorem dX10_doAct_81 : decode cX10_doAct 81 = .ok (.iadd, 1) := by decide +kernel
theorem dX10_doAct_82 : decode cX10_doAct 82 = .ok (.invokevirtual 102, 3) := by decide +kernel
theorem dX10_doAct_85 : decode cX10_doAct 85 = .ok (.aload_n 0, 1) := by decide +kernel
theorem dX10_doAct_86 : decode cX10_doAct 86 = .ok (.getfield 10, 3) := by decide +kernel
theorem dX10_doAct_89 : decode cX10_doAct 89 = .ok (.iload_n 1, 1) := by decide +kernel
theorem dX10_doAct_90 : decode cX10_doAct 90 = .ok (.iconst 2, 1) := by decide +kernel
theorem dX10_doAct_91 : decode cX10_doAct 91 = .ok (.iadd, 1) := by decide +kernel
theorem dX10_doAct_92 : decode cX10_doAct 92 = .ok (.invokevirtual 102, 3) := by decide +kernel
theorem dX10_doAct_95 : decode cX10_doAct 95 = .ok (.aload_n 0, 1) := by decide +kernel
theorem dX10_doAct_96 : decode cX10_doAct 96 = .ok (.getfield 10, 3) := by decide +kernel
theorem dX10_doAct_99 : decode cX10_doAct 99 = .ok (.iload_n 1, 1) := by decide +kernel
theorem dX10_doAct_100 : decode cX10_doAct 100 = .ok (.iconst 3, 1) := by decide +kernel
theorem dX10_doAct_101 : decode cX10_doAct 101 = .ok (.iadd, 1) := by decide +kernel
theorem dX10_doAct_102 : decode cX10_doAct 102 = .ok (.invokevirtual 102, 3) := by decide +kernel
theorem dX10_doAct_105 : decode cX10_doAct 105 = .ok (.invokevirtual 212, 3) := by decide +kernel
theorem dX10_doAct_108 : decode cX10_doAct 108 = .ok (.ireturn, 1) := by decide +kernel
theorem dX10_doAct_109 : decode cX10_doAct 109 = .ok (.aload_n 0, 1) := by decide +kernel
theorem dX10_doAct_110 : decode cX10_doAct 110 = .ok (.getfield 42, 3) := by decide +kernel
theorem dX10_doAct_113 : decode cX10_doAct 113 = .ok (.aload_n 0, 1) := by decide +kernel
theorem dX10_doAct_114 : decode cX10_doAct 114 = .ok (.getfield 10, 3) := by decide +kernel
theorem dX10_doAct_117 : decode cX10_doAct 117 = .ok (.iload_n 1, 1) := by decide +kernel
theorem dX10_doAct_118 : decode cX10_doAct 118 = .ok (.iconst 1, 1) := by decide +kernel
theorem dX10_doAct_119 : decode cX10_doAct 119 = .ok (.iadd, 1) := by decide +kernel
theorem dX10_doAct_120 : decode cX10_doAct 120 = .ok (.invokevirtual 102, 3) := by decide +kernel
theorem dX10_doAct_123 : decode cX10_doAct 123 = .ok (.aload_n 0, 1) := by decide +kernel
theorem dX10_doAct_124 : decode cX10_doAct 124 = .ok (.getfield 10, 3) := by decide +kernel
theorem dX10_doAct_127 : decode cX10_doAct 127 = .ok (.iload_n 1, 1) := by decide +kernel
theorem dX10_doAct_128 : decode cX10_doAct 128 = .ok (.iconst 2, 1) := by decide +kernel
theorem dX10_doAct_129 : decode cX10_doAct 129 = .ok (.iadd, 1) := by decide +kernel
theorem dX10_doAct_130 : decode cX10_doAct 130 = .ok (.invokevirtual 102, 3) := by decide +kernel
theorem dX10_doAct_133 : decode cX10_doAct 133 = .ok (.invokevirtual 236, 3) := by decide +kernel
theorem dX10_doAct_136 : decode cX10_doAct 136 = .ok (.ifCond .eq 10, 3) := by decide +kernel
theorem dX10_doAct_139 : decode cX10_doAct 139 = .ok (.aload_n 0, 1) := by decide +kernel
theorem dX10_doAct_140 : decode cX10_doAct 140 = .ok (.invokevirtual 199, 3) := by decide +kernel
theorem dX10_doAct_143 : decode cX10_doAct 143 = .ok (.goto 5, 3) := by decide +kernel
theorem dX10_doAct_146 : decode cX10_doAct 146 = .ok (.bipush (-100), 2) := by decide +kernel
theorem dX10_doAct_148 : decode cX10_doAct 148 = .ok (.ireturn, 1) := by decide +kernel
theorem dX10_route_0 : decode cX10_route 0 = .ok (.aload_n 0, 1) := by decide +kernel
theorem dX10_route_1 : decode cX10_route 1 = .ok (.getfield 42, 3) := by decide +kernel
theorem dX10_route_4 : decode cX10_route 4 = .ok (.iload_n 1, 1) := by decide +kernel
theorem dX10_route_5 : decode cX10_route 5 = .ok (.iload_n 2, 1) := by decide +kernel
theorem dX10_route_6 : decode cX10_route 6 = .ok (.invokevirtual 236, 3) := by decide +kernel
theorem dX10_route_9 : decode cX10_route 9 = .ok (.ifCond .ne 5, 3) := by decide +kernel
theorem dX10_route_12 : decode cX10_route 12 = .ok (.iconst (-1), 1) := by decide +kernel
theorem dX10_route_13 : decode cX10_route 13 = .ok (.ireturn, 1) := by decide +kernel
theorem dX10_route_14 : decode cX10_route 14 = .ok (.aload_n 0, 1) := by decide +kernel
theorem dX10_route_15 : decode cX10_route 15 = .ok (.getfield 26, 3) := by decide +kernel
theorem dX10_route_18 : decode cX10_route 18 = .ok (.invokevirtual 185, 3) := by decide +kernel
theorem dX10_route_21 : decode cX10_route 21 = .ok (.aload_n 0, 1) := by decide +kernel
theorem dX10_route_22 : decode cX10_route 22 = .ok (.getfield 26, 3) := by decide +kernel
theorem dX10_route_25 : decode cX10_route 25 = .ok (.aload_n 0, 1) := by decide +kernel
theorem dX10_route_26 : decode cX10_route 26 = .ok (.getfield 42, 3) := by decide +kernel
theorem dX10_route_29 : decode cX10_route 29 = .ok (.getfield 188, 3) := by decide +kernel
theorem dX10_route_32 : decode cX10_route 32 = .ok (.i2l, 1) := by decide +kernel
theorem dX10_route_33 : decode cX10_route 33 = .ok (.invokevirtual 191, 3) := by decide +kernel
theorem dX10_route_36 : decode cX10_route 36 = .ok (.iconst 0, 1) := by decide +kernel
theorem dX10_route_37 : decode cX10_route 37 = .ok (.istore_n 3, 1) := by decide +kernel
theorem dX10_route_38 : decode cX10_route 38 = .ok (.iload_n 3, 1) := by decide +kernel
theorem dX10_route_39 : decode cX10_route 39 = .ok (.aload_n 0, 1) := by decide +kernel
theorem dX10_route_40 : decode cX10_route 40 = .ok (.getfield 42, 3) := by decide +kernel
theorem dX10_route_43 : decode cX10_route 43 = .ok (.getfield 268, 3) := by decide +kernel
theorem dX10_route_46 : decode cX10_route 46 = .ok (.if_icmp .ge 26, 3) := by decide +kernel
theorem dX10_route_49 : decode cX10_route 49 = .ok (.aload_n 0, 1) := by decide +kernel
theorem dX10_route_50 : decode cX10_route 50 = .ok (.getfield 26, 3) := by decide +kernel
theorem dX10_route_53 : decode cX10_route 53 = .ok (.aload_n 0, 1) := by decide +kernel
theorem dX10_route_54 : decode cX10_route 54 = .ok (.getfield 42, 3) := by decide +kernel
theorem dX10_route_57 : decode cX10_route 57 = .ok (.getfield 269, 3) := by decide +kernel
theorem dX10_route_60 : decode cX10_route 60 = .ok (.iload_n 3, 1) := by decide +kernel
theorem dX10_route_61 : decode cX10_route 61 = .ok (.iaload, 1) := by decide +kernel
theorem dX10_route_62 : decode cX10_route 62 = .ok (.i2l, 1) := by decide +kernel
theorem dX10_route_63 : decode cX10_route 63 = .ok (.invokevirtual 191, 3) := by decide +kernel
theorem dX10_route_66 : decode cX10_route 66 = .ok (.iinc 3 1, 3) := by decide +kernel
theorem dX10_route_69 : decode cX10_route 69 = .ok (.goto (-31), 3) := by decide +kernel
theorem dX10_route_72 : decode cX10_route 72 = .ok (.aload_n 0, 1) := by decide +kernel
theorem dX10_route_73 : decode cX10_route 73 = .ok (.getfield 42, 3) := by decide +kernel
theorem dX10_route_76 : decode cX10_route 76 = .ok (.getfield 254, 3) := by decide +kernel
theorem dX10_route_79 : decode cX10_route 79 = .ok (.ireturn, 1) := by decide +kernel
theorem dX10_hears_0 : decode cX10_hears 0 = .ok (.aload_n 0, 1) := by decide +kernel
theorem dX10_hears_1 : decode cX10_hears 1 = .ok (.iload_n 1, 1) := by decide +kernel
theorem dX10_hears_2 : decode cX10_hears 2 = .ok (.iload_n 2, 1) := by decide +kernel
theorem dX10_hears_3 : decode cX10_hears 3 = .ok (.invokevirtual 178, 3) := by decide +kernel
theorem dX10_hears_6 : decode cX10_hears 6 = .ok (.istore_n 3, 1) := by decide +kernel
theorem dX10_hears_7 : decode cX10_hears 7 = .ok (.aload_n 0, 1) := by decide +kernel
theorem dX10_hears_8 : decode cX10_hears 8 = .ok (.getfield 10, 3) := by decide +kernel
theorem dX10_hears_11 : decode cX10_hears 11 = .ok (.getfield 88, 3) := by decide +kernel
theorem dX10_hears_14 : decode cX10_hears 14 = .ok (.istore 4, 2) := by decide +kernel
theorem dX10_hears_16 : decode cX10_hears 16 = .ok (.aload_n 0, 1) := by decide +kernel
theorem dX10_hears_17 : decode cX10_hears 17 = .ok (.getfield 10, 3) := by decide +kernel
theorem dX10_hears_20 : decode cX10_hears 20 = .ok (.iconst 0, 1) := by decide +kernel
theorem dX10_hears_21 : decode cX10_hears 21 = .ok (.putfield 88, 3) := by decide +kernel
theorem dX10_hears_24 : decode cX10_hears 24 = .ok (.iload_n 3, 1) := by decide +kernel
theorem dX10_hears_25 : decode cX10_hears 25 = .ok (.ifCond .eq 5, 3) := by decide +kernel
theorem dX10_hears_28 : decode cX10_hears 28 = .ok (.iload_n 3, 1) := by decide +kernel
theorem dX10_hears_29 : decode cX10_hears 29 = .ok (.ireturn, 1) := by decide +kernel
theorem dX10_hears_30 : decode cX10_hears 30 = .ok (.aload_n 0, 1) := by decide +kernel
theorem dX10_hears_31 : decode cX10_hears 31 = .ok (.getfield 26, 3) := by decide +kernel
theorem dX10_hears_34 : decode cX10_hears 34 = .ok (.invokevirtual 185, 3) := by decide +kernel
theorem dX10_hears_37 : decode cX10_hears 37 = .ok (.aload_n 0, 1) := by decide +kernel
theorem dX10_hears_38 : decode cX10_hears 38 = .ok (.iload 4, 2) := by decide +kernel
theorem dX10_hears_40 : decode cX10_hears 40 = .ok (.invokevirtual 195, 3) := by decide +kernel
theorem dX10_hears_43 : decode cX10_hears 43 = .ok (.iconst 0, 1) := by decide +kernel
theorem dX10_hears_44 : decode cX10_hears 44 = .ok (.istore 5, 2) := by decide +kernel
theorem dX10_hears_46 : decode cX10_hears 46 = .ok (.iconst 0, 1) := by decide +kernel
theorem dX10_hears_47 : decode cX10_hears 47 = .ok (.istore 6, 2) := by decide +kernel
theorem dX10_hears_49 : decode cX10_hears 49 = .ok (.iload 6, 2) := by decide +kernel
theorem dX10_hears_51 : decode cX10_hears 51 = .ok (.iload 4, 2) := by decide +kernel
theorem dX10_hears_53 : decode cX10_hears 53 = .ok (.if_icmp .ge 42, 3) := by decide +kernel
theorem dX10_hears_56 : decode cX10_hears 56 = .ok (.iload 5, 2) := by decide +kernel
theorem dX10_hears_58 : decode cX10_hears 58 = .ok (.aload_n 0, 1) := by decide +kernel
theorem dX10_hears_59 : decode cX10_hears 59 = .ok (.getfield 26, 3) := by decide +kernel
theorem dX10_hears_62 : decode cX10_hears 62 = .ok (.iload 6, 2) := by decide +kernel
theorem dX10_hears_64 : decode cX10_hears 64 = .ok (.invokevirtual 272, 3) := by decide +kernel
theorem dX10_hears_67 : decode cX10_hears 67 = .ok (.aload_n 0, 1) := by decide +kernel
theorem dX10_hears_68 : decode cX10_hears 68 = .ok (.getfield 10, 3) := by decide +kernel
theorem dX10_hears_71 : decode cX10_hears 71 = .ok (.iload 6, 2) := by decide +kernel
theorem dX10_hears_73 : decode cX10_hears 73 = .ok (.invokevirtual 243, 3) := by decide +kernel
theorem dX10_hears_76 : decode cX10_hears 76 = .ok (.i2l, 1) := by decide +kernel
theorem dX10_hears_77 : decode cX10_hears 77 = .ok (.lcmp, 1) := by decide +kernel
theorem dX10_hears_78 : decode cX10_hears 78 = .ok (.ifCond .ne 7, 3) := by decide +kernel
theorem dX10_hears_81 : decode cX10_hears 81 = .ok (.iconst 1, 1) := by decide +kernel
theorem dX10_hears_82 : decode cX10_hears 82 = .ok (.goto 4, 3) := by decide +kernel
theorem dX10_hears_85 : decode cX10_hears 85 = .ok (.iconst 0, 1) := by decide +kernel
theorem dX10_hears_86 : decode cX10_hears 86 = .ok (.iadd, 1) := by decide +kernel
theorem dX10_hears_87 : decode cX10_hears 87 = .ok (.istore 5, 2) := by decide +kernel
theorem dX10_hears_89 : decode cX10_hears 89 = .ok (.iinc 6 1, 3) := by decide +kernel
theorem dX10_hears_92 : decode cX10_hears 92 = .ok (.goto (-43), 3) := by decide +kernel
theorem dX10_hears_95 : decode cX10_hears 95 = .ok (.iload 5, 2) := by decide +kernel
theorem dX10_hears_97 : decode cX10_hears 97 = .ok (.ireturn, 1) := by decide +kernel
theorem dX10_asks_0 : decode cX10_asks 0 = .ok (.aload_n 0, 1) := by decide +kernel
theorem dX10_asks_1 : decode cX10_asks 1 = .ok (.iload_n 1, 1) := by decide +kernel
theorem dX10_asks_2 : decode cX10_asks 2 = .ok (.iload_n 2, 1) := by decide +kernel
theorem dX10_asks_3 : decode cX10_asks 3 = .ok (.invokevirtual 178, 3) := by decide +kernel
theorem dX10_asks_6 : decode cX10_asks 6 = .ok (.istore_n 3, 1) := by decide +kernel
theorem dX10_asks_7 : decode cX10_asks 7 = .ok (.aload_n 0, 1) := by decide +kernel
theorem dX10_asks_8 : decode cX10_asks 8 = .ok (.getfield 10, 3) := by decide +kernel
theorem dX10_asks_11 : decode cX10_asks 11 = .ok (.getfield 88, 3) := by decide +kernel
theorem dX10_asks_14 : decode cX10_asks 14 = .ok (.istore 4, 2) := by decide +kernel
theorem dX10_asks_16 : decode cX10_asks 16 = .ok (.aload_n 0, 1) := by decide +kernel
theorem dX10_asks_17 : decode cX10_asks 17 = .ok (.getfield 10, 3) := by decide +kernel
theorem dX10_asks_20 : decode cX10_asks 20 = .ok (.iconst 0, 1) := by decide +kernel
theorem dX10_asks_21 : decode cX10_asks 21 = .ok (.putfield 88, 3) := by decide +kernel
theorem dX10_asks_24 : decode cX10_asks 24 = .ok (.iload_n 3, 1) := by decide +kernel
theorem dX10_asks_25 : decode cX10_asks 25 = .ok (.ifCond .eq 5, 3) := by decide +kernel
theorem dX10_asks_28 : decode cX10_asks 28 = .ok (.iload_n 3, 1) := by decide +kernel
theorem dX10_asks_29 : decode cX10_asks 29 = .ok (.ireturn, 1) := by decide +kernel
theorem dX10_asks_30 : decode cX10_asks 30 = .ok (.aload_n 0, 1) := by decide +kernel
theorem dX10_asks_31 : decode cX10_asks 31 = .ok (.getfield 26, 3) := by decide +kernel
theorem dX10_asks_34 : decode cX10_asks 34 = .ok (.invokevirtual 185, 3) := by decide +kernel
theorem dX10_asks_37 : decode cX10_asks 37 = .ok (.iconst 1, 1) := by decide +kernel
theorem dX10_asks_38 : decode cX10_asks 38 = .ok (.istore 5, 2) := by decide +kernel
theorem dX10_asks_40 : decode cX10_asks 40 = .ok (.iconst 0, 1) := by decide +kernel
theorem dX10_asks_41 : decode cX10_asks 41 = .ok (.istore 6, 2) := by decide +kernel
theorem dX10_asks_43 : decode cX10_asks 43 = .ok (.iload 6, 2) := by decide +kernel
theorem dX10_asks_45 : decode cX10_asks 45 = .ok (.iload 4, 2) := by decide +kernel
theorem dX10_asks_47 : decode cX10_asks 47 = .ok (.if_icmp .ge 65, 3) := by decide +kernel
theorem dX10_asks_50 : decode cX10_asks 50 = .ok (.aload_n 0, 1) := by decide +kernel
theorem dX10_asks_51 : decode cX10_asks 51 = .ok (.getfield 42, 3) := by decide +kernel
theorem dX10_asks_54 : decode cX10_asks 54 = .ok (.aload_n 0, 1) := by decide +kernel
theorem dX10_asks_55 : decode cX10_asks 55 = .ok (.getfield 70, 3) := by decide +kernel
theorem dX10_asks_58 : decode cX10_asks 58 = .ok (.iload 6, 2) := by decide +kernel
theorem dX10_asks_60 : decode cX10_asks 60 = .ok (.aload_n 0, 1) := by decide +kernel
theorem dX10_asks_61 : decode cX10_asks 61 = .ok (.getfield 77, 3) := by decide +kernel
theorem dX10_asks_64 : decode cX10_asks 64 = .ok (.invokevirtual 276, 3) := by decide +kernel
theorem dX10_asks_67 : decode cX10_asks 67 = .ok (.iload 5, 2) := by decide +kernel
theorem dX10_asks_69 : decode cX10_asks 69 = .ok (.aload_n 0, 1) := by decide +kernel
theorem dX10_asks_70 : decode cX10_asks 70 = .ok (.aload_n 0, 1) := by decide +kernel
theorem dX10_asks_71 : decode cX10_asks 71 = .ok (.getfield 10, 3) := by decide +kernel
theorem dX10_asks_74 : decode cX10_asks 74 = .ok (.iload 6, 2) := by decide +kernel
theorem dX10_asks_76 : decode cX10_asks 76 = .ok (.invokevirtual 243, 3) := by decide +kernel
theorem dX10_asks_79 : decode cX10_asks 79 = .ok (.invokevirtual 280, 3) := by decide +kernel
theorem dX10_asks_82 : decode cX10_asks 82 = .ok (.imul, 1) := by decide +kernel
theorem dX10_asks_83 : decode cX10_asks 83 = .ok (.istore 5, 2) := by decide +kernel
theorem dX10_asks_85 : decode cX10_asks 85 = .ok (.aload_n 0, 1) := by decide +kernel
theorem dX10_asks_86 : decode cX10_asks 86 = .ok (.getfield 26, 3) := by decide +kernel
theorem dX10_asks_89 : decode cX10_asks 89 = .ok (.aload_n 0, 1) := by decide +kernel
theorem dX10_asks_90 : decode cX10_asks 90 = .ok (.aload_n 0, 1) := by decide +kernel
theorem dX10_asks_91 : decode cX10_asks 91 = .ok (.getfield 10, 3) := by decide +kernel
theorem dX10_asks_94 : decode cX10_asks 94 = .ok (.iload 6, 2) := by decide +kernel
theorem dX10_asks_96 : decode cX10_asks 96 = .ok (.invokevirtual 243, 3) := by decide +kernel
theorem dX10_asks_99 : decode cX10_asks 99 = .ok (.invokevirtual 283, 3) := by decide +kernel
theorem dX10_asks_102 : decode cX10_asks 102 = .ok (.i2l, 1) := by decide +kernel
theorem dX10_asks_103 : decode cX10_asks 103 = .ok (.invokevirtual 191, 3) := by decide +kernel
theorem dX10_asks_106 : decode cX10_asks 106 = .ok (.iinc 6 1, 3) := by decide +kernel
theorem dX10_asks_109 : decode cX10_asks 109 = .ok (.goto (-66), 3) := by decide +kernel
theorem dX10_asks_112 : decode cX10_asks 112 = .ok (.iload 5, 2) := by decide +kernel
theorem dX10_asks_114 : decode cX10_asks 114 = .ok (.ifCond .ne 10, 3) := by decide +kernel
theorem dX10_asks_117 : decode cX10_asks 117 = .ok (.aload_n 0, 1) := by decide +kernel
theorem dX10_asks_118 : decode cX10_asks 118 = .ok (.getfield 26, 3) := by decide +kernel
theorem dX10_asks_121 : decode cX10_asks 121 = .ok (.invokevirtual 185, 3) := by decide +kernel
theorem dX10_asks_124 : decode cX10_asks 124 = .ok (.iload 5, 2) := by decide +kernel
theorem dX10_asks_126 : decode cX10_asks 126 = .ok (.ireturn, 1) := by decide +kernel
theorem dX10_becomes_0 : decode cX10_becomes 0 = .ok (.aload_n 0, 1) := by decide +kernel
theorem dX10_becomes_1 : decode cX10_becomes 1 = .ok (.getfield 10, 3) := by decide +kernel
theorem dX10_becomes_4 : decode cX10_becomes 4 = .ok (.invokevirtual 286, 3) := by decide +kernel
theorem dX10_becomes_7 : decode cX10_becomes 7 = .ok (.istore_n 1, 1) := by decide +kernel
theorem dX10_becomes_8 : decode cX10_becomes 8 = .ok (.aload_n 0, 1) := by decide +kernel
theorem dX10_becomes_9 : decode cX10_becomes 9 = .ok (.getfield 10, 3) := by decide +kernel
theorem dX10_becomes_12 : decode cX10_becomes 12 = .ok (.getfield 88, 3) := by decide +kernel
theorem dX10_becomes_15 : decode cX10_becomes 15 = .ok (.iconst 2, 1) := by decide +kernel
theorem dX10_becomes_16 : decode cX10_becomes 16 = .ok (.idiv, 1) := by decide +kernel
theorem dX10_becomes_17 : decode cX10_becomes 17 = .ok (.istore_n 2, 1) := by decide +kernel
theorem dX10_becomes_18 : decode cX10_becomes 18 = .ok (.aload_n 0, 1) := by decide +kernel
theorem dX10_becomes_19 : decode cX10_becomes 19 = .ok (.getfield 10, 3) := by decide +kernel
theorem dX10_becomes_22 : decode cX10_becomes 22 = .ok (.iconst 0, 1) := by decide +kernel
theorem dX10_becomes_23 : decode cX10_becomes 23 = .ok (.putfield 88, 3) := by decide +kernel
theorem dX10_becomes_26 : decode cX10_becomes 26 = .ok (.iload_n 1, 1) := by decide +kernel
theorem dX10_becomes_27 : decode cX10_becomes 27 = .ok (.iconst (-1), 1) := by decide +kernel
theorem dX10_becomes_28 : decode cX10_becomes 28 = .ok (.if_icmp .eq 7, 3) := by decide +kernel
theorem dX10_becomes_31 : decode cX10_becomes 31 = .ok (.iconst (-1), 1) := by decide +kernel
theorem dX10_becomes_32 : decode cX10_becomes 32 = .ok (.iload_n 1, 1) := by decide +kernel
theorem dX10_becomes_33 : decode cX10_becomes 33 = .ok (.isub, 1) := by decide +kernel
theorem dX10_becomes_34 : decode cX10_becomes 34 = .ok (.ireturn, 1) := by decide +kernel
theorem dX10_becomes_35 : decode cX10_becomes 35 = .ok (.aload_n 0, 1) := by decide +kernel
theorem dX10_becomes_36 : decode cX10_becomes 36 = .ok (.getfield 26, 3) := by decide +kernel
theorem dX10_becomes_39 : decode cX10_becomes 39 = .ok (.invokevirtual 185, 3) := by decide +kernel
theorem dX10_becomes_42 : decode cX10_becomes 42 = .ok (.iconst 0, 1) := by decide +kernel
theorem dX10_becomes_43 : decode cX10_becomes 43 = .ok (.istore_n 3, 1) := by decide +kernel
theorem dX10_becomes_44 : decode cX10_becomes 44 = .ok (.iconst 0, 1) := by decide +kernel
theorem dX10_becomes_45 : decode cX10_becomes 45 = .ok (.istore 4, 2) := by decide +kernel
theorem dX10_becomes_47 : decode cX10_becomes 47 = .ok (.iload 4, 2) := by decide +kernel
theorem dX10_becomes_49 : decode cX10_becomes 49 = .ok (.bipush 8, 2) := by decide +kernel
theorem dX10_becomes_51 : decode cX10_becomes 51 = .ok (.if_icmp .ge 63, 3) := by decide +kernel
theorem dX10_becomes_54 : decode cX10_becomes 54 = .ok (.iconst 0, 1) := by decide +kernel
theorem dX10_becomes_55 : decode cX10_becomes 55 = .ok (.istore 5, 2) := by decide +kernel
theorem dX10_becomes_57 : decode cX10_becomes 57 = .ok (.iload 5, 2) := by decide +kernel
theorem dX10_becomes_59 : decode cX10_becomes 59 = .ok (.aload_n 0, 1) := by decide +kernel
theorem dX10_becomes_60 : decode cX10_becomes 60 = .ok (.getfield 19, 3) := by decide +kernel
theorem dX10_becomes_63 : decode cX10_becomes 63 = .ok (.getfield 95, 3) := by decide +kernel
theorem dX10_becomes_66 : decode cX10_becomes 66 = .ok (.if_icmp .ge 42, 3) := by decide +kernel
theorem dX10_becomes_69 : decode cX10_becomes 69 = .ok (.aload_n 0, 1) := by decide +kernel
theorem dX10_becomes_70 : decode cX10_becomes 70 = .ok (.getfield 42, 3) := by decide +kernel
theorem dX10_becomes_73 : decode cX10_becomes 73 = .ok (.iload 4, 2) := by decide +kernel
theorem dX10_becomes_75 : decode cX10_becomes 75 = .ok (.iload 5, 2) := by decide +kernel
theorem dX10_becomes_77 : decode cX10_becomes 77 = .ok (.invokevirtual 236, 3) := by decide +kernel
theorem dX10_becomes_80 : decode cX10_becomes 80 = .ok (.ifCond .eq 22, 3) := by decide +kernel
theorem dX10_becomes_83 : decode cX10_becomes 83 = .ok (.aload_n 0, 1) := by decide +kernel
theorem dX10_becomes_84 : decode cX10_becomes 84 = .ok (.iload_n 2, 1) := by decide +kernel
theorem dX10_becomes_85 : decode cX10_becomes 85 = .ok (.invokevirtual 289, 3) := by decide +kernel
theorem dX10_becomes_88 : decode cX10_becomes 88 = .ok (.ifCond .eq 14, 3) := by decide +kernel
theorem dX10_becomes_91 : decode cX10_becomes 91 = .ok (.aload_n 0, 1) := by decide +kernel
theorem dX10_becomes_92 : decode cX10_becomes 92 = .ok (.iload 4, 2) := by decide +kernel
theorem dX10_becomes_94 : decode cX10_becomes 94 = .ok (.iload 5, 2) := by decide +kernel
theorem dX10_becomes_96 : decode cX10_becomes 96 = .ok (.invokevirtual 292, 3) := by decide +kernel
theorem dX10_becomes_99 : decode cX10_becomes 99 = .ok (.iinc 3 1, 3) := by decide +kernel
theorem dX10_becomes_102 : decode cX10_becomes 102 = .ok (.iinc 5 1, 3) := by decide +kernel
theorem dX10_becomes_105 : decode cX10_becomes 105 = .ok (.goto (-48), 3) := by decide +kernel
theorem dX10_becomes_108 : decode cX10_becomes 108 = .ok (.iinc 4 1, 3) := by decide +kernel
theorem dX10_becomes_111 : decode cX10_becomes 111 = .ok (.goto (-64), 3) := by decide +kernel
theorem dX10_becomes_114 : decode cX10_becomes 114 = .ok (.iload_n 3, 1) := by decide +kernel
theorem dX10_becomes_115 : decode cX10_becomes 115 = .ok (.ireturn, 1) := by decide +kernel
theorem dX10_keeps_0 : decode cX10_keeps 0 = .ok (.aload_n 0, 1) := by decide +kernel
theorem dX10_keeps_1 : decode cX10_keeps 1 = .ok (.getfield 42, 3) := by decide +kernel
theorem dX10_keeps_4 : decode cX10_keeps 4 = .ok (.iload_n 1, 1) := by decide +kernel
theorem dX10_keeps_5 : decode cX10_keeps 5 = .ok (.iload_n 2, 1) := by decide +kernel
theorem dX10_keeps_6 : decode cX10_keeps 6 = .ok (.invokevirtual 236, 3) := by decide +kernel
theorem dX10_keeps_9 : decode cX10_keeps 9 = .ok (.ifCond .ne 5, 3) := by decide +kernel
theorem dX10_keeps_12 : decode cX10_keeps 12 = .ok (.iconst (-1), 1) := by decide +kernel
theorem dX10_keeps_13 : decode cX10_keeps 13 = .ok (.ireturn, 1) := by decide +kernel
theorem dX10_keeps_14 : decode cX10_keeps 14 = .ok (.aload_n 0, 1) := by decide +kernel
theorem dX10_keeps_15 : decode cX10_keeps 15 = .ok (.getfield 26, 3) := by decide +kernel
theorem dX10_keeps_18 : decode cX10_keeps 18 = .ok (.invokevirtual 185, 3) := by decide +kernel
theorem dX10_keeps_21 : decode cX10_keeps 21 = .ok (.iconst 0, 1) := by decide +kernel
theorem dX10_keeps_22 : decode cX10_keeps 22 = .ok (.istore_n 3, 1) := by decide +kernel
theorem dX10_keeps_23 : decode cX10_keeps 23 = .ok (.iconst 0, 1) := by decide +kernel
theorem dX10_keeps_24 : decode cX10_keeps 24 = .ok (.istore 4, 2) := by decide +kernel
theorem dX10_keeps_26 : decode cX10_keeps 26 = .ok (.iload 4, 2) := by decide +kernel
theorem dX10_keeps_28 : decode cX10_keeps 28 = .ok (.bipush 6, 2) := by decide +kernel
theorem dX10_keeps_30 : decode cX10_keeps 30 = .ok (.if_icmp .ge 82, 3) := by decide +kernel
theorem dX10_keeps_33 : decode cX10_keeps 33 = .ok (.aload_n 0, 1) := by decide +kernel
theorem dX10_keeps_34 : decode cX10_keeps 34 = .ok (.getfield 42, 3) := by decide +kernel
theorem dX10_keeps_37 : decode cX10_keeps 37 = .ok (.aload_n 0, 1) := by decide +kernel
theorem dX10_keeps_38 : decode cX10_keeps 38 = .ok (.getfield 70, 3) := by decide +kernel
theorem dX10_keeps_41 : decode cX10_keeps 41 = .ok (.iload 4, 2) := by decide +kernel
theorem dX10_keeps_43 : decode cX10_keeps 43 = .ok (.aload_n 0, 1) := by decide +kernel
theorem dX10_keeps_44 : decode cX10_keeps 44 = .ok (.getfield 77, 3) := by decide +kernel
theorem dX10_keeps_47 : decode cX10_keeps 47 = .ok (.invokevirtual 276, 3) := by decide +kernel
theorem dX10_keeps_50 : decode cX10_keeps 50 = .ok (.iconst 0, 1) := by decide +kernel
theorem dX10_keeps_51 : decode cX10_keeps 51 = .ok (.istore 5, 2) := by decide +kernel
theorem dX10_keeps_53 : decode cX10_keeps 53 = .ok (.iconst 0, 1) := by decide +kernel
theorem dX10_keeps_54 : decode cX10_keeps 54 = .ok (.istore 6, 2) := by decide +kernel
theorem dX10_keeps_56 : decode cX10_keeps 56 = .ok (.iload 6, 2) := by decide +kernel
theorem dX10_keeps_58 : decode cX10_keeps 58 = .ok (.bipush 8, 2) := by decide +kernel
theorem dX10_keeps_60 : decode cX10_keeps 60 = .ok (.if_icmp .ge 31, 3) := by decide +kernel
theorem dX10_keeps_63 : decode cX10_keeps 63 = .ok (.iload 5, 2) := by decide +kernel
theorem dX10_keeps_65 : decode cX10_keeps 65 = .ok (.aload_n 0, 1) := by decide +kernel
theorem dX10_keeps_66 : decode cX10_keeps 66 = .ok (.getfield 77, 3) := by decide +kernel
theorem dX10_keeps_69 : decode cX10_keeps 69 = .ok (.iload 6, 2) := by decide +kernel
theorem dX10_keeps_71 : decode cX10_keeps 71 = .ok (.iaload, 1) := by decide +kernel
theorem dX10_keeps_72 : decode cX10_keeps 72 = .ok (.iload 6, 2) := by decide +kernel
theorem dX10_keeps_74 : decode cX10_keeps 74 = .ok (.if_icmp .ne 7, 3) := by decide +kernel
theorem dX10_keeps_77 : decode cX10_keeps 77 = .ok (.iconst 1, 1) := by decide +kernel
theorem dX10_keeps_78 : decode cX10_keeps 78 = .ok (.goto 4, 3) := by decide +kernel
theorem dX10_keeps_81 : decode cX10_keeps 81 = .ok (.iconst 0, 1) := by decide +kernel
theorem dX10_keeps_82 : decode cX10_keeps 82 = .ok (.iadd, 1) := by decide +kernel
theorem dX10_keeps_83 : decode cX10_keeps 83 = .ok (.istore 5, 2) := by decide +kernel
theorem dX10_keeps_85 : decode cX10_keeps 85 = .ok (.iinc 6 1, 3) := by decide +kernel
theorem dX10_keeps_88 : decode cX10_keeps 88 = .ok (.goto (-32), 3) := by decide +kernel
theorem dX10_keeps_91 : decode cX10_keeps 91 = .ok (.aload_n 0, 1) := by decide +kernel
theorem dX10_keeps_92 : decode cX10_keeps 92 = .ok (.getfield 26, 3) := by decide +kernel
theorem dX10_keeps_95 : decode cX10_keeps 95 = .ok (.iload 5, 2) := by decide +kernel
theorem dX10_keeps_97 : decode cX10_keeps 97 = .ok (.i2l, 1) := by decide +kernel
theorem dX10_keeps_98 : decode cX10_keeps 98 = .ok (.invokevirtual 191, 3) := by decide +kernel
theorem dX10_keeps_101 : decode cX10_keeps 101 = .ok (.iload_n 3, 1) := by decide +kernel
theorem dX10_keeps_102 : decode cX10_keeps 102 = .ok (.iload 5, 2) := by decide +kernel
theorem dX10_keeps_104 : decode cX10_keeps 104 = .ok (.iadd, 1) := by decide +kernel
theorem dX10_keeps_105 : decode cX10_keeps 105 = .ok (.istore_n 3, 1) := by decide +kernel
theorem dX10_keeps_106 : decode cX10_keeps 106 = .ok (.iinc 4 1, 3) := by decide +kernel
theorem dX10_keeps_109 : decode cX10_keeps 109 = .ok (.goto (-83), 3) := by decide +kernel
theorem dX10_keeps_112 : decode cX10_keeps 112 = .ok (.iload_n 3, 1) := by decide +kernel
theorem dX10_keeps_113 : decode cX10_keeps 113 = .ok (.ireturn, 1) := by decide +kernel
theorem dX10_apart_0 : decode cX10_apart 0 = .ok (.iload_n 3, 1) := by decide +kernel
theorem dX10_apart_1 : decode cX10_apart 1 = .ok (.iconst 1, 1) := by decide +kernel
theorem dX10_apart_2 : decode cX10_apart 2 = .ok (.if_icmp .lt 21, 3) := by decide +kernel
theorem dX10_apart_5 : decode cX10_apart 5 = .ok (.iload_n 3, 1) := by decide +kernel
theorem dX10_apart_6 : decode cX10_apart 6 = .ok (.bipush 6, 2) := by decide +kernel
theorem dX10_apart_8 : decode cX10_apart 8 = .ok (.if_icmp .gt 15, 3) := by decide +kernel
theorem dX10_apart_11 : decode cX10_apart 11 = .ok (.aload_n 0, 1) := by decide +kernel
theorem dX10_apart_12 : decode cX10_apart 12 = .ok (.getfield 42, 3) := by decide +kernel
theorem dX10_apart_15 : decode cX10_apart 15 = .ok (.iload_n 1, 1) := by decide +kernel
theorem dX10_apart_16 : decode cX10_apart 16 = .ok (.iload_n 2, 1) := by decide +kernel
theorem dX10_apart_17 : decode cX10_apart 17 = .ok (.invokevirtual 236, 3) := by decide +kernel
theorem dX10_apart_20 : decode cX10_apart 20 = .ok (.ifCond .ne 5, 3) := by decide +kernel
theorem dX10_apart_23 : decode cX10_apart 23 = .ok (.iconst (-1), 1) := by decide +kernel
theorem dX10_apart_24 : decode cX10_apart 24 = .ok (.ireturn, 1) := by decide +kernel
theorem dX10_apart_25 : decode cX10_apart 25 = .ok (.iconst 1, 1) := by decide +kernel
theorem dX10_apart_26 : decode cX10_apart 26 = .ok (.istore 4, 2) := by decide +kernel
theorem dX10_apart_28 : decode cX10_apart 28 = .ok (.iconst 1, 1) := by decide +kernel
theorem dX10_apart_29 : decode cX10_apart 29 = .ok (.istore 5, 2) := by decide +kernel
theorem dX10_apart_31 : decode cX10_apart 31 = .ok (.iconst 0, 1) := by decide +kernel
theorem dX10_apart_32 : decode cX10_apart 32 = .ok (.istore 6, 2) := by decide +kernel
theorem dX10_apart_34 : decode cX10_apart 34 = .ok (.iload 6, 2) := by decide +kernel
theorem dX10_apart_36 : decode cX10_apart 36 = .ok (.iload_n 3, 1) := by decide +kernel
theorem dX10_apart_37 : decode cX10_apart 37 = .ok (.if_icmp .ge 94, 3) := by decide +kernel
theorem dX10_apart_40 : decode cX10_apart 40 = .ok (.aload_n 0, 1) := by decide +kernel
theorem dX10_apart_41 : decode cX10_apart 41 = .ok (.getfield 42, 3) := by decide +kernel
theorem dX10_apart_44 : decode cX10_apart 44 = .ok (.aload_n 0, 1) := by decide +kernel
theorem dX10_apart_45 : decode cX10_apart 45 = .ok (.getfield 70, 3) := by decide +kernel
theorem dX10_apart_48 : decode cX10_apart 48 = .ok (.iload 6, 2) := by decide +kernel
theorem dX10_apart_50 : decode cX10_apart 50 = .ok (.aload_n 0, 1) := by decide +kernel
theorem dX10_apart_51 : decode cX10_apart 51 = .ok (.getfield 77, 3) := by decide +kernel
theorem dX10_apart_54 : decode cX10_apart 54 = .ok (.invokevirtual 276, 3) := by decide +kernel
theorem dX10_apart_57 : decode cX10_apart 57 = .ok (.iconst 0, 1) := by decide +kernel
theorem dX10_apart_58 : decode cX10_apart 58 = .ok (.istore 7, 2) := by decide +kernel
theorem dX10_apart_60 : decode cX10_apart 60 = .ok (.iconst 0, 1) := by decide +kernel
theorem dX10_apart_61 : decode cX10_apart 61 = .ok (.istore 8, 2) := by decide +kernel
theorem dX10_apart_63 : decode cX10_apart 63 = .ok (.iconst 0, 1) := by decide +kernel
theorem dX10_apart_64 : decode cX10_apart 64 = .ok (.istore 9, 2) := by decide +kernel
theorem dX10_apart_66 : decode cX10_apart 66 = .ok (.iload 9, 2) := by decide +kernel
theorem dX10_apart_68 : decode cX10_apart 68 = .ok (.bipush 8, 2) := by decide +kernel
theorem dX10_apart_70 : decode cX10_apart 70 = .ok (.if_icmp .ge 41, 3) := by decide +kernel
theorem dX10_apart_73 : decode cX10_apart 73 = .ok (.aload_n 0, 1) := by decide +kernel
theorem dX10_apart_74 : decode cX10_apart 74 = .ok (.iload 9, 2) := by decide +kernel
theorem dX10_apart_76 : decode cX10_apart 76 = .ok (.invokevirtual 280, 3) := by decide +kernel
theorem dX10_apart_79 : decode cX10_apart 79 = .ok (.istore 10, 2) := by decide +kernel
theorem dX10_apart_81 : decode cX10_apart 81 = .ok (.iload 7, 2) := by decide +kernel
theorem dX10_apart_83 : decode cX10_apart 83 = .ok (.iload 10, 2) := by decide +kernel
theorem dX10_apart_85 : decode cX10_apart 85 = .ok (.ifCond .le 7, 3) := by decide +kernel
theorem dX10_apart_88 : decode cX10_apart 88 = .ok (.iconst 1, 1) := by decide +kernel
theorem dX10_apart_89 : decode cX10_apart 89 = .ok (.goto 4, 3) := by decide +kernel
theorem dX10_apart_92 : decode cX10_apart 92 = .ok (.iconst 0, 1) := by decide +kernel
theorem dX10_apart_93 : decode cX10_apart 93 = .ok (.iadd, 1) := by decide +kernel
theorem dX10_apart_94 : decode cX10_apart 94 = .ok (.istore 7, 2) := by decide +kernel
theorem dX10_apart_96 : decode cX10_apart 96 = .ok (.iload 8, 2) := by decide +kernel
theorem dX10_apart_98 : decode cX10_apart 98 = .ok (.iload 10, 2) := by decide +kernel
theorem dX10_apart_100 : decode cX10_apart 100 = .ok (.invokestatic 175, 3) := by decide +kernel
theorem dX10_apart_103 : decode cX10_apart 103 = .ok (.istore 8, 2) := by decide +kernel
theorem dX10_apart_105 : decode cX10_apart 105 = .ok (.iinc 9 1, 3) := by decide +kernel
theorem dX10_apart_108 : decode cX10_apart 108 = .ok (.goto (-42), 3) := by decide +kernel
theorem dX10_apart_111 : decode cX10_apart 111 = .ok (.iload 4, 2) := by decide +kernel
theorem dX10_apart_113 : decode cX10_apart 113 = .ok (.iload 7, 2) := by decide +kernel
theorem dX10_apart_115 : decode cX10_apart 115 = .ok (.imul, 1) := by decide +kernel
theorem dX10_apart_116 : decode cX10_apart 116 = .ok (.istore 4, 2) := by decide +kernel
theorem dX10_apart_118 : decode cX10_apart 118 = .ok (.iload 5, 2) := by decide +kernel
theorem dX10_apart_120 : decode cX10_apart 120 = .ok (.iload 8, 2) := by decide +kernel
theorem dX10_apart_122 : decode cX10_apart 122 = .ok (.imul, 1) := by decide +kernel
theorem dX10_apart_123 : decode cX10_apart 123 = .ok (.istore 5, 2) := by decide +kernel
theorem dX10_apart_125 : decode cX10_apart 125 = .ok (.iinc 6 1, 3) := by decide +kernel
theorem dX10_apart_128 : decode cX10_apart 128 = .ok (.goto (-94), 3) := by decide +kernel
theorem dX10_apart_131 : decode cX10_apart 131 = .ok (.aload_n 0, 1) := by decide +kernel
theorem dX10_apart_132 : decode cX10_apart 132 = .ok (.getfield 26, 3) := by decide +kernel
theorem dX10_apart_135 : decode cX10_apart 135 = .ok (.invokevirtual 185, 3) := by decide +kernel
theorem dX10_apart_138 : decode cX10_apart 138 = .ok (.aload_n 0, 1) := by decide +kernel
theorem dX10_apart_139 : decode cX10_apart 139 = .ok (.getfield 26, 3) := by decide +kernel
theorem dX10_apart_142 : decode cX10_apart 142 = .ok (.iload 5, 2) := by decide +kernel
theorem dX10_apart_144 : decode cX10_apart 144 = .ok (.i2l, 1) := by decide +kernel
theorem dX10_apart_145 : decode cX10_apart 145 = .ok (.invokevirtual 191, 3) := by decide +kernel
theorem dX10_apart_148 : decode cX10_apart 148 = .ok (.iload 4, 2) := by decide +kernel
theorem dX10_apart_150 : decode cX10_apart 150 = .ok (.ireturn, 1) := by decide +kernel
theorem dX10_longest_0 : decode cX10_longest 0 = .ok (.iload_n 1, 1) := by decide +kernel
theorem dX10_longest_1 : decode cX10_longest 1 = .ok (.invokestatic 147, 3) := by decide +kernel
theorem dX10_longest_4 : decode cX10_longest 4 = .ok (.ifCond .ne 5, 3) := by decide +kernel
theorem dX10_longest_7 : decode cX10_longest 7 = .ok (.iconst (-1), 1) := by decide +kernel
theorem dX10_longest_8 : decode cX10_longest 8 = .ok (.ireturn, 1) := by decide +kernel
theorem dX10_longest_9 : decode cX10_longest 9 = .ok (.bipush (-2), 2) := by decide +kernel
theorem dX10_longest_11 : decode cX10_longest 11 = .ok (.istore_n 2, 1) := by decide +kernel
theorem dX10_longest_12 : decode cX10_longest 12 = .ok (.iconst 0, 1) := by decide +kernel
theorem dX10_longest_13 : decode cX10_longest 13 = .ok (.istore_n 3, 1) := by decide +kernel
theorem dX10_longest_14 : decode cX10_longest 14 = .ok (.iconst 0, 1) := by decide +kernel
theorem dX10_longest_15 : decode cX10_longest 15 = .ok (.istore 4, 2) := by decide +kernel
theorem dX10_longest_17 : decode cX10_longest 17 = .ok (.iconst 0, 1) := by decide +kernel
theorem dX10_longest_18 : decode cX10_longest 18 = .ok (.istore 5, 2) := by decide +kernel
theorem dX10_longest_20 : decode cX10_longest 20 = .ok (.iload 5, 2) := by decide +kernel
theorem dX10_longest_22 : decode cX10_longest 22 = .ok (.aload_n 0, 1) := by decide +kernel
theorem dX10_longest_23 : decode cX10_longest 23 = .ok (.getfield 19, 3) := by decide +kernel
theorem dX10_longest_26 : decode cX10_longest 26 = .ok (.getfield 95, 3) := by decide +kernel
theorem dX10_longest_29 : decode cX10_longest 29 = .ok (.if_icmp .ge 53, 3) := by decide +kernel
theorem dX10_longest_32 : decode cX10_longest 32 = .ok (.aload_n 0, 1) := by decide +kernel
theorem dX10_longest_33 : decode cX10_longest 33 = .ok (.getfield 42, 3) := by decide +kernel
theorem dX10_longest_36 : decode cX10_longest 36 = .ok (.iload_n 1, 1) := by decide +kernel
theorem dX10_longest_37 : decode cX10_longest 37 = .ok (.iload 5, 2) := by decide +kernel
theorem dX10_longest_39 : decode cX10_longest 39 = .ok (.invokevirtual 236, 3) := by decide +kernel
theorem dX10_longest_42 : decode cX10_longest 42 = .ok (.ifCond .eq 34, 3) := by decide +kernel
theorem dX10_longest_45 : decode cX10_longest 45 = .ok (.aload_n 0, 1) := by decide +kernel
theorem dX10_longest_46 : decode cX10_longest 46 = .ok (.getfield 42, 3) := by decide +kernel
theorem dX10_longest_49 : decode cX10_longest 49 = .ok (.getfield 188, 3) := by decide +kernel
theorem dX10_longest_52 : decode cX10_longest 52 = .ok (.iload_n 3, 1) := by decide +kernel
theorem dX10_longest_53 : decode cX10_longest 53 = .ok (.if_icmp .le 23, 3) := by decide +kernel
theorem dX10_longest_56 : decode cX10_longest 56 = .ok (.iload 5, 2) := by decide +kernel
theorem dX10_longest_58 : decode cX10_longest 58 = .ok (.istore_n 2, 1) := by decide +kernel
theorem dX10_longest_59 : decode cX10_longest 59 = .ok (.aload_n 0, 1) := by decide +kernel
theorem dX10_longest_60 : decode cX10_longest 60 = .ok (.getfield 42, 3) := by decide +kernel
theorem dX10_longest_63 : decode cX10_longest 63 = .ok (.getfield 188, 3) := by decide +kernel
theorem dX10_longest_66 : decode cX10_longest 66 = .ok (.istore_n 3, 1) := by decide +kernel
theorem dX10_longest_67 : decode cX10_longest 67 = .ok (.aload_n 0, 1) := by decide +kernel
theorem dX10_longest_68 : decode cX10_longest 68 = .ok (.getfield 42, 3) := by decide +kernel
theorem dX10_longest_71 : decode cX10_longest 71 = .ok (.getfield 254, 3) := by decide +kernel
theorem dX10_longest_74 : decode cX10_longest 74 = .ok (.istore 4, 2) := by decide +kernel
theorem dX10_longest_76 : decode cX10_longest 76 = .ok (.iinc 5 1, 3) := by decide +kernel
theorem dX10_longest_79 : decode cX10_longest 79 = .ok (.goto (-59), 3) := by decide +kernel
theorem dX10_longest_82 : decode cX10_longest 82 = .ok (.iload_n 2, 1) := by decide +kernel
theorem dX10_longest_83 : decode cX10_longest 83 = .ok (.ifCond .lt 29, 3) := by decide +kernel
theorem dX10_longest_86 : decode cX10_longest 86 = .ok (.aload_n 0, 1) := by decide +kernel
theorem dX10_longest_87 : decode cX10_longest 87 = .ok (.getfield 26, 3) := by decide +kernel
theorem dX10_longest_90 : decode cX10_longest 90 = .ok (.invokevirtual 185, 3) := by decide +kernel
theorem dX10_longest_93 : decode cX10_longest 93 = .ok (.aload_n 0, 1) := by decide +kernel
theorem dX10_longest_94 : decode cX10_longest 94 = .ok (.getfield 26, 3) := by decide +kernel
theorem dX10_longest_97 : decode cX10_longest 97 = .ok (.iload_n 3, 1) := by decide +kernel
theorem dX10_longest_98 : decode cX10_longest 98 = .ok (.i2l, 1) := by decide +kernel
theorem dX10_longest_99 : decode cX10_longest 99 = .ok (.invokevirtual 191, 3) := by decide +kernel
theorem dX10_longest_102 : decode cX10_longest 102 = .ok (.aload_n 0, 1) := by decide +kernel
theorem dX10_longest_103 : decode cX10_longest 103 = .ok (.getfield 26, 3) := by decide +kernel
theorem dX10_longest_106 : decode cX10_longest 106 = .ok (.iload 4, 2) := by decide +kernel
theorem dX10_longest_108 : decode cX10_longest 108 = .ok (.i2l, 1) := by decide +kernel
theorem dX10_longest_109 : decode cX10_longest 109 = .ok (.invokevirtual 191, 3) := by decide +kernel
theorem dX10_longest_112 : decode cX10_longest 112 = .ok (.iload_n 2, 1) := by decide +kernel
theorem dX10_longest_113 : decode cX10_longest 113 = .ok (.ireturn, 1) := by decide +kernel
theorem dX10_rounds_0 : decode cX10_rounds 0 = .ok (.iconst 0, 1) := by decide +kernel
theorem dX10_rounds_1 : decode cX10_rounds 1 = .ok (.istore_n 1, 1) := by decide +kernel
theorem dX10_rounds_2 : decode cX10_rounds 2 = .ok (.iconst 0, 1) := by decide +kernel
theorem dX10_rounds_3 : decode cX10_rounds 3 = .ok (.istore_n 2, 1) := by decide +kernel
theorem dX10_rounds_4 : decode cX10_rounds 4 = .ok (.iconst 0, 1) := by decide +kernel
theorem dX10_rounds_5 : decode cX10_rounds 5 = .ok (.istore_n 3, 1) := by decide +kernel
theorem dX10_rounds_6 : decode cX10_rounds 6 = .ok (.iconst 0, 1) := by decide +kernel
theorem dX10_rounds_7 : decode cX10_rounds 7 = .ok (.istore 4, 2) := by decide +kernel
theorem dX10_rounds_9 : decode cX10_rounds 9 = .ok (.iload 4, 2) := by decide +kernel
theorem dX10_rounds_11 : decode cX10_rounds 11 = .ok (.bipush 8, 2) := by decide +kernel
theorem dX10_rounds_13 : decode cX10_rounds 13 = .ok (.if_icmp .ge 69, 3) := by decide +kernel
theorem dX10_rounds_16 : decode cX10_rounds 16 = .ok (.iconst 0, 1) := by decide +kernel
theorem dX10_rounds_17 : decode cX10_rounds 17 = .ok (.istore 5, 2) := by decide +kernel
theorem dX10_rounds_19 : decode cX10_rounds 19 = .ok (.iload 5, 2) := by decide +kernel
theorem dX10_rounds_21 : decode cX10_rounds 21 = .ok (.aload_n 0, 1) := by decide +kernel
theorem dX10_rounds_22 : decode cX10_rounds 22 = .ok (.getfield 19, 3) := by decide +kernel
theorem dX10_rounds_25 : decode cX10_rounds 25 = .ok (.getfield 95, 3) := by decide +kernel
theorem dX10_rounds_28 : decode cX10_rounds 28 = .ok (.if_icmp .ge 48, 3) := by decide +kernel
theorem dX10_rounds_31 : decode cX10_rounds 31 = .ok (.aload_n 0, 1) := by decide +kernel
theorem dX10_rounds_32 : decode cX10_rounds 32 = .ok (.getfield 42, 3) := by decide +kernel
theorem dX10_rounds_35 : decode cX10_rounds 35 = .ok (.iload 4, 2) := by decide +kernel
theorem dX10_rounds_37 : decode cX10_rounds 37 = .ok (.iload 5, 2) := by decide +kernel
theorem dX10_rounds_39 : decode cX10_rounds 39 = .ok (.invokevirtual 236, 3) := by decide +kernel
theorem dX10_rounds_42 : decode cX10_rounds 42 = .ok (.ifCond .eq 28, 3) := by decide +kernel
theorem dX10_rounds_45 : decode cX10_rounds 45 = .ok (.iinc 2 1, 3) := by decide +kernel
theorem dX10_rounds_48 : decode cX10_rounds 48 = .ok (.aload_n 0, 1) := by decide +kernel
theorem dX10_rounds_49 : decode cX10_rounds 49 = .ok (.getfield 42, 3) := by decide +kernel
theorem dX10_rounds_52 : decode cX10_rounds 52 = .ok (.getfield 254, 3) := by decide +kernel
theorem dX10_rounds_55 : decode cX10_rounds 55 = .ok (.iload 4, 2) := by decide +kernel
theorem dX10_rounds_57 : decode cX10_rounds 57 = .ok (.if_icmp .ne 13, 3) := by decide +kernel
theorem dX10_rounds_60 : decode cX10_rounds 60 = .ok (.iinc 3 1, 3) := by decide +kernel
theorem dX10_rounds_63 : decode cX10_rounds 63 = .ok (.iload_n 1, 1) := by decide +kernel
theorem dX10_rounds_64 : decode cX10_rounds 64 = .ok (.iconst 1, 1) := by decide +kernel
theorem dX10_rounds_65 : decode cX10_rounds 65 = .ok (.iload 4, 2) := by decide +kernel
theorem dX10_rounds_67 : decode cX10_rounds 67 = .ok (.ishl, 1) := by decide +kernel
theorem dX10_rounds_68 : decode cX10_rounds 68 = .ok (.ior, 1) := by decide +kernel
theorem dX10_rounds_69 : decode cX10_rounds 69 = .ok (.istore_n 1, 1) := by decide +kernel
theorem dX10_rounds_70 : decode cX10_rounds 70 = .ok (.iinc 5 1, 3) := by decide +kernel
theorem dX10_rounds_73 : decode cX10_rounds 73 = .ok (.goto (-54), 3) := by decide +kernel
theorem dX10_rounds_76 : decode cX10_rounds 76 = .ok (.iinc 4 1, 3) := by decide +kernel
theorem dX10_rounds_79 : decode cX10_rounds 79 = .ok (.goto (-70), 3) := by decide +kernel
theorem dX10_rounds_82 : decode cX10_rounds 82 = .ok (.aload_n 0, 1) := by decide +kernel
theorem dX10_rounds_83 : decode cX10_rounds 83 = .ok (.getfield 26, 3) := by decide +kernel
theorem dX10_rounds_86 : decode cX10_rounds 86 = .ok (.invokevirtual 185, 3) := by decide +kernel
theorem dX10_rounds_89 : decode cX10_rounds 89 = .ok (.aload_n 0, 1) := by decide +kernel
theorem dX10_rounds_90 : decode cX10_rounds 90 = .ok (.getfield 26, 3) := by decide +kernel
theorem dX10_rounds_93 : decode cX10_rounds 93 = .ok (.iload_n 2, 1) := by decide +kernel
theorem dX10_rounds_94 : decode cX10_rounds 94 = .ok (.i2l, 1) := by decide +kernel
theorem dX10_rounds_95 : decode cX10_rounds 95 = .ok (.invokevirtual 191, 3) := by decide +kernel
theorem dX10_rounds_98 : decode cX10_rounds 98 = .ok (.aload_n 0, 1) := by decide +kernel
theorem dX10_rounds_99 : decode cX10_rounds 99 = .ok (.getfield 26, 3) := by decide +kernel
theorem dX10_rounds_102 : decode cX10_rounds 102 = .ok (.iload_n 3, 1) := by decide +kernel
theorem dX10_rounds_103 : decode cX10_rounds 103 = .ok (.i2l, 1) := by decide +kernel
theorem dX10_rounds_104 : decode cX10_rounds 104 = .ok (.invokevirtual 191, 3) := by decide +kernel
theorem dX10_rounds_107 : decode cX10_rounds 107 = .ok (.iload_n 1, 1) := by decide +kernel
theorem dX10_rounds_108 : decode cX10_rounds 108 = .ok (.ireturn, 1) := by decide +kernel
theorem dX10_putIfFirst_0 : decode cX10_putIfFirst 0 = .ok (.aload_n 0, 1) := by decide +kernel
theorem dX10_putIfFirst_1 : decode cX10_putIfFirst 1 = .ok (.getfield 26, 3) := by decide +kernel
theorem dX10_putIfFirst_4 : decode cX10_putIfFirst 4 = .ok (.getfield 296, 3) := by decide +kernel
theorem dX10_putIfFirst_7 : decode cX10_putIfFirst 7 = .ok (.ifCond .ne 21, 3) := by decide +kernel
theorem dX10_putIfFirst_10 : decode cX10_putIfFirst 10 = .ok (.aload_n 0, 1) := by decide +kernel
theorem dX10_putIfFirst_11 : decode cX10_putIfFirst 11 = .ok (.getfield 26, 3) := by decide +kernel
theorem dX10_putIfFirst_14 : decode cX10_putIfFirst 14 = .ok (.iload_n 1, 1) := by decide +kernel
theorem dX10_putIfFirst_15 : decode cX10_putIfFirst 15 = .ok (.i2l, 1) := by decide +kernel
theorem dX10_putIfFirst_16 : decode cX10_putIfFirst 16 = .ok (.invokevirtual 191, 3) := by decide +kernel
theorem dX10_putIfFirst_19 : decode cX10_putIfFirst 19 = .ok (.aload_n 0, 1) := by decide +kernel
theorem dX10_putIfFirst_20 : decode cX10_putIfFirst 20 = .ok (.getfield 26, 3) := by decide +kernel
theorem dX10_putIfFirst_23 : decode cX10_putIfFirst 23 = .ok (.iload_n 2, 1) := by decide +kernel
theorem dX10_putIfFirst_24 : decode cX10_putIfFirst 24 = .ok (.i2l, 1) := by decide +kernel
theorem dX10_putIfFirst_25 : decode cX10_putIfFirst 25 = .ok (.invokevirtual 191, 3) := by decide +kernel
theorem dX10_putIfFirst_28 : decode cX10_putIfFirst 28 = .ok (.return_, 1) := by decide +kernel
theorem dX10_timesAmongImages_0 : decode cX10_timesAmongImages 0 = .ok (.iconst 0, 1) := by decide +kernel
theorem dX10_timesAmongImages_1 : decode cX10_timesAmongImages 1 = .ok (.istore_n 2, 1) := by decide +kernel
theorem dX10_timesAmongImages_2 : decode cX10_timesAmongImages 2 = .ok (.iconst 0, 1) := by decide +kernel
theorem dX10_timesAmongImages_3 : decode cX10_timesAmongImages 3 = .ok (.istore_n 3, 1) := by decide +kernel
theorem dX10_timesAmongImages_4 : decode cX10_timesAmongImages 4 = .ok (.iload_n 3, 1) := by decide +kernel
theorem dX10_timesAmongImages_5 : decode cX10_timesAmongImages 5 = .ok (.bipush 8, 2) := by decide +kernel
theorem dX10_timesAmongImages_7 : decode cX10_timesAmongImages 7 = .ok (.if_icmp .ge 27, 3) := by decide +kernel
theorem dX10_timesAmongImages_10 : decode cX10_timesAmongImages 10 = .ok (.iload_n 2, 1) := by decide +kernel
theorem dX10_timesAmongImages_11 : decode cX10_timesAmongImages 11 = .ok (.aload_n 0, 1) := by decide +kernel
theorem dX10_timesAmongImages_12 : decode cX10_timesAmongImages 12 = .ok (.getfield 77, 3) := by decide +kernel
theorem dX10_timesAmongImages_15 : decode cX10_timesAmongImages 15 = .ok (.iload_n 3, 1) := by decide +kernel
theorem dX10_timesAmongImages_16 : decode cX10_timesAmongImages 16 = .ok (.iaload, 1) := by decide +kernel
theorem dX10_timesAmongImages_17 : decode cX10_timesAmongImages 17 = .ok (.iload_n 1, 1) := by decide +kernel
theorem dX10_timesAmongImages_18 : decode cX10_timesAmongImages 18 = .ok (.if_icmp .ne 7, 3) := by decide +kernel
theorem dX10_timesAmongImages_21 : decode cX10_timesAmongImages 21 = .ok (.iconst 1, 1) := by decide +kernel
theorem dX10_timesAmongImages_22 : decode cX10_timesAmongImages 22 = .ok (.goto 4, 3) := by decide +kernel
theorem dX10_timesAmongImages_25 : decode cX10_timesAmongImages 25 = .ok (.iconst 0, 1) := by decide +kernel
theorem dX10_timesAmongImages_26 : decode cX10_timesAmongImages 26 = .ok (.iadd, 1) := by decide +kernel
theorem dX10_timesAmongImages_27 : decode cX10_timesAmongImages 27 = .ok (.istore_n 2, 1) := by decide +kernel
theorem dX10_timesAmongImages_28 : decode cX10_timesAmongImages 28 = .ok (.iinc 3 1, 3) := by decide +kernel
theorem dX10_timesAmongImages_31 : decode cX10_timesAmongImages 31 = .ok (.goto (-27), 3) := by decide +kernel
theorem dX10_timesAmongImages_34 : decode cX10_timesAmongImages 34 = .ok (.iload_n 2, 1) := by decide +kernel
theorem dX10_timesAmongImages_35 : decode cX10_timesAmongImages 35 = .ok (.ireturn, 1) := by decide +kernel
theorem dX10_firstImage_0 : decode cX10_firstImage 0 = .ok (.iconst 0, 1) := by decide +kernel
theorem dX10_firstImage_1 : decode cX10_firstImage 1 = .ok (.istore_n 2, 1) := by decide +kernel
theorem dX10_firstImage_2 : decode cX10_firstImage 2 = .ok (.iload_n 2, 1) := by decide +kernel
theorem dX10_firstImage_3 : decode cX10_firstImage 3 = .ok (.bipush 8, 2) := by decide +kernel
theorem dX10_firstImage_5 : decode cX10_firstImage 5 = .ok (.if_icmp .ge 21, 3) := by decide +kernel
theorem dX10_firstImage_8 : decode cX10_firstImage 8 = .ok (.aload_n 0, 1) := by decide +kernel
theorem dX10_firstImage_9 : decode cX10_firstImage 9 = .ok (.getfield 77, 3) := by decide +kernel
theorem dX10_firstImage_12 : decode cX10_firstImage 12 = .ok (.iload_n 2, 1) := by decide +kernel
theorem dX10_firstImage_13 : decode cX10_firstImage 13 = .ok (.iaload, 1) := by decide +kernel
theorem dX10_firstImage_14 : decode cX10_firstImage 14 = .ok (.iload_n 1, 1) := by decide +kernel
theorem dX10_firstImage_15 : decode cX10_firstImage 15 = .ok (.if_icmp .ne 5, 3) := by decide +kernel
theorem dX10_firstImage_18 : decode cX10_firstImage 18 = .ok (.iload_n 2, 1) := by decide +kernel
theorem dX10_firstImage_19 : decode cX10_firstImage 19 = .ok (.ireturn, 1) := by decide +kernel
theorem dX10_firstImage_20 : decode cX10_firstImage 20 = .ok (.iinc 2 1, 3) := by decide +kernel
theorem dX10_firstImage_23 : decode cX10_firstImage 23 = .ok (.goto (-21), 3) := by decide +kernel
theorem dX10_firstImage_26 : decode cX10_firstImage 26 = .ok (.iconst (-1), 1) := by decide +kernel
theorem dX10_firstImage_27 : decode cX10_firstImage 27 = .ok (.ireturn, 1) := by decide +kernel
theorem dX10_turnsIntoOther_0 : decode cX10_turnsIntoOther 0 = .ok (.iconst 0, 1) := by decide +kernel
theorem dX10_turnsIntoOther_1 : decode cX10_turnsIntoOther 1 = .ok (.istore_n 2, 1) := by decide +kernel
theorem dX10_turnsIntoOther_2 : decode cX10_turnsIntoOther 2 = .ok (.iload_n 2, 1) := by decide +kernel
theorem dX10_turnsIntoOther_3 : decode cX10_turnsIntoOther 3 = .ok (.iload_n 1, 1) := by decide +kernel
theorem dX10_turnsIntoOther_4 : decode cX10_turnsIntoOther 4 = .ok (.if_icmp .ge 48, 3) := by decide +kernel
theorem dX10_turnsIntoOther_7 : decode cX10_turnsIntoOther 7 = .ok (.aload_n 0, 1) := by decide +kernel
theorem dX10_turnsIntoOther_8 : decode cX10_turnsIntoOther 8 = .ok (.getfield 42, 3) := by decide +kernel
theorem dX10_turnsIntoOther_11 : decode cX10_turnsIntoOther 11 = .ok (.aload_n 0, 1) := by decide +kernel
theorem dX10_turnsIntoOther_12 : decode cX10_turnsIntoOther 12 = .ok (.getfield 70, 3) := by decide +kernel
theorem dX10_turnsIntoOther_15 : decode cX10_turnsIntoOther 15 = .ok (.aload_n 0, 1) := by decide +kernel
theorem dX10_turnsIntoOther_16 : decode cX10_turnsIntoOther 16 = .ok (.getfield 10, 3) := by decide +kernel
theorem dX10_turnsIntoOther_19 : decode cX10_turnsIntoOther 19 = .ok (.iload_n 2, 1) := by decide +kernel
theorem dX10_turnsIntoOther_20 : decode cX10_turnsIntoOther 20 = .ok (.invokevirtual 243, 3) := by decide +kernel
theorem dX10_turnsIntoOther_23 : decode cX10_turnsIntoOther 23 = .ok (.iload_n 2, 1) := by decide +kernel
theorem dX10_turnsIntoOther_24 : decode cX10_turnsIntoOther 24 = .ok (.invokevirtual 246, 3) := by decide +kernel
theorem dX10_turnsIntoOther_27 : decode cX10_turnsIntoOther 27 = .ok (.istore_n 3, 1) := by decide +kernel
theorem dX10_turnsIntoOther_28 : decode cX10_turnsIntoOther 28 = .ok (.iload_n 3, 1) := by decide +kernel
theorem dX10_turnsIntoOther_29 : decode cX10_turnsIntoOther 29 = .ok (.aload_n 0, 1) := by decide +kernel
theorem dX10_turnsIntoOther_30 : decode cX10_turnsIntoOther 30 = .ok (.getfield 10, 3) := by decide +kernel
theorem dX10_turnsIntoOther_33 : decode cX10_turnsIntoOther 33 = .ok (.iload_n 1, 1) := by decide +kernel
theorem dX10_turnsIntoOther_34 : decode cX10_turnsIntoOther 34 = .ok (.iconst 1, 1) := by decide +kernel
theorem dX10_turnsIntoOther_35 : decode cX10_turnsIntoOther 35 = .ok (.iadd, 1) := by decide +kernel
theorem dX10_turnsIntoOther_36 : decode cX10_turnsIntoOther 36 = .ok (.iload_n 2, 1) := by decide +kernel
theorem dX10_turnsIntoOther_37 : decode cX10_turnsIntoOther 37 = .ok (.iadd, 1) := by decide +kernel
theorem dX10_turnsIntoOther_38 : decode cX10_turnsIntoOther 38 = .ok (.invokevirtual 243, 3) := by decide +kernel
theorem dX10_turnsIntoOther_41 : decode cX10_turnsIntoOther 41 = .ok (.if_icmp .eq 5, 3) := by decide +kernel
theorem dX10_turnsIntoOther_44 : decode cX10_turnsIntoOther 44 = .ok (.iconst 0, 1) := by decide +kernel
theorem dX10_turnsIntoOther_45 : decode cX10_turnsIntoOther 45 = .ok (.ireturn, 1) := by decide +kernel
theorem dX10_turnsIntoOther_46 : decode cX10_turnsIntoOther 46 = .ok (.iinc 2 1, 3) := by decide +kernel
theorem dX10_turnsIntoOther_49 : decode cX10_turnsIntoOther 49 = .ok (.goto (-47), 3) := by decide +kernel
theorem dX10_turnsIntoOther_52 : decode cX10_turnsIntoOther 52 = .ok (.iconst 1, 1) := by decide +kernel
theorem dX10_turnsIntoOther_53 : decode cX10_turnsIntoOther 53 = .ok (.ireturn, 1) := by decide +kernel
theorem dX10_way_0 : decode cX10_way 0 = .ok (.iload_n 1, 1) := by decide +kernel
theorem dX10_way_1 : decode cX10_way 1 = .ok (.invokestatic 147, 3) := by decide +kernel
theorem dX10_way_4 : decode cX10_way 4 = .ok (.ifCond .eq 10, 3) := by decide +kernel
theorem dX10_way_7 : decode cX10_way 7 = .ok (.iload_n 2, 1) := by decide +kernel
theorem dX10_way_8 : decode cX10_way 8 = .ok (.invokestatic 147, 3) := by decide +kernel
theorem dX10_way_11 : decode cX10_way 11 = .ok (.ifCond .ne 5, 3) := by decide +kernel
theorem dX10_way_14 : decode cX10_way 14 = .ok (.iconst (-1), 1) := by decide +kernel
theorem dX10_way_15 : decode cX10_way 15 = .ok (.ireturn, 1) := by decide +kernel
theorem dX10_way_16 : decode cX10_way 16 = .ok (.aload_n 0, 1) := by decide +kernel
theorem dX10_way_17 : decode cX10_way 17 = .ok (.getfield 49, 3) := by decide +kernel
theorem dX10_way_20 : decode cX10_way 20 = .ok (.invokevirtual 153, 3) := by decide +kernel
theorem dX10_way_23 : decode cX10_way 23 = .ok (.aload_n 0, 1) := by decide +kernel
theorem dX10_way_24 : decode cX10_way 24 = .ok (.getfield 49, 3) := by decide +kernel
theorem dX10_way_27 : decode cX10_way 27 = .ok (.iload_n 1, 1) := by decide +kernel
theorem dX10_way_28 : decode cX10_way 28 = .ok (.iload_n 2, 1) := by decide +kernel
theorem dX10_way_29 : decode cX10_way 29 = .ok (.invokevirtual 297, 3) := by decide +kernel
theorem dX10_way_32 : decode cX10_way 32 = .ok (.istore_n 3, 1) := by decide +kernel
theorem dX10_way_33 : decode cX10_way 33 = .ok (.iload_n 3, 1) := by decide +kernel
theorem dX10_way_34 : decode cX10_way 34 = .ok (.sipush 1000, 3) := by decide +kernel
theorem dX10_way_37 : decode cX10_way 37 = .ok (.if_icmp .ne 6, 3) := by decide +kernel
theorem dX10_way_40 : decode cX10_way 40 = .ok (.bipush (-2), 2) := by decide +kernel
theorem dX10_way_42 : decode cX10_way 42 = .ok (.ireturn, 1) := by decide +kernel
theorem dX10_way_43 : decode cX10_way 43 = .ok (.aload_n 0, 1) := by decide +kernel
theorem dX10_way_44 : decode cX10_way 44 = .ok (.getfield 26, 3) := by decide +kernel
theorem dX10_way_47 : decode cX10_way 47 = .ok (.invokevirtual 185, 3) := by decide +kernel
theorem dX10_way_50 : decode cX10_way 50 = .ok (.iload_n 1, 1) := by decide +kernel
theorem dX10_way_51 : decode cX10_way 51 = .ok (.istore 4, 2) := by decide +kernel
theorem dX10_way_53 : decode cX10_way 53 = .ok (.iconst 0, 1) := by decide +kernel
theorem dX10_way_54 : decode cX10_way 54 = .ok (.istore 5, 2) := by decide +kernel
theorem dX10_way_56 : decode cX10_way 56 = .ok (.iload 5, 2) := by decide +kernel
theorem dX10_way_58 : decode cX10_way 58 = .ok (.bipush 8, 2) := by decide +kernel
theorem dX10_way_60 : decode cX10_way 60 = .ok (.if_icmp .ge 56, 3) := by decide +kernel
theorem dX10_way_63 : decode cX10_way 63 = .ok (.iload 4, 2) := by decide +kernel
theorem dX10_way_65 : decode cX10_way 65 = .ok (.iload_n 2, 1) := by decide +kernel
theorem dX10_way_66 : decode cX10_way 66 = .ok (.if_icmp .eq 50, 3) := by decide +kernel
theorem dX10_way_69 : decode cX10_way 69 = .ok (.aload_n 0, 1) := by decide +kernel
theorem dX10_way_70 : decode cX10_way 70 = .ok (.getfield 49, 3) := by decide +kernel
theorem dX10_way_73 : decode cX10_way 73 = .ok (.iload 4, 2) := by decide +kernel
theorem dX10_way_75 : decode cX10_way 75 = .ok (.iload_n 2, 1) := by decide +kernel
theorem dX10_way_76 : decode cX10_way 76 = .ok (.invokevirtual 300, 3) := by decide +kernel
theorem dX10_way_79 : decode cX10_way 79 = .ok (.istore 6, 2) := by decide +kernel
theorem dX10_way_81 : decode cX10_way 81 = .ok (.iload 6, 2) := by decide +kernel
theorem dX10_way_83 : decode cX10_way 83 = .ok (.iconst (-1), 1) := by decide +kernel
theorem dX10_way_84 : decode cX10_way 84 = .ok (.if_icmp .eq 26, 3) := by decide +kernel
theorem dX10_way_87 : decode cX10_way 87 = .ok (.aload_n 0, 1) := by decide +kernel
theorem dX10_way_88 : decode cX10_way 88 = .ok (.getfield 26, 3) := by decide +kernel
theorem dX10_way_91 : decode cX10_way 91 = .ok (.iload 6, 2) := by decide +kernel
theorem dX10_way_93 : decode cX10_way 93 = .ok (.i2l, 1) := by decide +kernel
theorem dX10_way_94 : decode cX10_way 94 = .ok (.invokevirtual 191, 3) := by decide +kernel
theorem dX10_way_97 : decode cX10_way 97 = .ok (.aload_n 0, 1) := by decide +kernel
theorem dX10_way_98 : decode cX10_way 98 = .ok (.getfield 19, 3) := by decide +kernel
theorem dX10_way_101 : decode cX10_way 101 = .ok (.iload 4, 2) := by decide +kernel
theorem dX10_way_103 : decode cX10_way 103 = .ok (.iload 6, 2) := by decide +kernel
theorem dX10_way_105 : decode cX10_way 105 = .ok (.invokevirtual 303, 3) := by decide +kernel
theorem dX10_way_108 : decode cX10_way 108 = .ok (.istore 4, 2) := by decide +kernel
theorem dX10_way_110 : decode cX10_way 110 = .ok (.iinc 5 1, 3) := by decide +kernel
theorem dX10_way_113 : decode cX10_way 113 = .ok (.goto (-57), 3) := by decide +kernel
theorem dX10_way_116 : decode cX10_way 116 = .ok (.iload_n 3, 1) := by decide +kernel
theorem dX10_way_117 : decode cX10_way 117 = .ok (.ireturn, 1) := by decide +kernel
theorem dX10_meets_0 : decode cX10_meets 0 = .ok (.iload_n 1, 1) := by decide +kernel
theorem dX10_meets_1 : decode cX10_meets 1 = .ok (.invokestatic 147, 3) := by decide +kernel
theorem dX10_meets_4 : decode cX10_meets 4 = .ok (.ifCond .eq 10, 3) := by decide +kernel
theorem dX10_meets_7 : decode cX10_meets 7 = .ok (.iload_n 2, 1) := by decide +kernel
theorem dX10_meets_8 : decode cX10_meets 8 = .ok (.invokestatic 147, 3) := by decide +kernel
theorem dX10_meets_11 : decode cX10_meets 11 = .ok (.ifCond .ne 5, 3) := by decide +kernel
theorem dX10_meets_14 : decode cX10_meets 14 = .ok (.iconst (-1), 1) := by decide +kernel
theorem dX10_meets_15 : decode cX10_meets 15 = .ok (.ireturn, 1) := by decide +kernel
theorem dX10_meets_16 : decode cX10_meets 16 = .ok (.aload_n 0, 1) := by decide +kernel
theorem dX10_meets_17 : decode cX10_meets 17 = .ok (.getfield 49, 3) := by decide +kernel
theorem dX10_meets_20 : decode cX10_meets 20 = .ok (.invokevirtual 153, 3) := by decide +kernel
theorem dX10_meets_23 : decode cX10_meets 23 = .ok (.aload_n 0, 1) := by decide +kernel
theorem dX10_meets_24 : decode cX10_meets 24 = .ok (.getfield 49, 3) := by decide +kernel
theorem dX10_meets_27 : decode cX10_meets 27 = .ok (.iload_n 1, 1) := by decide +kernel
theorem dX10_meets_28 : decode cX10_meets 28 = .ok (.iload_n 2, 1) := by decide +kernel
theorem dX10_meets_29 : decode cX10_meets 29 = .ok (.invokevirtual 297, 3) := by decide +kernel
theorem dX10_meets_32 : decode cX10_meets 32 = .ok (.sipush 1000, 3) := by decide +kernel
theorem dX10_meets_35 : decode cX10_meets 35 = .ok (.if_icmp .ne 6, 3) := by decide +kernel
theorem dX10_meets_38 : decode cX10_meets 38 = .ok (.bipush (-2), 2) := by decide +kernel
theorem dX10_meets_40 : decode cX10_meets 40 = .ok (.ireturn, 1) := by decide +kernel
theorem dX10_meets_41 : decode cX10_meets 41 = .ok (.iconst 0, 1) := by decide +kernel
theorem dX10_meets_42 : decode cX10_meets 42 = .ok (.istore_n 3, 1) := by decide +kernel
theorem dX10_meets_43 : decode cX10_meets 43 = .ok (.iconst 1, 1) := by decide +kernel
theorem dX10_meets_44 : decode cX10_meets 44 = .ok (.istore 4, 2) := by decide +kernel
theorem dX10_meets_46 : decode cX10_meets 46 = .ok (.iload 4, 2) := by decide +kernel
theorem dX10_meets_48 : decode cX10_meets 48 = .ok (.bipush 8, 2) := by decide +kernel
theorem dX10_meets_50 : decode cX10_meets 50 = .ok (.if_icmp .ge 36, 3) := by decide +kernel
theorem dX10_meets_53 : decode cX10_meets 53 = .ok (.aload_n 0, 1) := by decide +kernel
theorem dX10_meets_54 : decode cX10_meets 54 = .ok (.getfield 49, 3) := by decide +kernel
theorem dX10_meets_57 : decode cX10_meets 57 = .ok (.iload_n 1, 1) := by decide +kernel
theorem dX10_meets_58 : decode cX10_meets 58 = .ok (.iload_n 2, 1) := by decide +kernel
theorem dX10_meets_59 : decode cX10_meets 59 = .ok (.iload 4, 2) := by decide +kernel
theorem dX10_meets_61 : decode cX10_meets 61 = .ok (.invokevirtual 306, 3) := by decide +kernel
theorem dX10_meets_64 : decode cX10_meets 64 = .ok (.aload_n 0, 1) := by decide +kernel
theorem dX10_meets_65 : decode cX10_meets 65 = .ok (.getfield 49, 3) := by decide +kernel
theorem dX10_meets_68 : decode cX10_meets 68 = .ok (.iload_n 1, 1) := by decide +kernel
theorem dX10_meets_69 : decode cX10_meets 69 = .ok (.iload_n 2, 1) := by decide +kernel
theorem dX10_meets_70 : decode cX10_meets 70 = .ok (.iload_n 3, 1) := by decide +kernel
theorem dX10_meets_71 : decode cX10_meets 71 = .ok (.invokevirtual 306, 3) := by decide +kernel
theorem dX10_meets_74 : decode cX10_meets 74 = .ok (.if_icmp .ge 6, 3) := by decide +kernel
theorem dX10_meets_77 : decode cX10_meets 77 = .ok (.iload 4, 2) := by decide +kernel
theorem dX10_meets_79 : decode cX10_meets 79 = .ok (.istore_n 3, 1) := by decide +kernel
theorem dX10_meets_80 : decode cX10_meets 80 = .ok (.iinc 4 1, 3) := by decide +kernel
theorem dX10_meets_83 : decode cX10_meets 83 = .ok (.goto (-37), 3) := by decide +kernel
theorem dX10_meets_86 : decode cX10_meets 86 = .ok (.aload_n 0, 1) := by decide +kernel
theorem dX10_meets_87 : decode cX10_meets 87 = .ok (.getfield 26, 3) := by decide +kernel
theorem dX10_meets_90 : decode cX10_meets 90 = .ok (.invokevirtual 185, 3) := by decide +kernel
theorem dX10_meets_93 : decode cX10_meets 93 = .ok (.aload_n 0, 1) := by decide +kernel
theorem dX10_meets_94 : decode cX10_meets 94 = .ok (.getfield 26, 3) := by decide +kernel
theorem dX10_meets_97 : decode cX10_meets 97 = .ok (.aload_n 0, 1) := by decide +kernel
theorem dX10_meets_98 : decode cX10_meets 98 = .ok (.getfield 49, 3) := by decide +kernel
theorem dX10_meets_101 : decode cX10_meets 101 = .ok (.iload_n 1, 1) := by decide +kernel
theorem dX10_meets_102 : decode cX10_meets 102 = .ok (.iload_n 3, 1) := by decide +kernel
theorem dX10_meets_103 : decode cX10_meets 103 = .ok (.invokevirtual 297, 3) := by decide +kernel
theorem dX10_meets_106 : decode cX10_meets 106 = .ok (.i2l, 1) := by decide +kernel
theorem dX10_meets_107 : decode cX10_meets 107 = .ok (.invokevirtual 191, 3) := by decide +kernel
theorem dX10_meets_110 : decode cX10_meets 110 = .ok (.aload_n 0, 1) := by decide +kernel
theorem dX10_meets_111 : decode cX10_meets 111 = .ok (.getfield 26, 3) := by decide +kernel
theorem dX10_meets_114 : decode cX10_meets 114 = .ok (.aload_n 0, 1) := by decide +kernel
theorem dX10_meets_115 : decode cX10_meets 115 = .ok (.getfield 49, 3) := by decide +kernel
theorem dX10_meets_118 : decode cX10_meets 118 = .ok (.iload_n 2, 1) := by decide +kernel
theorem dX10_meets_119 : decode cX10_meets 119 = .ok (.iload_n 3, 1) := by decide +kernel
theorem dX10_meets_120 : decode cX10_meets 120 = .ok (.invokevirtual 297, 3) := by decide +kernel
theorem dX10_meets_123 : decode cX10_meets 123 = .ok (.i2l, 1) := by decide +kernel
theorem dX10_meets_124 : decode cX10_meets 124 = .ok (.invokevirtual 191, 3) := by decide +kernel
theorem dX10_meets_127 : decode cX10_meets 127 = .ok (.iload_n 3, 1) := by decide +kernel
theorem dX10_meets_128 : decode cX10_meets 128 = .ok (.ireturn, 1) := by decide +kernel
theorem dX10_heart_0 : decode cX10_heart 0 = .ok (.aload_n 0, 1) := by decide +kernel
theorem dX10_heart_1 : decode cX10_heart 1 = .ok (.getfield 19, 3) := by decide +kernel
theorem dX10_heart_4 : decode cX10_heart 4 = .ok (.getfield 129, 3) := by decide +kernel
theorem dX10_heart_7 : decode cX10_heart 7 = .ok (.getfield 260, 3) := by decide +kernel
theorem dX10_heart_10 : decode cX10_heart 10 = .ok (.ifCond .ne 6, 3) := by decide +kernel
theorem dX10_heart_13 : decode cX10_heart 13 = .ok (.bipush (-2), 2) := by decide +kernel
theorem dX10_heart_15 : decode cX10_heart 15 = .ok (.ireturn, 1) := by decide +kernel
theorem dX10_heart_16 : decode cX10_heart 16 = .ok (.aload_n 0, 1) := by decide +kernel
theorem dX10_heart_17 : decode cX10_heart 17 = .ok (.getfield 49, 3) := by decide +kernel
theorem dX10_heart_20 : decode cX10_heart 20 = .ok (.invokevirtual 153, 3) := by decide +kernel
theorem dX10_heart_23 : decode cX10_heart 23 = .ok (.iconst 0, 1) := by decide +kernel
theorem dX10_heart_24 : decode cX10_heart 24 = .ok (.istore_n 1, 1) := by decide +kernel
theorem dX10_heart_25 : decode cX10_heart 25 = .ok (.iconst 1, 1) := by decide +kernel
theorem dX10_heart_26 : decode cX10_heart 26 = .ok (.istore_n 2, 1) := by decide +kernel
theorem dX10_heart_27 : decode cX10_heart 27 = .ok (.iload_n 2, 1) := by decide +kernel
theorem dX10_heart_28 : decode cX10_heart 28 = .ok (.bipush 8, 2) := by decide +kernel
theorem dX10_heart_30 : decode cX10_heart 30 = .ok (.if_icmp .ge 50, 3) := by decide +kernel
theorem dX10_heart_33 : decode cX10_heart 33 = .ok (.aload_n 0, 1) := by decide +kernel
theorem dX10_heart_34 : decode cX10_heart 34 = .ok (.iload_n 2, 1) := by decide +kernel
theorem dX10_heart_35 : decode cX10_heart 35 = .ok (.invokevirtual 309, 3) := by decide +kernel
theorem dX10_heart_38 : decode cX10_heart 38 = .ok (.aload_n 0, 1) := by decide +kernel
theorem dX10_heart_39 : decode cX10_heart 39 = .ok (.iload_n 1, 1) := by decide +kernel
theorem dX10_heart_40 : decode cX10_heart 40 = .ok (.invokevirtual 309, 3) := by decide +kernel
theorem dX10_heart_43 : decode cX10_heart 43 = .ok (.isub, 1) := by decide +kernel
theorem dX10_heart_44 : decode cX10_heart 44 = .ok (.istore_n 3, 1) := by decide +kernel
theorem dX10_heart_45 : decode cX10_heart 45 = .ok (.iload_n 3, 1) := by decide +kernel
theorem dX10_heart_46 : decode cX10_heart 46 = .ok (.ifCond .gt 26, 3) := by decide +kernel
theorem dX10_heart_49 : decode cX10_heart 49 = .ok (.iload_n 3, 1) := by decide +kernel
theorem dX10_heart_50 : decode cX10_heart 50 = .ok (.ifCond .ne 24, 3) := by decide +kernel
theorem dX10_heart_53 : decode cX10_heart 53 = .ok (.aload_n 0, 1) := by decide +kernel
theorem dX10_heart_54 : decode cX10_heart 54 = .ok (.getfield 49, 3) := by decide +kernel
theorem dX10_heart_57 : decode cX10_heart 57 = .ok (.iload_n 2, 1) := by decide +kernel
theorem dX10_heart_58 : decode cX10_heart 58 = .ok (.invokevirtual 159, 3) := by decide +kernel
theorem dX10_heart_61 : decode cX10_heart 61 = .ok (.aload_n 0, 1) := by decide +kernel
theorem dX10_heart_62 : decode cX10_heart 62 = .ok (.getfield 49, 3) := by decide +kernel
theorem dX10_heart_65 : decode cX10_heart 65 = .ok (.iload_n 1, 1) := by decide +kernel
theorem dX10_heart_66 : decode cX10_heart 66 = .ok (.invokevirtual 159, 3) := by decide +kernel
theorem dX10_heart_69 : decode cX10_heart 69 = .ok (.if_icmp .ge 5, 3) := by decide +kernel
theorem dX10_heart_72 : decode cX10_heart 72 = .ok (.iload_n 2, 1) := by decide +kernel
theorem dX10_heart_73 : decode cX10_heart 73 = .ok (.istore_n 1, 1) := by decide +kernel
theorem dX10_heart_74 : decode cX10_heart 74 = .ok (.iinc 2 1, 3) := by decide +kernel
theorem dX10_heart_77 : decode cX10_heart 77 = .ok (.goto (-50), 3) := by decide +kernel
theorem dX10_heart_80 : decode cX10_heart 80 = .ok (.aload_n 0, 1) := by decide +kernel
theorem dX10_heart_81 : decode cX10_heart 81 = .ok (.getfield 26, 3) := by decide +kernel
theorem dX10_heart_84 : decode cX10_heart 84 = .ok (.invokevirtual 185, 3) := by decide +kernel
theorem dX10_heart_87 : decode cX10_heart 87 = .ok (.aload_n 0, 1) := by decide +kernel
theorem dX10_heart_88 : decode cX10_heart 88 = .ok (.getfield 26, 3) := by decide +kernel
theorem dX10_heart_91 : decode cX10_heart 91 = .ok (.aload_n 0, 1) := by decide +kernel
theorem dX10_heart_92 : decode cX10_heart 92 = .ok (.getfield 49, 3) := by decide +kernel
theorem dX10_heart_95 : decode cX10_heart 95 = .ok (.iload_n 1, 1) := by decide +kernel
theorem dX10_heart_96 : decode cX10_heart 96 = .ok (.invokevirtual 159, 3) := by decide +kernel
theorem dX10_heart_99 : decode cX10_heart 99 = .ok (.i2l, 1) := by decide +kernel
theorem dX10_heart_100 : decode cX10_heart 100 = .ok (.invokevirtual 191, 3) := by decide +kernel
theorem dX10_heart_103 : decode cX10_heart 103 = .ok (.aload_n 0, 1) := by decide +kernel
theorem dX10_heart_104 : decode cX10_heart 104 = .ok (.getfield 26, 3) := by decide +kernel
theorem dX10_heart_107 : decode cX10_heart 107 = .ok (.aload_n 0, 1) := by decide +kernel
theorem dX10_heart_108 : decode cX10_heart 108 = .ok (.iload_n 1, 1) := by decide +kernel
theorem dX10_heart_109 : decode cX10_heart 109 = .ok (.invokevirtual 309, 3) := by decide +kernel
theorem dX10_heart_112 : decode cX10_heart 112 = .ok (.i2l, 1) := by decide +kernel
theorem dX10_heart_113 : decode cX10_heart 113 = .ok (.invokevirtual 191, 3) := by decide +kernel
theorem dX10_heart_116 : decode cX10_heart 116 = .ok (.iload_n 1, 1) := by decide +kernel
theorem dX10_heart_117 : decode cX10_heart 117 = .ok (.ireturn, 1) := by decide +kernel
theorem dX10_ropes_0 : decode cX10_ropes 0 = .ok (.iconst 0, 1) := by decide +kernel
theorem dX10_ropes_1 : decode cX10_ropes 1 = .ok (.istore_n 1, 1) := by decide +kernel
theorem dX10_ropes_2 : decode cX10_ropes 2 = .ok (.iconst 0, 1) := by decide +kernel
theorem dX10_ropes_3 : decode cX10_ropes 3 = .ok (.istore_n 2, 1) := by decide +kernel
theorem dX10_ropes_4 : decode cX10_ropes 4 = .ok (.iconst 1, 1) := by decide +kernel
theorem dX10_ropes_5 : decode cX10_ropes 5 = .ok (.istore_n 3, 1) := by decide +kernel
theorem dX10_ropes_6 : decode cX10_ropes 6 = .ok (.iload_n 3, 1) := by decide +kernel
theorem dX10_ropes_7 : decode cX10_ropes 7 = .ok (.bipush 9, 2) := by decide +kernel
theorem dX10_ropes_9 : decode cX10_ropes 9 = .ok (.if_icmp .gt 83, 3) := by decide +kernel
theorem dX10_ropes_12 : decode cX10_ropes 12 = .ok (.iconst 0, 1) := by decide +kernel
theorem dX10_ropes_13 : decode cX10_ropes 13 = .ok (.istore 4, 2) := by decide +kernel
theorem dX10_ropes_15 : decode cX10_ropes 15 = .ok (.iload 4, 2) := by decide +kernel
theorem dX10_ropes_17 : decode cX10_ropes 17 = .ok (.aload_n 0, 1) := by decide +kernel
theorem dX10_ropes_18 : decode cX10_ropes 18 = .ok (.getfield 19, 3) := by decide +kernel
theorem dX10_ropes_21 : decode cX10_ropes 21 = .ok (.getfield 95, 3) := by decide +kernel
theorem dX10_ropes_24 : decode cX10_ropes 24 = .ok (.if_icmp .ge 62, 3) := by decide +kernel
theorem dX10_ropes_27 : decode cX10_ropes 27 = .ok (.aload_n 0, 1) := by decide +kernel
theorem dX10_ropes_28 : decode cX10_ropes 28 = .ok (.getfield 19, 3) := by decide +kernel
theorem dX10_ropes_31 : decode cX10_ropes 31 = .ok (.iload 4, 2) := by decide +kernel
theorem dX10_ropes_33 : decode cX10_ropes 33 = .ok (.invokevirtual 144, 3) := by decide +kernel
theorem dX10_ropes_36 : decode cX10_ropes 36 = .ok (.ifCond .eq 44, 3) := by decide +kernel
theorem dX10_ropes_39 : decode cX10_ropes 39 = .ok (.aload_n 0, 1) := by decide +kernel
theorem dX10_ropes_40 : decode cX10_ropes 40 = .ok (.getfield 19, 3) := by decide +kernel
theorem dX10_ropes_43 : decode cX10_ropes 43 = .ok (.getfield 129, 3) := by decide +kernel
theorem dX10_ropes_46 : decode cX10_ropes 46 = .ok (.getfield 133, 3) := by decide +kernel
theorem dX10_ropes_49 : decode cX10_ropes 49 = .ok (.iload 4, 2) := by decide +kernel
theorem dX10_ropes_51 : decode cX10_ropes 51 = .ok (.iaload, 1) := by decide +kernel
theorem dX10_ropes_52 : decode cX10_ropes 52 = .ok (.iload_n 3, 1) := by decide +kernel
theorem dX10_ropes_53 : decode cX10_ropes 53 = .ok (.if_icmp .ne 27, 3) := by decide +kernel
theorem dX10_ropes_56 : decode cX10_ropes 56 = .ok (.aload_n 0, 1) := by decide +kernel
theorem dX10_ropes_57 : decode cX10_ropes 57 = .ok (.getfield 49, 3) := by decide +kernel
theorem dX10_ropes_60 : decode cX10_ropes 60 = .ok (.iload_n 1, 1) := by decide +kernel
theorem dX10_ropes_61 : decode cX10_ropes 61 = .ok (.iload 4, 2) := by decide +kernel
theorem dX10_ropes_63 : decode cX10_ropes 63 = .ok (.invokevirtual 312, 3) := by decide +kernel
theorem dX10_ropes_66 : decode cX10_ropes 66 = .ok (.ifCond .ne 14, 3) := by decide +kernel
theorem dX10_ropes_69 : decode cX10_ropes 69 = .ok (.iload_n 1, 1) := by decide +kernel
theorem dX10_ropes_70 : decode cX10_ropes 70 = .ok (.iconst 1, 1) := by decide +kernel
theorem dX10_ropes_71 : decode cX10_ropes 71 = .ok (.iload 4, 2) := by decide +kernel
theorem dX10_ropes_73 : decode cX10_ropes 73 = .ok (.ishl, 1) := by decide +kernel
theorem dX10_ropes_74 : decode cX10_ropes 74 = .ok (.ior, 1) := by decide +kernel
theorem dX10_ropes_75 : decode cX10_ropes 75 = .ok (.istore_n 1, 1) := by decide +kernel
theorem dX10_ropes_76 : decode cX10_ropes 76 = .ok (.iload_n 2, 1) := by decide +kernel
theorem dX10_ropes_77 : decode cX10_ropes 77 = .ok (.iload_n 3, 1) := by decide +kernel
theorem dX10_ropes_78 : decode cX10_ropes 78 = .ok (.iadd, 1) := by decide +kernel
theorem dX10_ropes_79 : decode cX10_ropes 79 = .ok (.istore_n 2, 1) := by decide +kernel
theorem dX10_ropes_80 : decode cX10_ropes 80 = .ok (.iinc 4 1, 3) := by decide +kernel
theorem dX10_ropes_83 : decode cX10_ropes 83 = .ok (.goto (-68), 3) := by decide +kernel
theorem dX10_ropes_86 : decode cX10_ropes 86 = .ok (.iinc 3 1, 3) := by decide +kernel
theorem dX10_ropes_89 : decode cX10_ropes 89 = .ok (.goto (-83), 3) := by decide +kernel
theorem dX10_ropes_92 : decode cX10_ropes 92 = .ok (.aload_n 0, 1) := by decide +kernel
theorem dX10_ropes_93 : decode cX10_ropes 93 = .ok (.getfield 26, 3) := by decide +kernel
theorem dX10_ropes_96 : decode cX10_ropes 96 = .ok (.invokevirtual 185, 3) := by decide +kernel
theorem dX10_ropes_99 : decode cX10_ropes 99 = .ok (.aload_n 0, 1) := by decide +kernel
theorem dX10_ropes_100 : decode cX10_ropes 100 = .ok (.getfield 26, 3) := by decide +kernel
theorem dX10_ropes_103 : decode cX10_ropes 103 = .ok (.iload_n 1, 1) := by decide +kernel
theorem dX10_ropes_104 : decode cX10_ropes 104 = .ok (.i2l, 1) := by decide +kernel
theorem dX10_ropes_105 : decode cX10_ropes 105 = .ok (.invokevirtual 191, 3) := by decide +kernel
theorem dX10_ropes_108 : decode cX10_ropes 108 = .ok (.aload_n 0, 1) := by decide +kernel
theorem dX10_ropes_109 : decode cX10_ropes 109 = .ok (.getfield 26, 3) := by decide +kernel
theorem dX10_ropes_112 : decode cX10_ropes 112 = .ok (.iload_n 1, 1) := by decide +kernel
theorem dX10_ropes_113 : decode cX10_ropes 113 = .ok (.invokestatic 263, 3) := by decide +kernel
theorem dX10_ropes_116 : decode cX10_ropes 116 = .ok (.i2l, 1) := by decide +kernel
theorem dX10_ropes_117 : decode cX10_ropes 117 = .ok (.invokevirtual 191, 3) := by decide +kernel
theorem dX10_ropes_120 : decode cX10_ropes 120 = .ok (.iload_n 2, 1) := by decide +kernel
theorem dX10_ropes_121 : decode cX10_ropes 121 = .ok (.ireturn, 1) := by decide +kernel
theorem dX10_needed_0 : decode cX10_needed 0 = .ok (.aload_n 0, 1) := by decide +kernel
theorem dX10_needed_1 : decode cX10_needed 1 = .ok (.getfield 19, 3) := by decide +kernel
theorem dX10_needed_4 : decode cX10_needed 4 = .ok (.getfield 129, 3) := by decide +kernel
theorem dX10_needed_7 : decode cX10_needed 7 = .ok (.getfield 260, 3) := by decide +kernel
theorem dX10_needed_10 : decode cX10_needed 10 = .ok (.istore_n 1, 1) := by decide +kernel
theorem dX10_needed_11 : decode cX10_needed 11 = .ok (.iconst 0, 1) := by decide +kernel
theorem dX10_needed_12 : decode cX10_needed 12 = .ok (.istore_n 2, 1) := by decide +kernel
theorem dX10_needed_13 : decode cX10_needed 13 = .ok (.iconst 0, 1) := by decide +kernel
theorem dX10_needed_14 : decode cX10_needed 14 = .ok (.istore_n 3, 1) := by decide +kernel
theorem dX10_needed_15 : decode cX10_needed 15 = .ok (.iload_n 3, 1) := by decide +kernel
theorem dX10_needed_16 : decode cX10_needed 16 = .ok (.aload_n 0, 1) := by decide +kernel
theorem dX10_needed_17 : decode cX10_needed 17 = .ok (.getfield 19, 3) := by decide +kernel
theorem dX10_needed_20 : decode cX10_needed 20 = .ok (.getfield 95, 3) := by decide +kernel
theorem dX10_needed_23 : decode cX10_needed 23 = .ok (.if_icmp .ge 44, 3) := by decide +kernel
theorem dX10_needed_26 : decode cX10_needed 26 = .ok (.aload_n 0, 1) := by decide +kernel
theorem dX10_needed_27 : decode cX10_needed 27 = .ok (.getfield 19, 3) := by decide +kernel
theorem dX10_needed_30 : decode cX10_needed 30 = .ok (.iload_n 3, 1) := by decide +kernel
theorem dX10_needed_31 : decode cX10_needed 31 = .ok (.invokevirtual 144, 3) := by decide +kernel
theorem dX10_needed_34 : decode cX10_needed 34 = .ok (.ifCond .eq 27, 3) := by decide +kernel
theorem dX10_needed_37 : decode cX10_needed 37 = .ok (.aload_n 0, 1) := by decide +kernel
theorem dX10_needed_38 : decode cX10_needed 38 = .ok (.getfield 49, 3) := by decide +kernel
theorem dX10_needed_41 : decode cX10_needed 41 = .ok (.iload_n 1, 1) := by decide +kernel
theorem dX10_needed_42 : decode cX10_needed 42 = .ok (.iconst 1, 1) := by decide +kernel
theorem dX10_needed_43 : decode cX10_needed 43 = .ok (.iload_n 3, 1) := by decide +kernel
theorem dX10_needed_44 : decode cX10_needed 44 = .ok (.ishl, 1) := by decide +kernel
theorem dX10_needed_45 : decode cX10_needed 45 = .ok (.iconst (-1), 1) := by decide +kernel
theorem dX10_needed_46 : decode cX10_needed 46 = .ok (.ixor, 1) := by decide +kernel
theorem dX10_needed_47 : decode cX10_needed 47 = .ok (.iand, 1) := by decide +kernel
theorem dX10_needed_48 : decode cX10_needed 48 = .ok (.iload_n 3, 1) := by decide +kernel
theorem dX10_needed_49 : decode cX10_needed 49 = .ok (.invokevirtual 312, 3) := by decide +kernel
theorem dX10_needed_52 : decode cX10_needed 52 = .ok (.ifCond .ne 9, 3) := by decide +kernel
theorem dX10_needed_55 : decode cX10_needed 55 = .ok (.iload_n 2, 1) := by decide +kernel
theorem dX10_needed_56 : decode cX10_needed 56 = .ok (.iconst 1, 1) := by decide +kernel
theorem dX10_needed_57 : decode cX10_needed 57 = .ok (.iload_n 3, 1) := by decide +kernel
theorem dX10_needed_58 : decode cX10_needed 58 = .ok (.ishl, 1) := by decide +kernel
theorem dX10_needed_59 : decode cX10_needed 59 = .ok (.ior, 1) := by decide +kernel
theorem dX10_needed_60 : decode cX10_needed 60 = .ok (.istore_n 2, 1) := by decide +kernel
theorem dX10_needed_61 : decode cX10_needed 61 = .ok (.iinc 3 1, 3) := by decide +kernel
theorem dX10_needed_64 : decode cX10_needed 64 = .ok (.goto (-49), 3) := by decide +kernel
theorem dX10_needed_67 : decode cX10_needed 67 = .ok (.aload_n 0, 1) := by decide +kernel
theorem dX10_needed_68 : decode cX10_needed 68 = .ok (.getfield 19, 3) := by decide +kernel
theorem dX10_needed_71 : decode cX10_needed 71 = .ok (.invokevirtual 315, 3) := by decide +kernel
theorem dX10_needed_74 : decode cX10_needed 74 = .ok (.istore_n 3, 1) := by decide +kernel
theorem dX10_needed_75 : decode cX10_needed 75 = .ok (.aload_n 0, 1) := by decide +kernel
theorem dX10_needed_76 : decode cX10_needed 76 = .ok (.getfield 26, 3) := by decide +kernel
theorem dX10_needed_79 : decode cX10_needed 79 = .ok (.invokevirtual 185, 3) := by decide +kernel
theorem dX10_needed_82 : decode cX10_needed 82 = .ok (.aload_n 0, 1) := by decide +kernel
theorem dX10_needed_83 : decode cX10_needed 83 = .ok (.getfield 26, 3) := by decide +kernel
theorem dX10_needed_86 : decode cX10_needed 86 = .ok (.iload_n 2, 1) := by decide +kernel
theorem dX10_needed_87 : decode cX10_needed 87 = .ok (.invokestatic 263, 3) := by decide +kernel
theorem dX10_needed_90 : decode cX10_needed 90 = .ok (.i2l, 1) := by decide +kernel
theorem dX10_needed_91 : decode cX10_needed 91 = .ok (.invokevirtual 191, 3) := by decide +kernel
theorem dX10_needed_94 : decode cX10_needed 94 = .ok (.aload_n 0, 1) := by decide +kernel
theorem dX10_needed_95 : decode cX10_needed 95 = .ok (.getfield 26, 3) := by decide +kernel
theorem dX10_needed_98 : decode cX10_needed 98 = .ok (.iload_n 3, 1) := by decide +kernel
theorem dX10_needed_99 : decode cX10_needed 99 = .ok (.invokestatic 263, 3) := by decide +kernel
theorem dX10_needed_102 : decode cX10_needed 102 = .ok (.i2l, 1) := by decide +kernel
theorem dX10_needed_103 : decode cX10_needed 103 = .ok (.invokevirtual 191, 3) := by decide +kernel
theorem dX10_needed_106 : decode cX10_needed 106 = .ok (.aload_n 0, 1) := by decide +kernel
theorem dX10_needed_107 : decode cX10_needed 107 = .ok (.getfield 26, 3) := by decide +kernel
theorem dX10_needed_110 : decode cX10_needed 110 = .ok (.aload_n 0, 1) := by decide +kernel
theorem dX10_needed_111 : decode cX10_needed 111 = .ok (.getfield 49, 3) := by decide +kernel
theorem dX10_needed_114 : decode cX10_needed 114 = .ok (.iload_n 3, 1) := by decide +kernel
theorem dX10_needed_115 : decode cX10_needed 115 = .ok (.invokevirtual 318, 3) := by decide +kernel
theorem dX10_needed_118 : decode cX10_needed 118 = .ok (.i2l, 1) := by decide +kernel
theorem dX10_needed_119 : decode cX10_needed 119 = .ok (.invokevirtual 191, 3) := by decide +kernel
theorem dX10_needed_122 : decode cX10_needed 122 = .ok (.iload_n 2, 1) := by decide +kernel
theorem dX10_needed_123 : decode cX10_needed 123 = .ok (.ireturn, 1) := by decide +kernel
theorem dX10_tour_0 : decode cX10_tour 0 = .ok (.iload_n 1, 1) := by decide +kernel
theorem dX10_tour_1 : decode cX10_tour 1 = .ok (.invokestatic 147, 3) := by decide +kernel
theorem dX10_tour_4 : decode cX10_tour 4 = .ok (.ifCond .eq 14, 3) := by decide +kernel
theorem dX10_tour_7 : decode cX10_tour 7 = .ok (.iload_n 2, 1) := by decide +kernel
theorem dX10_tour_8 : decode cX10_tour 8 = .ok (.ifCond .lt 10, 3) := by decide +kernel
theorem dX10_tour_11 : decode cX10_tour 11 = .ok (.iload_n 2, 1) := by decide +kernel
theorem dX10_tour_12 : decode cX10_tour 12 = .ok (.sipush 255, 3) := by decide +kernel
theorem dX10_tour_15 : decode cX10_tour 15 = .ok (.if_icmp .le 5, 3) := by decide +kernel
theorem dX10_tour_18 : decode cX10_tour 18 = .ok (.iconst (-1), 1) := by decide +kernel
theorem dX10_tour_19 : decode cX10_tour 19 = .ok (.ireturn, 1) := by decide +kernel
theorem dX10_tour_20 : decode cX10_tour 20 = .ok (.aload_n 0, 1) := by decide +kernel
theorem dX10_tour_21 : decode cX10_tour 21 = .ok (.getfield 49, 3) := by decide +kernel
theorem dX10_tour_24 : decode cX10_tour 24 = .ok (.invokevirtual 153, 3) := by decide +kernel
theorem dX10_tour_27 : decode cX10_tour 27 = .ok (.iload_n 2, 1) := by decide +kernel
theorem dX10_tour_28 : decode cX10_tour 28 = .ok (.aload_n 0, 1) := by decide +kernel
theorem dX10_tour_29 : decode cX10_tour 29 = .ok (.getfield 49, 3) := by decide +kernel
theorem dX10_tour_32 : decode cX10_tour 32 = .ok (.iload_n 1, 1) := by decide +kernel
theorem dX10_tour_33 : decode cX10_tour 33 = .ok (.invokevirtual 156, 3) := by decide +kernel
theorem dX10_tour_36 : decode cX10_tour 36 = .ok (.iconst (-1), 1) := by decide +kernel
theorem dX10_tour_37 : decode cX10_tour 37 = .ok (.ixor, 1) := by decide +kernel
theorem dX10_tour_38 : decode cX10_tour 38 = .ok (.iand, 1) := by decide +kernel
theorem dX10_tour_39 : decode cX10_tour 39 = .ok (.ifCond .eq 6, 3) := by decide +kernel
theorem dX10_tour_42 : decode cX10_tour 42 = .ok (.bipush (-2), 2) := by decide +kernel
theorem dX10_tour_44 : decode cX10_tour 44 = .ok (.ireturn, 1) := by decide +kernel
theorem dX10_tour_45 : decode cX10_tour 45 = .ok (.iload_n 2, 1) := by decide +kernel
theorem dX10_tour_46 : decode cX10_tour 46 = .ok (.iconst 1, 1) := by decide +kernel
theorem dX10_tour_47 : decode cX10_tour 47 = .ok (.iload_n 1, 1) := by decide +kernel
theorem dX10_tour_48 : decode cX10_tour 48 = .ok (.ishl, 1) := by decide +kernel
theorem dX10_tour_49 : decode cX10_tour 49 = .ok (.iconst (-1), 1) := by decide +kernel
theorem dX10_tour_50 : decode cX10_tour 50 = .ok (.ixor, 1) := by decide +kernel
theorem dX10_tour_51 : decode cX10_tour 51 = .ok (.iand, 1) := by decide +kernel
theorem dX10_tour_52 : decode cX10_tour 52 = .ok (.istore_n 3, 1) := by decide +kernel
theorem dX10_tour_53 : decode cX10_tour 53 = .ok (.aload_n 0, 1) := by decide +kernel
theorem dX10_tour_54 : decode cX10_tour 54 = .ok (.getfield 49, 3) := by decide +kernel
theorem dX10_tour_57 : decode cX10_tour 57 = .ok (.iload_n 1, 1) := by decide +kernel
theorem dX10_tour_58 : decode cX10_tour 58 = .ok (.iload_n 3, 1) := by decide +kernel
theorem dX10_tour_59 : decode cX10_tour 59 = .ok (.invokevirtual 321, 3) := by decide +kernel
theorem dX10_tour_62 : decode cX10_tour 62 = .ok (.aload_n 0, 1) := by decide +kernel
theorem dX10_tour_63 : decode cX10_tour 63 = .ok (.getfield 49, 3) := by decide +kernel
theorem dX10_tour_66 : decode cX10_tour 66 = .ok (.iload_n 3, 1) := by decide +kernel
theorem dX10_tour_67 : decode cX10_tour 67 = .ok (.iload_n 1, 1) := by decide +kernel
theorem dX10_tour_68 : decode cX10_tour 68 = .ok (.invokevirtual 324, 3) := by decide +kernel
theorem dX10_tour_71 : decode cX10_tour 71 = .ok (.istore 4, 2) := by decide +kernel
theorem dX10_tour_73 : decode cX10_tour 73 = .ok (.aload_n 0, 1) := by decide +kernel
theorem dX10_tour_74 : decode cX10_tour 74 = .ok (.getfield 26, 3) := by decide +kernel
theorem dX10_tour_77 : decode cX10_tour 77 = .ok (.invokevirtual 185, 3) := by decide +kernel
theorem dX10_tour_80 : decode cX10_tour 80 = .ok (.iload_n 1, 1) := by decide +kernel
theorem dX10_tour_81 : decode cX10_tour 81 = .ok (.istore 5, 2) := by decide +kernel
theorem dX10_tour_83 : decode cX10_tour 83 = .ok (.iload_n 3, 1) := by decide +kernel
theorem dX10_tour_84 : decode cX10_tour 84 = .ok (.invokestatic 263, 3) := by decide +kernel
theorem dX10_tour_87 : decode cX10_tour 87 = .ok (.istore 6, 2) := by decide +kernel
theorem dX10_tour_89 : decode cX10_tour 89 = .ok (.iload 6, 2) := by decide +kernel
theorem dX10_tour_91 : decode cX10_tour 91 = .ok (.ifCond .le 40, 3) := by decide +kernel
theorem dX10_tour_94 : decode cX10_tour 94 = .ok (.aload_n 0, 1) := by decide +kernel
theorem dX10_tour_95 : decode cX10_tour 95 = .ok (.getfield 49, 3) := by decide +kernel
theorem dX10_tour_98 : decode cX10_tour 98 = .ok (.iload_n 3, 1) := by decide +kernel
theorem dX10_tour_99 : decode cX10_tour 99 = .ok (.iload 5, 2) := by decide +kernel
theorem dX10_tour_101 : decode cX10_tour 101 = .ok (.invokevirtual 327, 3) := by decide +kernel
theorem dX10_tour_104 : decode cX10_tour 104 = .ok (.istore 5, 2) := by decide +kernel
theorem dX10_tour_106 : decode cX10_tour 106 = .ok (.iload_n 3, 1) := by decide +kernel
theorem dX10_tour_107 : decode cX10_tour 107 = .ok (.iconst 1, 1) := by decide +kernel
theorem dX10_tour_108 : decode cX10_tour 108 = .ok (.iload 5, 2) := by decide +kernel
theorem dX10_tour_110 : decode cX10_tour 110 = .ok (.ishl, 1) := by decide +kernel
theorem dX10_tour_111 : decode cX10_tour 111 = .ok (.iconst (-1), 1) := by decide +kernel
theorem dX10_tour_112 : decode cX10_tour 112 = .ok (.ixor, 1) := by decide +kernel
theorem dX10_tour_113 : decode cX10_tour 113 = .ok (.iand, 1) := by decide +kernel
theorem dX10_tour_114 : decode cX10_tour 114 = .ok (.istore_n 3, 1) := by decide +kernel
theorem dX10_tour_115 : decode cX10_tour 115 = .ok (.aload_n 0, 1) := by decide +kernel
theorem dX10_tour_116 : decode cX10_tour 116 = .ok (.getfield 26, 3) := by decide +kernel
theorem dX10_tour_119 : decode cX10_tour 119 = .ok (.iload 5, 2) := by decide +kernel
theorem dX10_tour_121 : decode cX10_tour 121 = .ok (.i2l, 1) := by decide +kernel
theorem dX10_tour_122 : decode cX10_tour 122 = .ok (.invokevirtual 191, 3) := by decide +kernel
theorem dX10_tour_125 : decode cX10_tour 125 = .ok (.iinc 6 (-1), 3) := by decide +kernel
theorem dX10_tour_128 : decode cX10_tour 128 = .ok (.goto (-39), 3) := by decide +kernel
theorem dX10_tour_131 : decode cX10_tour 131 = .ok (.iload 4, 2) := by decide +kernel
theorem dX10_tour_133 : decode cX10_tour 133 = .ok (.ireturn, 1) := by decide +kernel
theorem dX10_halves_0 : decode cX10_halves 0 = .ok (.aload_n 0, 1) := by decide +kernel
theorem dX10_halves_1 : decode cX10_halves 1 = .ok (.getfield 49, 3) := by decide +kernel
theorem dX10_halves_4 : decode cX10_halves 4 = .ok (.invokevirtual 330, 3) := by decide +kernel
theorem dX10_halves_7 : decode cX10_halves 7 = .ok (.istore_n 1, 1) := by decide +kernel
theorem dX10_halves_8 : decode cX10_halves 8 = .ok (.aload_n 0, 1) := by decide +kernel
theorem dX10_halves_9 : decode cX10_halves 9 = .ok (.getfield 26, 3) := by decide +kernel
theorem dX10_halves_12 : decode cX10_halves 12 = .ok (.invokevirtual 185, 3) := by decide +kernel
theorem dX10_halves_15 : decode cX10_halves 15 = .ok (.iload_n 1, 1) := by decide +kernel
theorem dX10_halves_16 : decode cX10_halves 16 = .ok (.iconst (-1), 1) := by decide +kernel
theorem dX10_halves_17 : decode cX10_halves 17 = .ok (.if_icmp .ne 5, 3) := by decide +kernel
theorem dX10_halves_20 : decode cX10_halves 20 = .ok (.iconst 0, 1) := by decide +kernel
theorem dX10_halves_21 : decode cX10_halves 21 = .ok (.ireturn, 1) := by decide +kernel
theorem dX10_halves_22 : decode cX10_halves 22 = .ok (.aload_n 0, 1) := by decide +kernel
theorem dX10_halves_23 : decode cX10_halves 23 = .ok (.getfield 26, 3) := by decide +kernel
theorem dX10_halves_26 : decode cX10_halves 26 = .ok (.iload_n 1, 1) := by decide +kernel
theorem dX10_halves_27 : decode cX10_halves 27 = .ok (.i2l, 1) := by decide +kernel
theorem dX10_halves_28 : decode cX10_halves 28 = .ok (.invokevirtual 191, 3) := by decide +kernel
theorem dX10_halves_31 : decode cX10_halves 31 = .ok (.iconst 1, 1) := by decide +kernel
theorem dX10_halves_32 : decode cX10_halves 32 = .ok (.ireturn, 1) := by decide +kernel
theorem dX10_guides_0 : decode cX10_guides 0 = .ok (.sipush 255, 3) := by decide +kernel
theorem dX10_guides_3 : decode cX10_guides 3 = .ok (.istore_n 1, 1) := by decide +kernel
theorem dX10_guides_4 : decode cX10_guides 4 = .ok (.iconst 0, 1) := by decide +kernel
theorem dX10_guides_5 : decode cX10_guides 5 = .ok (.istore_n 2, 1) := by decide +kernel
theorem dX10_guides_6 : decode cX10_guides 6 = .ok (.iload_n 2, 1) := by decide +kernel
theorem dX10_guides_7 : decode cX10_guides 7 = .ok (.sipush 255, 3) := by decide +kernel
