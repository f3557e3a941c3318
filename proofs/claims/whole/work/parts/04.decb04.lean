theorem dX10_guides_10 : decode cX10_guides 10 = .ok (.if_icmp .gt 33, 3) := by decide +kernel
theorem dX10_guides_13 : decode cX10_guides 13 = .ok (.iload_n 2, 1) := by decide +kernel
theorem dX10_guides_14 : decode cX10_guides 14 = .ok (.invokestatic 263, 3) := by decide +kernel
theorem dX10_guides_17 : decode cX10_guides 17 = .ok (.iload_n 1, 1) := by decide +kernel
theorem dX10_guides_18 : decode cX10_guides 18 = .ok (.invokestatic 263, 3) := by decide +kernel
theorem dX10_guides_21 : decode cX10_guides 21 = .ok (.if_icmp .ge 16, 3) := by decide +kernel
theorem dX10_guides_24 : decode cX10_guides 24 = .ok (.aload_n 0, 1) := by decide +kernel
theorem dX10_guides_25 : decode cX10_guides 25 = .ok (.getfield 49, 3) := by decide +kernel
theorem dX10_guides_28 : decode cX10_guides 28 = .ok (.iload_n 2, 1) := by decide +kernel
theorem dX10_guides_29 : decode cX10_guides 29 = .ok (.invokevirtual 333, 3) := by decide +kernel
theorem dX10_guides_32 : decode cX10_guides 32 = .ok (.ifCond .eq 5, 3) := by decide +kernel
theorem dX10_guides_35 : decode cX10_guides 35 = .ok (.iload_n 2, 1) := by decide +kernel
theorem dX10_guides_36 : decode cX10_guides 36 = .ok (.istore_n 1, 1) := by decide +kernel
theorem dX10_guides_37 : decode cX10_guides 37 = .ok (.iinc 2 1, 3) := by decide +kernel
theorem dX10_guides_40 : decode cX10_guides 40 = .ok (.goto (-34), 3) := by decide +kernel
theorem dX10_guides_43 : decode cX10_guides 43 = .ok (.aload_n 0, 1) := by decide +kernel
theorem dX10_guides_44 : decode cX10_guides 44 = .ok (.getfield 26, 3) := by decide +kernel
theorem dX10_guides_47 : decode cX10_guides 47 = .ok (.invokevirtual 185, 3) := by decide +kernel
theorem dX10_guides_50 : decode cX10_guides 50 = .ok (.aload_n 0, 1) := by decide +kernel
theorem dX10_guides_51 : decode cX10_guides 51 = .ok (.getfield 26, 3) := by decide +kernel
theorem dX10_guides_54 : decode cX10_guides 54 = .ok (.iload_n 1, 1) := by decide +kernel
theorem dX10_guides_55 : decode cX10_guides 55 = .ok (.i2l, 1) := by decide +kernel
theorem dX10_guides_56 : decode cX10_guides 56 = .ok (.invokevirtual 191, 3) := by decide +kernel
theorem dX10_guides_59 : decode cX10_guides 59 = .ok (.iload_n 1, 1) := by decide +kernel
theorem dX10_guides_60 : decode cX10_guides 60 = .ok (.invokestatic 263, 3) := by decide +kernel
theorem dX10_guides_63 : decode cX10_guides 63 = .ok (.ireturn, 1) := by decide +kernel
theorem dX10_most_0 : decode cX10_most 0 = .ok (.aload_n 0, 1) := by decide +kernel
theorem dX10_most_1 : decode cX10_most 1 = .ok (.getfield 19, 3) := by decide +kernel
theorem dX10_most_4 : decode cX10_most 4 = .ok (.aload_n 0, 1) := by decide +kernel
theorem dX10_most_5 : decode cX10_most 5 = .ok (.getfield 19, 3) := by decide +kernel
theorem dX10_most_8 : decode cX10_most 8 = .ok (.getfield 95, 3) := by decide +kernel
theorem dX10_most_11 : decode cX10_most 11 = .ok (.iconst 1, 1) := by decide +kernel
theorem dX10_most_12 : decode cX10_most 12 = .ok (.isub, 1) := by decide +kernel
theorem dX10_most_13 : decode cX10_most 13 = .ok (.iconst 0, 1) := by decide +kernel
theorem dX10_most_14 : decode cX10_most 14 = .ok (.iconst 0, 1) := by decide +kernel
theorem dX10_most_15 : decode cX10_most 15 = .ok (.iconst 0, 1) := by decide +kernel
theorem dX10_most_16 : decode cX10_most 16 = .ok (.invokestatic 336, 3) := by decide +kernel
theorem dX10_most_19 : decode cX10_most 19 = .ok (.istore_n 1, 1) := by decide +kernel
theorem dX10_most_20 : decode cX10_most 20 = .ok (.aload_n 0, 1) := by decide +kernel
theorem dX10_most_21 : decode cX10_most 21 = .ok (.getfield 26, 3) := by decide +kernel
theorem dX10_most_24 : decode cX10_most 24 = .ok (.invokevirtual 185, 3) := by decide +kernel
theorem dX10_most_27 : decode cX10_most 27 = .ok (.aload_n 0, 1) := by decide +kernel
theorem dX10_most_28 : decode cX10_most 28 = .ok (.getfield 26, 3) := by decide +kernel
theorem dX10_most_31 : decode cX10_most 31 = .ok (.iload_n 1, 1) := by decide +kernel
theorem dX10_most_32 : decode cX10_most 32 = .ok (.i2l, 1) := by decide +kernel
theorem dX10_most_33 : decode cX10_most 33 = .ok (.invokevirtual 191, 3) := by decide +kernel
theorem dX10_most_36 : decode cX10_most 36 = .ok (.iload_n 1, 1) := by decide +kernel
theorem dX10_most_37 : decode cX10_most 37 = .ok (.invokestatic 263, 3) := by decide +kernel
theorem dX10_most_40 : decode cX10_most 40 = .ok (.ireturn, 1) := by decide +kernel
theorem dX10_joinedCount_0 : decode cX10_joinedCount 0 = .ok (.aload_n 0, 1) := by decide +kernel
theorem dX10_joinedCount_1 : decode cX10_joinedCount 1 = .ok (.getfield 49, 3) := by decide +kernel
theorem dX10_joinedCount_4 : decode cX10_joinedCount 4 = .ok (.iload_n 1, 1) := by decide +kernel
theorem dX10_joinedCount_5 : decode cX10_joinedCount 5 = .ok (.invokevirtual 156, 3) := by decide +kernel
theorem dX10_joinedCount_8 : decode cX10_joinedCount 8 = .ok (.invokestatic 263, 3) := by decide +kernel
theorem dX10_joinedCount_11 : decode cX10_joinedCount 11 = .ok (.ireturn, 1) := by decide +kernel
theorem dX10_told_0 : decode cX10_told 0 = .ok (.aload_n 0, 1) := by decide +kernel
theorem dX10_told_1 : decode cX10_told 1 = .ok (.getfield 56, 3) := by decide +kernel
theorem dX10_told_4 : decode cX10_told 4 = .ok (.iload_n 1, 1) := by decide +kernel
theorem dX10_told_5 : decode cX10_told 5 = .ok (.iload_n 2, 1) := by decide +kernel
theorem dX10_told_6 : decode cX10_told 6 = .ok (.invokevirtual 340, 3) := by decide +kernel
theorem dX10_told_9 : decode cX10_told 9 = .ok (.ifCond .eq 13, 3) := by decide +kernel
theorem dX10_told_12 : decode cX10_told 12 = .ok (.aload_n 0, 1) := by decide +kernel
theorem dX10_told_13 : decode cX10_told 13 = .ok (.getfield 56, 3) := by decide +kernel
theorem dX10_told_16 : decode cX10_told 16 = .ok (.getfield 342, 3) := by decide +kernel
theorem dX10_told_19 : decode cX10_told 19 = .ok (.goto 4, 3) := by decide +kernel
theorem dX10_told_22 : decode cX10_told 22 = .ok (.iconst (-1), 1) := by decide +kernel
theorem dX10_told_23 : decode cX10_told 23 = .ok (.ireturn, 1) := by decide +kernel
theorem dX10_forget_0 : decode cX10_forget 0 = .ok (.aload_n 0, 1) := by decide +kernel
theorem dX10_forget_1 : decode cX10_forget 1 = .ok (.getfield 56, 3) := by decide +kernel
theorem dX10_forget_4 : decode cX10_forget 4 = .ok (.getfield 342, 3) := by decide +kernel
theorem dX10_forget_7 : decode cX10_forget 7 = .ok (.istore_n 1, 1) := by decide +kernel
theorem dX10_forget_8 : decode cX10_forget 8 = .ok (.aload_n 0, 1) := by decide +kernel
theorem dX10_forget_9 : decode cX10_forget 9 = .ok (.getfield 56, 3) := by decide +kernel
theorem dX10_forget_12 : decode cX10_forget 12 = .ok (.iconst 0, 1) := by decide +kernel
theorem dX10_forget_13 : decode cX10_forget 13 = .ok (.putfield 342, 3) := by decide +kernel
theorem dX10_forget_16 : decode cX10_forget 16 = .ok (.iload_n 1, 1) := by decide +kernel
theorem dX10_forget_17 : decode cX10_forget 17 = .ok (.ireturn, 1) := by decide +kernel
theorem dX10_fits_0 : decode cX10_fits 0 = .ok (.aload_n 0, 1) := by decide +kernel
theorem dX10_fits_1 : decode cX10_fits 1 = .ok (.getfield 56, 3) := by decide +kernel
theorem dX10_fits_4 : decode cX10_fits 4 = .ok (.invokevirtual 343, 3) := by decide +kernel
theorem dX10_fits_7 : decode cX10_fits 7 = .ok (.istore_n 1, 1) := by decide +kernel
theorem dX10_fits_8 : decode cX10_fits 8 = .ok (.aload_n 0, 1) := by decide +kernel
theorem dX10_fits_9 : decode cX10_fits 9 = .ok (.getfield 26, 3) := by decide +kernel
theorem dX10_fits_12 : decode cX10_fits 12 = .ok (.invokevirtual 185, 3) := by decide +kernel
theorem dX10_fits_15 : decode cX10_fits 15 = .ok (.aload_n 0, 1) := by decide +kernel
theorem dX10_fits_16 : decode cX10_fits 16 = .ok (.getfield 26, 3) := by decide +kernel
theorem dX10_fits_19 : decode cX10_fits 19 = .ok (.iload_n 1, 1) := by decide +kernel
theorem dX10_fits_20 : decode cX10_fits 20 = .ok (.invokestatic 263, 3) := by decide +kernel
theorem dX10_fits_23 : decode cX10_fits 23 = .ok (.i2l, 1) := by decide +kernel
theorem dX10_fits_24 : decode cX10_fits 24 = .ok (.invokevirtual 191, 3) := by decide +kernel
theorem dX10_fits_27 : decode cX10_fits 27 = .ok (.iload_n 1, 1) := by decide +kernel
theorem dX10_fits_28 : decode cX10_fits 28 = .ok (.ireturn, 1) := by decide +kernel
theorem dX10_next_0 : decode cX10_next 0 = .ok (.aload_n 0, 1) := by decide +kernel
theorem dX10_next_1 : decode cX10_next 1 = .ok (.getfield 56, 3) := by decide +kernel
theorem dX10_next_4 : decode cX10_next 4 = .ok (.invokevirtual 343, 3) := by decide +kernel
theorem dX10_next_7 : decode cX10_next 7 = .ok (.istore_n 1, 1) := by decide +kernel
theorem dX10_next_8 : decode cX10_next 8 = .ok (.iload_n 1, 1) := by decide +kernel
theorem dX10_next_9 : decode cX10_next 9 = .ok (.ifCond .ne 6, 3) := by decide +kernel
theorem dX10_next_12 : decode cX10_next 12 = .ok (.bipush (-2), 2) := by decide +kernel
theorem dX10_next_14 : decode cX10_next 14 = .ok (.ireturn, 1) := by decide +kernel
theorem dX10_next_15 : decode cX10_next 15 = .ok (.iconst (-1), 1) := by decide +kernel
theorem dX10_next_16 : decode cX10_next 16 = .ok (.istore_n 2, 1) := by decide +kernel
theorem dX10_next_17 : decode cX10_next 17 = .ok (.bipush 13, 2) := by decide +kernel
theorem dX10_next_19 : decode cX10_next 19 = .ok (.istore_n 3, 1) := by decide +kernel
theorem dX10_next_20 : decode cX10_next 20 = .ok (.iconst 0, 1) := by decide +kernel
theorem dX10_next_21 : decode cX10_next 21 = .ok (.istore 4, 2) := by decide +kernel
theorem dX10_next_23 : decode cX10_next 23 = .ok (.iload 4, 2) := by decide +kernel
theorem dX10_next_25 : decode cX10_next 25 = .ok (.bipush 8, 2) := by decide +kernel
theorem dX10_next_27 : decode cX10_next 27 = .ok (.if_icmp .ge 51, 3) := by decide +kernel
theorem dX10_next_30 : decode cX10_next 30 = .ok (.iload_n 1, 1) := by decide +kernel
theorem dX10_next_31 : decode cX10_next 31 = .ok (.aload_n 0, 1) := by decide +kernel
theorem dX10_next_32 : decode cX10_next 32 = .ok (.getfield 19, 3) := by decide +kernel
theorem dX10_next_35 : decode cX10_next 35 = .ok (.iload 4, 2) := by decide +kernel
theorem dX10_next_37 : decode cX10_next 37 = .ok (.invokevirtual 346, 3) := by decide +kernel
theorem dX10_next_40 : decode cX10_next 40 = .ok (.iand, 1) := by decide +kernel
theorem dX10_next_41 : decode cX10_next 41 = .ok (.invokestatic 263, 3) := by decide +kernel
theorem dX10_next_44 : decode cX10_next 44 = .ok (.istore 5, 2) := by decide +kernel
theorem dX10_next_46 : decode cX10_next 46 = .ok (.iload 5, 2) := by decide +kernel
theorem dX10_next_48 : decode cX10_next 48 = .ok (.iload_n 1, 1) := by decide +kernel
theorem dX10_next_49 : decode cX10_next 49 = .ok (.invokestatic 263, 3) := by decide +kernel
theorem dX10_next_52 : decode cX10_next 52 = .ok (.iload 5, 2) := by decide +kernel
theorem dX10_next_54 : decode cX10_next 54 = .ok (.isub, 1) := by decide +kernel
theorem dX10_next_55 : decode cX10_next 55 = .ok (.invokestatic 175, 3) := by decide +kernel
theorem dX10_next_58 : decode cX10_next 58 = .ok (.istore 6, 2) := by decide +kernel
theorem dX10_next_60 : decode cX10_next 60 = .ok (.iload 6, 2) := by decide +kernel
theorem dX10_next_62 : decode cX10_next 62 = .ok (.iload_n 3, 1) := by decide +kernel
theorem dX10_next_63 : decode cX10_next 63 = .ok (.if_icmp .ge 9, 3) := by decide +kernel
theorem dX10_next_66 : decode cX10_next 66 = .ok (.iload 4, 2) := by decide +kernel
theorem dX10_next_68 : decode cX10_next 68 = .ok (.istore_n 2, 1) := by decide +kernel
theorem dX10_next_69 : decode cX10_next 69 = .ok (.iload 6, 2) := by decide +kernel
theorem dX10_next_71 : decode cX10_next 71 = .ok (.istore_n 3, 1) := by decide +kernel
theorem dX10_next_72 : decode cX10_next 72 = .ok (.iinc 4 1, 3) := by decide +kernel
theorem dX10_next_75 : decode cX10_next 75 = .ok (.goto (-52), 3) := by decide +kernel
theorem dX10_next_78 : decode cX10_next 78 = .ok (.aload_n 0, 1) := by decide +kernel
theorem dX10_next_79 : decode cX10_next 79 = .ok (.getfield 26, 3) := by decide +kernel
theorem dX10_next_82 : decode cX10_next 82 = .ok (.invokevirtual 185, 3) := by decide +kernel
theorem dX10_next_85 : decode cX10_next 85 = .ok (.aload_n 0, 1) := by decide +kernel
theorem dX10_next_86 : decode cX10_next 86 = .ok (.getfield 26, 3) := by decide +kernel
theorem dX10_next_89 : decode cX10_next 89 = .ok (.iload_n 3, 1) := by decide +kernel
theorem dX10_next_90 : decode cX10_next 90 = .ok (.i2l, 1) := by decide +kernel
theorem dX10_next_91 : decode cX10_next 91 = .ok (.invokevirtual 191, 3) := by decide +kernel
theorem dX10_next_94 : decode cX10_next 94 = .ok (.iload_n 2, 1) := by decide +kernel
theorem dX10_next_95 : decode cX10_next 95 = .ok (.ireturn, 1) := by decide +kernel
theorem dX10_heard_0 : decode cX10_heard 0 = .ok (.aload_n 0, 1) := by decide +kernel
theorem dX10_heard_1 : decode cX10_heard 1 = .ok (.getfield 63, 3) := by decide +kernel
theorem dX10_heard_4 : decode cX10_heard 4 = .ok (.iload_n 1, 1) := by decide +kernel
theorem dX10_heard_5 : decode cX10_heard 5 = .ok (.iload_n 2, 1) := by decide +kernel
theorem dX10_heard_6 : decode cX10_heard 6 = .ok (.iload_n 3, 1) := by decide +kernel
theorem dX10_heard_7 : decode cX10_heard 7 = .ok (.invokevirtual 349, 3) := by decide +kernel
theorem dX10_heard_10 : decode cX10_heard 10 = .ok (.ifCond .eq 13, 3) := by decide +kernel
theorem dX10_heard_13 : decode cX10_heard 13 = .ok (.aload_n 0, 1) := by decide +kernel
theorem dX10_heard_14 : decode cX10_heard 14 = .ok (.getfield 63, 3) := by decide +kernel
theorem dX10_heard_17 : decode cX10_heard 17 = .ok (.getfield 352, 3) := by decide +kernel
theorem dX10_heard_20 : decode cX10_heard 20 = .ok (.goto 4, 3) := by decide +kernel
theorem dX10_heard_23 : decode cX10_heard 23 = .ok (.iconst (-1), 1) := by decide +kernel
theorem dX10_heard_24 : decode cX10_heard 24 = .ok (.ireturn, 1) := by decide +kernel
theorem dX10_denied_0 : decode cX10_denied 0 = .ok (.aload_n 0, 1) := by decide +kernel
theorem dX10_denied_1 : decode cX10_denied 1 = .ok (.getfield 63, 3) := by decide +kernel
theorem dX10_denied_4 : decode cX10_denied 4 = .ok (.getfield 352, 3) := by decide +kernel
theorem dX10_denied_7 : decode cX10_denied 7 = .ok (.istore_n 1, 1) := by decide +kernel
theorem dX10_denied_8 : decode cX10_denied 8 = .ok (.aload_n 0, 1) := by decide +kernel
theorem dX10_denied_9 : decode cX10_denied 9 = .ok (.getfield 63, 3) := by decide +kernel
theorem dX10_denied_12 : decode cX10_denied 12 = .ok (.iconst 0, 1) := by decide +kernel
theorem dX10_denied_13 : decode cX10_denied 13 = .ok (.putfield 352, 3) := by decide +kernel
theorem dX10_denied_16 : decode cX10_denied 16 = .ok (.iload_n 1, 1) := by decide +kernel
theorem dX10_denied_17 : decode cX10_denied 17 = .ok (.ireturn, 1) := by decide +kernel
theorem dX10_laws_0 : decode cX10_laws 0 = .ok (.aload_n 0, 1) := by decide +kernel
theorem dX10_laws_1 : decode cX10_laws 1 = .ok (.getfield 63, 3) := by decide +kernel
theorem dX10_laws_4 : decode cX10_laws 4 = .ok (.invokevirtual 353, 3) := by decide +kernel
theorem dX10_laws_7 : decode cX10_laws 7 = .ok (.aload_n 0, 1) := by decide +kernel
theorem dX10_laws_8 : decode cX10_laws 8 = .ok (.getfield 26, 3) := by decide +kernel
theorem dX10_laws_11 : decode cX10_laws 11 = .ok (.invokevirtual 185, 3) := by decide +kernel
theorem dX10_laws_14 : decode cX10_laws 14 = .ok (.aload_n 0, 1) := by decide +kernel
theorem dX10_laws_15 : decode cX10_laws 15 = .ok (.getfield 63, 3) := by decide +kernel
theorem dX10_laws_18 : decode cX10_laws 18 = .ok (.getfield 356, 3) := by decide +kernel
theorem dX10_laws_21 : decode cX10_laws 21 = .ok (.ifCond .le 43, 3) := by decide +kernel
theorem dX10_laws_24 : decode cX10_laws 24 = .ok (.aload_n 0, 1) := by decide +kernel
theorem dX10_laws_25 : decode cX10_laws 25 = .ok (.getfield 26, 3) := by decide +kernel
theorem dX10_laws_28 : decode cX10_laws 28 = .ok (.aload_n 0, 1) := by decide +kernel
theorem dX10_laws_29 : decode cX10_laws 29 = .ok (.getfield 63, 3) := by decide +kernel
theorem dX10_laws_32 : decode cX10_laws 32 = .ok (.getfield 359, 3) := by decide +kernel
theorem dX10_laws_35 : decode cX10_laws 35 = .ok (.iconst 0, 1) := by decide +kernel
theorem dX10_laws_36 : decode cX10_laws 36 = .ok (.iaload, 1) := by decide +kernel
theorem dX10_laws_37 : decode cX10_laws 37 = .ok (.bipush 8, 2) := by decide +kernel
theorem dX10_laws_39 : decode cX10_laws 39 = .ok (.idiv, 1) := by decide +kernel
theorem dX10_laws_40 : decode cX10_laws 40 = .ok (.i2l, 1) := by decide +kernel
theorem dX10_laws_41 : decode cX10_laws 41 = .ok (.invokevirtual 191, 3) := by decide +kernel
theorem dX10_laws_44 : decode cX10_laws 44 = .ok (.aload_n 0, 1) := by decide +kernel
theorem dX10_laws_45 : decode cX10_laws 45 = .ok (.getfield 26, 3) := by decide +kernel
theorem dX10_laws_48 : decode cX10_laws 48 = .ok (.aload_n 0, 1) := by decide +kernel
theorem dX10_laws_49 : decode cX10_laws 49 = .ok (.getfield 63, 3) := by decide +kernel
theorem dX10_laws_52 : decode cX10_laws 52 = .ok (.getfield 359, 3) := by decide +kernel
theorem dX10_laws_55 : decode cX10_laws 55 = .ok (.iconst 0, 1) := by decide +kernel
theorem dX10_laws_56 : decode cX10_laws 56 = .ok (.iaload, 1) := by decide +kernel
theorem dX10_laws_57 : decode cX10_laws 57 = .ok (.bipush 8, 2) := by decide +kernel
theorem dX10_laws_59 : decode cX10_laws 59 = .ok (.irem, 1) := by decide +kernel
theorem dX10_laws_60 : decode cX10_laws 60 = .ok (.i2l, 1) := by decide +kernel
theorem dX10_laws_61 : decode cX10_laws 61 = .ok (.invokevirtual 191, 3) := by decide +kernel
theorem dX10_laws_64 : decode cX10_laws 64 = .ok (.aload_n 0, 1) := by decide +kernel
theorem dX10_laws_65 : decode cX10_laws 65 = .ok (.getfield 63, 3) := by decide +kernel
theorem dX10_laws_68 : decode cX10_laws 68 = .ok (.getfield 356, 3) := by decide +kernel
theorem dX10_laws_71 : decode cX10_laws 71 = .ok (.ireturn, 1) := by decide +kernel
theorem dX10_listens_0 : decode cX10_listens 0 = .ok (.aload_n 0, 1) := by decide +kernel
theorem dX10_listens_1 : decode cX10_listens 1 = .ok (.getfield 63, 3) := by decide +kernel
theorem dX10_listens_4 : decode cX10_listens 4 = .ok (.invokevirtual 353, 3) := by decide +kernel
theorem dX10_listens_7 : decode cX10_listens 7 = .ok (.aload_n 0, 1) := by decide +kernel
theorem dX10_listens_8 : decode cX10_listens 8 = .ok (.getfield 63, 3) := by decide +kernel
theorem dX10_listens_11 : decode cX10_listens 11 = .ok (.getfield 356, 3) := by decide +kernel
theorem dX10_listens_14 : decode cX10_listens 14 = .ok (.ifCond .ne 6, 3) := by decide +kernel
theorem dX10_listens_17 : decode cX10_listens 17 = .ok (.bipush (-2), 2) := by decide +kernel
theorem dX10_listens_19 : decode cX10_listens 19 = .ok (.ireturn, 1) := by decide +kernel
theorem dX10_listens_20 : decode cX10_listens 20 = .ok (.iconst (-1), 1) := by decide +kernel
theorem dX10_listens_21 : decode cX10_listens 21 = .ok (.istore_n 1, 1) := by decide +kernel
theorem dX10_listens_22 : decode cX10_listens 22 = .ok (.bipush 65, 2) := by decide +kernel
theorem dX10_listens_24 : decode cX10_listens 24 = .ok (.istore_n 2, 1) := by decide +kernel
theorem dX10_listens_25 : decode cX10_listens 25 = .ok (.iconst 0, 1) := by decide +kernel
theorem dX10_listens_26 : decode cX10_listens 26 = .ok (.istore_n 3, 1) := by decide +kernel
theorem dX10_listens_27 : decode cX10_listens 27 = .ok (.iload_n 3, 1) := by decide +kernel
theorem dX10_listens_28 : decode cX10_listens 28 = .ok (.bipush 8, 2) := by decide +kernel
theorem dX10_listens_30 : decode cX10_listens 30 = .ok (.if_icmp .ge 54, 3) := by decide +kernel
theorem dX10_listens_33 : decode cX10_listens 33 = .ok (.iconst 0, 1) := by decide +kernel
theorem dX10_listens_34 : decode cX10_listens 34 = .ok (.istore 4, 2) := by decide +kernel
theorem dX10_listens_36 : decode cX10_listens 36 = .ok (.iload 4, 2) := by decide +kernel
theorem dX10_listens_38 : decode cX10_listens 38 = .ok (.bipush 9, 2) := by decide +kernel
theorem dX10_listens_40 : decode cX10_listens 40 = .ok (.if_icmp .gt 38, 3) := by decide +kernel
theorem dX10_listens_43 : decode cX10_listens 43 = .ok (.aload_n 0, 1) := by decide +kernel
theorem dX10_listens_44 : decode cX10_listens 44 = .ok (.getfield 63, 3) := by decide +kernel
theorem dX10_listens_47 : decode cX10_listens 47 = .ok (.iload_n 3, 1) := by decide +kernel
theorem dX10_listens_48 : decode cX10_listens 48 = .ok (.iload 4, 2) := by decide +kernel
theorem dX10_listens_50 : decode cX10_listens 50 = .ok (.invokevirtual 362, 3) := by decide +kernel
theorem dX10_listens_53 : decode cX10_listens 53 = .ok (.istore 5, 2) := by decide +kernel
theorem dX10_listens_55 : decode cX10_listens 55 = .ok (.iload 5, 2) := by decide +kernel
theorem dX10_listens_57 : decode cX10_listens 57 = .ok (.iload_n 2, 1) := by decide +kernel
theorem dX10_listens_58 : decode cX10_listens 58 = .ok (.if_icmp .ge 14, 3) := by decide +kernel
theorem dX10_listens_61 : decode cX10_listens 61 = .ok (.bipush 10, 2) := by decide +kernel
theorem dX10_listens_63 : decode cX10_listens 63 = .ok (.iload_n 3, 1) := by decide +kernel
theorem dX10_listens_64 : decode cX10_listens 64 = .ok (.imul, 1) := by decide +kernel
theorem dX10_listens_65 : decode cX10_listens 65 = .ok (.iload 4, 2) := by decide +kernel
theorem dX10_listens_67 : decode cX10_listens 67 = .ok (.iadd, 1) := by decide +kernel
theorem dX10_listens_68 : decode cX10_listens 68 = .ok (.istore_n 1, 1) := by decide +kernel
theorem dX10_listens_69 : decode cX10_listens 69 = .ok (.iload 5, 2) := by decide +kernel
theorem dX10_listens_71 : decode cX10_listens 71 = .ok (.istore_n 2, 1) := by decide +kernel
theorem dX10_listens_72 : decode cX10_listens 72 = .ok (.iinc 4 1, 3) := by decide +kernel
theorem dX10_listens_75 : decode cX10_listens 75 = .ok (.goto (-39), 3) := by decide +kernel
theorem dX10_listens_78 : decode cX10_listens 78 = .ok (.iinc 3 1, 3) := by decide +kernel
theorem dX10_listens_81 : decode cX10_listens 81 = .ok (.goto (-54), 3) := by decide +kernel
theorem dX10_listens_84 : decode cX10_listens 84 = .ok (.aload_n 0, 1) := by decide +kernel
theorem dX10_listens_85 : decode cX10_listens 85 = .ok (.getfield 26, 3) := by decide +kernel
theorem dX10_listens_88 : decode cX10_listens 88 = .ok (.invokevirtual 185, 3) := by decide +kernel
theorem dX10_listens_91 : decode cX10_listens 91 = .ok (.aload_n 0, 1) := by decide +kernel
theorem dX10_listens_92 : decode cX10_listens 92 = .ok (.getfield 26, 3) := by decide +kernel
theorem dX10_listens_95 : decode cX10_listens 95 = .ok (.iload_n 2, 1) := by decide +kernel
theorem dX10_listens_96 : decode cX10_listens 96 = .ok (.i2l, 1) := by decide +kernel
theorem dX10_listens_97 : decode cX10_listens 97 = .ok (.invokevirtual 191, 3) := by decide +kernel
theorem dX10_listens_100 : decode cX10_listens 100 = .ok (.iload_n 1, 1) := by decide +kernel
theorem dX10_listens_101 : decode cX10_listens 101 = .ok (.ireturn, 1) := by decide +kernel
theorem dX10_hints_0 : decode cX10_hints 0 = .ok (.iload_n 3, 1) := by decide +kernel
theorem dX10_hints_1 : decode cX10_hints 1 = .ok (.invokestatic 365, 3) := by decide +kernel
theorem dX10_hints_4 : decode cX10_hints 4 = .ok (.ifCond .eq 35, 3) := by decide +kernel
theorem dX10_hints_7 : decode cX10_hints 7 = .ok (.iload 4, 2) := by decide +kernel
theorem dX10_hints_9 : decode cX10_hints 9 = .ok (.invokestatic 365, 3) := by decide +kernel
theorem dX10_hints_12 : decode cX10_hints 12 = .ok (.ifCond .eq 27, 3) := by decide +kernel
theorem dX10_hints_15 : decode cX10_hints 15 = .ok (.iload 5, 2) := by decide +kernel
theorem dX10_hints_17 : decode cX10_hints 17 = .ok (.ifCond .lt 22, 3) := by decide +kernel
theorem dX10_hints_20 : decode cX10_hints 20 = .ok (.iload 5, 2) := by decide +kernel
theorem dX10_hints_22 : decode cX10_hints 22 = .ok (.bipush 10, 2) := by decide +kernel
theorem dX10_hints_24 : decode cX10_hints 24 = .ok (.if_icmp .gt 15, 3) := by decide +kernel
theorem dX10_hints_27 : decode cX10_hints 27 = .ok (.aload_n 0, 1) := by decide +kernel
theorem dX10_hints_28 : decode cX10_hints 28 = .ok (.getfield 42, 3) := by decide +kernel
theorem dX10_hints_31 : decode cX10_hints 31 = .ok (.iload_n 1, 1) := by decide +kernel
theorem dX10_hints_32 : decode cX10_hints 32 = .ok (.iload_n 2, 1) := by decide +kernel
theorem dX10_hints_33 : decode cX10_hints 33 = .ok (.invokevirtual 236, 3) := by decide +kernel
theorem dX10_hints_36 : decode cX10_hints 36 = .ok (.ifCond .ne 5, 3) := by decide +kernel
theorem dX10_hints_39 : decode cX10_hints 39 = .ok (.iconst (-1), 1) := by decide +kernel
theorem dX10_hints_40 : decode cX10_hints 40 = .ok (.ireturn, 1) := by decide +kernel
theorem dX10_hints_41 : decode cX10_hints 41 = .ok (.aload_n 0, 1) := by decide +kernel
theorem dX10_hints_42 : decode cX10_hints 42 = .ok (.getfield 42, 3) := by decide +kernel
theorem dX10_hints_45 : decode cX10_hints 45 = .ok (.aload_n 0, 1) := by decide +kernel
theorem dX10_hints_46 : decode cX10_hints 46 = .ok (.getfield 70, 3) := by decide +kernel
theorem dX10_hints_49 : decode cX10_hints 49 = .ok (.iload_n 3, 1) := by decide +kernel
theorem dX10_hints_50 : decode cX10_hints 50 = .ok (.iload 5, 2) := by decide +kernel
theorem dX10_hints_52 : decode cX10_hints 52 = .ok (.invokevirtual 368, 3) := by decide +kernel
theorem dX10_hints_55 : decode cX10_hints 55 = .ok (.lstore 6, 2) := by decide +kernel
theorem dX10_hints_57 : decode cX10_hints 57 = .ok (.aload_n 0, 1) := by decide +kernel
theorem dX10_hints_58 : decode cX10_hints 58 = .ok (.getfield 42, 3) := by decide +kernel
theorem dX10_hints_61 : decode cX10_hints 61 = .ok (.getfield 372, 3) := by decide +kernel
theorem dX10_hints_64 : decode cX10_hints 64 = .ok (.iload 4, 2) := by decide +kernel
theorem dX10_hints_66 : decode cX10_hints 66 = .ok (.laload, 1) := by decide +kernel
theorem dX10_hints_67 : decode cX10_hints 67 = .ok (.lstore 8, 2) := by decide +kernel
theorem dX10_hints_69 : decode cX10_hints 69 = .ok (.lload 6, 2) := by decide +kernel
theorem dX10_hints_71 : decode cX10_hints 71 = .ok (.lload 8, 2) := by decide +kernel
theorem dX10_hints_73 : decode cX10_hints 73 = .ok (.invokestatic 376, 3) := by decide +kernel
theorem dX10_hints_76 : decode cX10_hints 76 = .ok (.lstore 10, 2) := by decide +kernel
theorem dX10_hints_78 : decode cX10_hints 78 = .ok (.aload_n 0, 1) := by decide +kernel
theorem dX10_hints_79 : decode cX10_hints 79 = .ok (.getfield 26, 3) := by decide +kernel
theorem dX10_hints_82 : decode cX10_hints 82 = .ok (.invokevirtual 185, 3) := by decide +kernel
theorem dX10_hints_85 : decode cX10_hints 85 = .ok (.aload_n 0, 1) := by decide +kernel
theorem dX10_hints_86 : decode cX10_hints 86 = .ok (.getfield 26, 3) := by decide +kernel
theorem dX10_hints_89 : decode cX10_hints 89 = .ok (.lload 8, 2) := by decide +kernel
theorem dX10_hints_91 : decode cX10_hints 91 = .ok (.lload 10, 2) := by decide +kernel
theorem dX10_hints_93 : decode cX10_hints 93 = .ok (.ldiv, 1) := by decide +kernel
theorem dX10_hints_94 : decode cX10_hints 94 = .ok (.invokevirtual 191, 3) := by decide +kernel
theorem dX10_hints_97 : decode cX10_hints 97 = .ok (.aload_n 0, 1) := by decide +kernel
theorem dX10_hints_98 : decode cX10_hints 98 = .ok (.getfield 26, 3) := by decide +kernel
theorem dX10_hints_101 : decode cX10_hints 101 = .ok (.lload 6, 2) := by decide +kernel
theorem dX10_hints_103 : decode cX10_hints 103 = .ok (.lload 10, 2) := by decide +kernel
theorem dX10_hints_105 : decode cX10_hints 105 = .ok (.ldiv, 1) := by decide +kernel
theorem dX10_hints_106 : decode cX10_hints 106 = .ok (.invokevirtual 191, 3) := by decide +kernel
theorem dX10_hints_109 : decode cX10_hints 109 = .ok (.iconst 0, 1) := by decide +kernel
theorem dX10_hints_110 : decode cX10_hints 110 = .ok (.ireturn, 1) := by decide +kernel
theorem dX10_game_0 : decode cX10_game 0 = .ok (.iload_n 1, 1) := by decide +kernel
theorem dX10_game_1 : decode cX10_game 1 = .ok (.ifCond .lt 20, 3) := by decide +kernel
theorem dX10_game_4 : decode cX10_game 4 = .ok (.iload_n 1, 1) := by decide +kernel
theorem dX10_game_5 : decode cX10_game 5 = .ok (.bipush 60, 2) := by decide +kernel
theorem dX10_game_7 : decode cX10_game 7 = .ok (.if_icmp .gt 14, 3) := by decide +kernel
theorem dX10_game_10 : decode cX10_game 10 = .ok (.iload_n 2, 1) := by decide +kernel
theorem dX10_game_11 : decode cX10_game 11 = .ok (.iconst 2, 1) := by decide +kernel
theorem dX10_game_12 : decode cX10_game 12 = .ok (.if_icmp .lt 9, 3) := by decide +kernel
theorem dX10_game_15 : decode cX10_game 15 = .ok (.iload_n 2, 1) := by decide +kernel
theorem dX10_game_16 : decode cX10_game 16 = .ok (.bipush 9, 2) := by decide +kernel
theorem dX10_game_18 : decode cX10_game 18 = .ok (.if_icmp .le 5, 3) := by decide +kernel
theorem dX10_game_21 : decode cX10_game 21 = .ok (.iconst (-1), 1) := by decide +kernel
theorem dX10_game_22 : decode cX10_game 22 = .ok (.ireturn, 1) := by decide +kernel
theorem dX10_game_23 : decode cX10_game 23 = .ok (.iconst 0, 1) := by decide +kernel
theorem dX10_game_24 : decode cX10_game 24 = .ok (.istore_n 3, 1) := by decide +kernel
theorem dX10_game_25 : decode cX10_game 25 = .ok (.iconst 0, 1) := by decide +kernel
theorem dX10_game_26 : decode cX10_game 26 = .ok (.istore 4, 2) := by decide +kernel
theorem dX10_game_28 : decode cX10_game 28 = .ok (.iload 4, 2) := by decide +kernel
theorem dX10_game_30 : decode cX10_game 30 = .ok (.iload_n 1, 1) := by decide +kernel
theorem dX10_game_31 : decode cX10_game 31 = .ok (.if_icmp .gt 31, 3) := by decide +kernel
theorem dX10_game_34 : decode cX10_game 34 = .ok (.aload_n 0, 1) := by decide +kernel
theorem dX10_game_35 : decode cX10_game 35 = .ok (.iload 4, 2) := by decide +kernel
theorem dX10_game_37 : decode cX10_game 37 = .ok (.iload_n 2, 1) := by decide +kernel
theorem dX10_game_38 : decode cX10_game 38 = .ok (.invokevirtual 380, 3) := by decide +kernel
theorem dX10_game_41 : decode cX10_game 41 = .ok (.istore_n 3, 1) := by decide +kernel
theorem dX10_game_42 : decode cX10_game 42 = .ok (.aload_n 0, 1) := by decide +kernel
theorem dX10_game_43 : decode cX10_game 43 = .ok (.getfield 81, 3) := by decide +kernel
theorem dX10_game_46 : decode cX10_game 46 = .ok (.iload 4, 2) := by decide +kernel
theorem dX10_game_48 : decode cX10_game 48 = .ok (.iload 4, 2) := by decide +kernel
theorem dX10_game_50 : decode cX10_game 50 = .ok (.iload_n 2, 1) := by decide +kernel
theorem dX10_game_51 : decode cX10_game 51 = .ok (.iload_n 3, 1) := by decide +kernel
theorem dX10_game_52 : decode cX10_game 52 = .ok (.invokestatic 383, 3) := by decide +kernel
theorem dX10_game_55 : decode cX10_game 55 = .ok (.iastore, 1) := by decide +kernel
theorem dX10_game_56 : decode cX10_game 56 = .ok (.iinc 4 1, 3) := by decide +kernel
theorem dX10_game_59 : decode cX10_game 59 = .ok (.goto (-31), 3) := by decide +kernel
theorem dX10_game_62 : decode cX10_game 62 = .ok (.iconst 1, 1) := by decide +kernel
theorem dX10_game_63 : decode cX10_game 63 = .ok (.istore 4, 2) := by decide +kernel
theorem dX10_game_65 : decode cX10_game 65 = .ok (.iload 4, 2) := by decide +kernel
theorem dX10_game_67 : decode cX10_game 67 = .ok (.iload_n 2, 1) := by decide +kernel
theorem dX10_game_68 : decode cX10_game 68 = .ok (.if_icmp .gt 22, 3) := by decide +kernel
theorem dX10_game_71 : decode cX10_game 71 = .ok (.iload_n 3, 1) := by decide +kernel
theorem dX10_game_72 : decode cX10_game 72 = .ok (.iload 4, 2) := by decide +kernel
theorem dX10_game_74 : decode cX10_game 74 = .ok (.ishr, 1) := by decide +kernel
theorem dX10_game_75 : decode cX10_game 75 = .ok (.iconst 1, 1) := by decide +kernel
theorem dX10_game_76 : decode cX10_game 76 = .ok (.iand, 1) := by decide +kernel
theorem dX10_game_77 : decode cX10_game 77 = .ok (.iconst 1, 1) := by decide +kernel
theorem dX10_game_78 : decode cX10_game 78 = .ok (.if_icmp .ne 6, 3) := by decide +kernel
theorem dX10_game_81 : decode cX10_game 81 = .ok (.iload 4, 2) := by decide +kernel
theorem dX10_game_83 : decode cX10_game 83 = .ok (.ireturn, 1) := by decide +kernel
theorem dX10_game_84 : decode cX10_game 84 = .ok (.iinc 4 1, 3) := by decide +kernel
theorem dX10_game_87 : decode cX10_game 87 = .ok (.goto (-22), 3) := by decide +kernel
theorem dX10_game_90 : decode cX10_game 90 = .ok (.iconst 0, 1) := by decide +kernel
theorem dX10_game_91 : decode cX10_game 91 = .ok (.ireturn, 1) := by decide +kernel
theorem dX10_goodMoves_0 : decode cX10_goodMoves 0 = .ok (.iconst 0, 1) := by decide +kernel
theorem dX10_goodMoves_1 : decode cX10_goodMoves 1 = .ok (.istore_n 3, 1) := by decide +kernel
theorem dX10_goodMoves_2 : decode cX10_goodMoves 2 = .ok (.iconst 1, 1) := by decide +kernel
theorem dX10_goodMoves_3 : decode cX10_goodMoves 3 = .ok (.istore 4, 2) := by decide +kernel
theorem dX10_goodMoves_5 : decode cX10_goodMoves 5 = .ok (.iload 4, 2) := by decide +kernel
theorem dX10_goodMoves_7 : decode cX10_goodMoves 7 = .ok (.iload_n 2, 1) := by decide +kernel
theorem dX10_goodMoves_8 : decode cX10_goodMoves 8 = .ok (.if_icmp .gt 39, 3) := by decide +kernel
theorem dX10_goodMoves_11 : decode cX10_goodMoves 11 = .ok (.iload 4, 2) := by decide +kernel
theorem dX10_goodMoves_13 : decode cX10_goodMoves 13 = .ok (.iload_n 1, 1) := by decide +kernel
theorem dX10_goodMoves_14 : decode cX10_goodMoves 14 = .ok (.if_icmp .gt 33, 3) := by decide +kernel
theorem dX10_goodMoves_17 : decode cX10_goodMoves 17 = .ok (.aload_n 0, 1) := by decide +kernel
theorem dX10_goodMoves_18 : decode cX10_goodMoves 18 = .ok (.getfield 81, 3) := by decide +kernel
theorem dX10_goodMoves_21 : decode cX10_goodMoves 21 = .ok (.iload_n 1, 1) := by decide +kernel
theorem dX10_goodMoves_22 : decode cX10_goodMoves 22 = .ok (.iload 4, 2) := by decide +kernel
theorem dX10_goodMoves_24 : decode cX10_goodMoves 24 = .ok (.isub, 1) := by decide +kernel
theorem dX10_goodMoves_25 : decode cX10_goodMoves 25 = .ok (.iaload, 1) := by decide +kernel
theorem dX10_goodMoves_26 : decode cX10_goodMoves 26 = .ok (.iload 4, 2) := by decide +kernel
theorem dX10_goodMoves_28 : decode cX10_goodMoves 28 = .ok (.ishr, 1) := by decide +kernel
theorem dX10_goodMoves_29 : decode cX10_goodMoves 29 = .ok (.iconst 1, 1) := by decide +kernel
theorem dX10_goodMoves_30 : decode cX10_goodMoves 30 = .ok (.iand, 1) := by decide +kernel
theorem dX10_goodMoves_31 : decode cX10_goodMoves 31 = .ok (.ifCond .ne 10, 3) := by decide +kernel
theorem dX10_goodMoves_34 : decode cX10_goodMoves 34 = .ok (.iload_n 3, 1) := by decide +kernel
theorem dX10_goodMoves_35 : decode cX10_goodMoves 35 = .ok (.iconst 1, 1) := by decide +kernel
theorem dX10_goodMoves_36 : decode cX10_goodMoves 36 = .ok (.iload 4, 2) := by decide +kernel
theorem dX10_goodMoves_38 : decode cX10_goodMoves 38 = .ok (.ishl, 1) := by decide +kernel
theorem dX10_goodMoves_39 : decode cX10_goodMoves 39 = .ok (.ior, 1) := by decide +kernel
theorem dX10_goodMoves_40 : decode cX10_goodMoves 40 = .ok (.istore_n 3, 1) := by decide +kernel
theorem dX10_goodMoves_41 : decode cX10_goodMoves 41 = .ok (.iinc 4 1, 3) := by decide +kernel
theorem dX10_goodMoves_44 : decode cX10_goodMoves 44 = .ok (.goto (-39), 3) := by decide +kernel
theorem dX10_goodMoves_47 : decode cX10_goodMoves 47 = .ok (.iload_n 3, 1) := by decide +kernel
theorem dX10_goodMoves_48 : decode cX10_goodMoves 48 = .ok (.ireturn, 1) := by decide +kernel
theorem dX10_winsBehind_0 : decode cX10_winsBehind 0 = .ok (.iconst 1, 1) := by decide +kernel
theorem dX10_winsBehind_1 : decode cX10_winsBehind 1 = .ok (.iload_n 0, 1) := by decide +kernel
theorem dX10_winsBehind_2 : decode cX10_winsBehind 2 = .ok (.iload_n 1, 1) := by decide +kernel
theorem dX10_winsBehind_3 : decode cX10_winsBehind 3 = .ok (.invokestatic 170, 3) := by decide +kernel
theorem dX10_winsBehind_6 : decode cX10_winsBehind 6 = .ok (.iconst 1, 1) := by decide +kernel
theorem dX10_winsBehind_7 : decode cX10_winsBehind 7 = .ok (.iadd, 1) := by decide +kernel
theorem dX10_winsBehind_8 : decode cX10_winsBehind 8 = .ok (.ishl, 1) := by decide +kernel
theorem dX10_winsBehind_9 : decode cX10_winsBehind 9 = .ok (.iconst 2, 1) := by decide +kernel
theorem dX10_winsBehind_10 : decode cX10_winsBehind 10 = .ok (.isub, 1) := by decide +kernel
theorem dX10_winsBehind_11 : decode cX10_winsBehind 11 = .ok (.istore_n 3, 1) := by decide +kernel
theorem dX10_winsBehind_12 : decode cX10_winsBehind 12 = .ok (.iconst 0, 1) := by decide +kernel
theorem dX10_winsBehind_13 : decode cX10_winsBehind 13 = .ok (.istore 4, 2) := by decide +kernel
theorem dX10_winsBehind_15 : decode cX10_winsBehind 15 = .ok (.iconst 0, 1) := by decide +kernel
theorem dX10_winsBehind_16 : decode cX10_winsBehind 16 = .ok (.istore 5, 2) := by decide +kernel
theorem dX10_winsBehind_18 : decode cX10_winsBehind 18 = .ok (.iload 5, 2) := by decide +kernel
theorem dX10_winsBehind_20 : decode cX10_winsBehind 20 = .ok (.iload_n 1, 1) := by decide +kernel
theorem dX10_winsBehind_21 : decode cX10_winsBehind 21 = .ok (.if_icmp .gt 40, 3) := by decide +kernel
theorem dX10_winsBehind_24 : decode cX10_winsBehind 24 = .ok (.iconst 1, 1) := by decide +kernel
theorem dX10_winsBehind_25 : decode cX10_winsBehind 25 = .ok (.iload 5, 2) := by decide +kernel
theorem dX10_winsBehind_27 : decode cX10_winsBehind 27 = .ok (.ishl, 1) := by decide +kernel
theorem dX10_winsBehind_28 : decode cX10_winsBehind 28 = .ok (.iconst (-1), 1) := by decide +kernel
theorem dX10_winsBehind_29 : decode cX10_winsBehind 29 = .ok (.ixor, 1) := by decide +kernel
theorem dX10_winsBehind_30 : decode cX10_winsBehind 30 = .ok (.istore 6, 2) := by decide +kernel
theorem dX10_winsBehind_32 : decode cX10_winsBehind 32 = .ok (.iload_n 2, 1) := by decide +kernel
theorem dX10_winsBehind_33 : decode cX10_winsBehind 33 = .ok (.iload 6, 2) := by decide +kernel
theorem dX10_winsBehind_35 : decode cX10_winsBehind 35 = .ok (.iand, 1) := by decide +kernel
theorem dX10_winsBehind_36 : decode cX10_winsBehind 36 = .ok (.ifCond .ne 10, 3) := by decide +kernel
theorem dX10_winsBehind_39 : decode cX10_winsBehind 39 = .ok (.iload_n 3, 1) := by decide +kernel
theorem dX10_winsBehind_40 : decode cX10_winsBehind 40 = .ok (.iload 6, 2) := by decide +kernel
theorem dX10_winsBehind_42 : decode cX10_winsBehind 42 = .ok (.iand, 1) := by decide +kernel
theorem dX10_winsBehind_43 : decode cX10_winsBehind 43 = .ok (.ifCond .ne 12, 3) := by decide +kernel
theorem dX10_winsBehind_46 : decode cX10_winsBehind 46 = .ok (.iload 4, 2) := by decide +kernel
theorem dX10_winsBehind_48 : decode cX10_winsBehind 48 = .ok (.iconst 1, 1) := by decide +kernel
theorem dX10_winsBehind_49 : decode cX10_winsBehind 49 = .ok (.iload 5, 2) := by decide +kernel
theorem dX10_winsBehind_51 : decode cX10_winsBehind 51 = .ok (.ishl, 1) := by decide +kernel
theorem dX10_winsBehind_52 : decode cX10_winsBehind 52 = .ok (.ior, 1) := by decide +kernel
theorem dX10_winsBehind_53 : decode cX10_winsBehind 53 = .ok (.istore 4, 2) := by decide +kernel
theorem dX10_winsBehind_55 : decode cX10_winsBehind 55 = .ok (.iinc 5 1, 3) := by decide +kernel
theorem dX10_winsBehind_58 : decode cX10_winsBehind 58 = .ok (.goto (-40), 3) := by decide +kernel
theorem dX10_winsBehind_61 : decode cX10_winsBehind 61 = .ok (.iload 4, 2) := by decide +kernel
theorem dX10_winsBehind_63 : decode cX10_winsBehind 63 = .ok (.ireturn, 1) := by decide +kernel
theorem dX10_commonDivisor_0 : decode cX10_commonDivisor 0 = .ok (.lload_n 0, 1) := by decide +kernel
theorem dX10_commonDivisor_1 : decode cX10_commonDivisor 1 = .ok (.lstore 4, 2) := by decide +kernel
theorem dX10_commonDivisor_3 : decode cX10_commonDivisor 3 = .ok (.lload_n 2, 1) := by decide +kernel
theorem dX10_commonDivisor_4 : decode cX10_commonDivisor 4 = .ok (.lstore 6, 2) := by decide +kernel
theorem dX10_commonDivisor_6 : decode cX10_commonDivisor 6 = .ok (.iconst 0, 1) := by decide +kernel
theorem dX10_commonDivisor_7 : decode cX10_commonDivisor 7 = .ok (.istore 8, 2) := by decide +kernel
theorem dX10_commonDivisor_9 : decode cX10_commonDivisor 9 = .ok (.iload 8, 2) := by decide +kernel
theorem dX10_commonDivisor_11 : decode cX10_commonDivisor 11 = .ok (.sipush 1000, 3) := by decide +kernel
theorem dX10_commonDivisor_14 : decode cX10_commonDivisor 14 = .ok (.if_icmp .ge 31, 3) := by decide +kernel
theorem dX10_commonDivisor_17 : decode cX10_commonDivisor 17 = .ok (.lload 6, 2) := by decide +kernel
theorem dX10_commonDivisor_19 : decode cX10_commonDivisor 19 = .ok (.lconst 0, 1) := by decide +kernel
theorem dX10_commonDivisor_20 : decode cX10_commonDivisor 20 = .ok (.lcmp, 1) := by decide +kernel
theorem dX10_commonDivisor_21 : decode cX10_commonDivisor 21 = .ok (.ifCond .eq 24, 3) := by decide +kernel
theorem dX10_commonDivisor_24 : decode cX10_commonDivisor 24 = .ok (.lload 4, 2) := by decide +kernel
theorem dX10_commonDivisor_26 : decode cX10_commonDivisor 26 = .ok (.lload 6, 2) := by decide +kernel
theorem dX10_commonDivisor_28 : decode cX10_commonDivisor 28 = .ok (.lrem, 1) := by decide +kernel
theorem dX10_commonDivisor_29 : decode cX10_commonDivisor 29 = .ok (.lstore 9, 2) := by decide +kernel
theorem dX10_commonDivisor_31 : decode cX10_commonDivisor 31 = .ok (.lload 6, 2) := by decide +kernel
theorem dX10_commonDivisor_33 : decode cX10_commonDivisor 33 = .ok (.lstore 4, 2) := by decide +kernel
theorem dX10_commonDivisor_35 : decode cX10_commonDivisor 35 = .ok (.lload 9, 2) := by decide +kernel
theorem dX10_commonDivisor_37 : decode cX10_commonDivisor 37 = .ok (.lstore 6, 2) := by decide +kernel
theorem dX10_commonDivisor_39 : decode cX10_commonDivisor 39 = .ok (.iinc 8 1, 3) := by decide +kernel
theorem dX10_commonDivisor_42 : decode cX10_commonDivisor 42 = .ok (.goto (-33), 3) := by decide +kernel
theorem dX10_commonDivisor_45 : decode cX10_commonDivisor 45 = .ok (.lload 4, 2) := by decide +kernel
theorem dX10_commonDivisor_47 : decode cX10_commonDivisor 47 = .ok (.lconst 0, 1) := by decide +kernel
theorem dX10_commonDivisor_48 : decode cX10_commonDivisor 48 = .ok (.lcmp, 1) := by decide +kernel
theorem dX10_commonDivisor_49 : decode cX10_commonDivisor 49 = .ok (.ifCond .le 8, 3) := by decide +kernel
theorem dX10_commonDivisor_52 : decode cX10_commonDivisor 52 = .ok (.lload 4, 2) := by decide +kernel
theorem dX10_commonDivisor_54 : decode cX10_commonDivisor 54 = .ok (.goto 4, 3) := by decide +kernel
theorem dX10_commonDivisor_57 : decode cX10_commonDivisor 57 = .ok (.lconst 1, 1) := by decide +kernel
theorem dX10_commonDivisor_58 : decode cX10_commonDivisor 58 = .ok (.lreturn, 1) := by decide +kernel
theorem dX10_law_0 : decode cX10_law 0 = .ok (.aload_n 0, 1) := by decide +kernel
theorem dX10_law_1 : decode cX10_law 1 = .ok (.getfield 74, 3) := by decide +kernel
theorem dX10_law_4 : decode cX10_law 4 = .ok (.aload_n 0, 1) := by decide +kernel
theorem dX10_law_5 : decode cX10_law 5 = .ok (.getfield 10, 3) := by decide +kernel
theorem dX10_law_8 : decode cX10_law 8 = .ok (.invokevirtual 112, 3) := by decide +kernel
theorem dX10_law_11 : decode cX10_law 11 = .ok (.istore_n 1, 1) := by decide +kernel
theorem dX10_law_12 : decode cX10_law 12 = .ok (.aload_n 0, 1) := by decide +kernel
theorem dX10_law_13 : decode cX10_law 13 = .ok (.getfield 10, 3) := by decide +kernel
theorem dX10_law_16 : decode cX10_law 16 = .ok (.iconst 0, 1) := by decide +kernel
theorem dX10_law_17 : decode cX10_law 17 = .ok (.putfield 88, 3) := by decide +kernel
theorem dX10_law_20 : decode cX10_law 20 = .ok (.iload_n 1, 1) := by decide +kernel
theorem dX10_law_21 : decode cX10_law 21 = .ok (.iconst (-1), 1) := by decide +kernel
theorem dX10_law_22 : decode cX10_law 22 = .ok (.if_icmp .eq 9, 3) := by decide +kernel
theorem dX10_law_25 : decode cX10_law 25 = .ok (.sipush (-10000), 3) := by decide +kernel
theorem dX10_law_28 : decode cX10_law 28 = .ok (.iload_n 1, 1) := by decide +kernel
theorem dX10_law_29 : decode cX10_law 29 = .ok (.isub, 1) := by decide +kernel
theorem dX10_law_30 : decode cX10_law 30 = .ok (.ireturn, 1) := by decide +kernel
theorem dX10_law_31 : decode cX10_law 31 = .ok (.aload_n 0, 1) := by decide +kernel
theorem dX10_law_32 : decode cX10_law 32 = .ok (.aload_n 0, 1) := by decide +kernel
theorem dX10_law_33 : decode cX10_law 33 = .ok (.getfield 74, 3) := by decide +kernel
theorem dX10_law_36 : decode cX10_law 36 = .ok (.invokevirtual 386, 3) := by decide +kernel
theorem dX10_law_39 : decode cX10_law 39 = .ok (.istore_n 2, 1) := by decide +kernel
theorem dX10_law_40 : decode cX10_law 40 = .ok (.aload_n 0, 1) := by decide +kernel
theorem dX10_law_41 : decode cX10_law 41 = .ok (.aload_n 0, 1) := by decide +kernel
theorem dX10_law_42 : decode cX10_law 42 = .ok (.getfield 70, 3) := by decide +kernel
theorem dX10_law_45 : decode cX10_law 45 = .ok (.invokevirtual 386, 3) := by decide +kernel
theorem dX10_law_48 : decode cX10_law 48 = .ok (.istore_n 3, 1) := by decide +kernel
theorem dX10_law_49 : decode cX10_law 49 = .ok (.aload_n 0, 1) := by decide +kernel
theorem dX10_law_50 : decode cX10_law 50 = .ok (.getfield 26, 3) := by decide +kernel
theorem dX10_law_53 : decode cX10_law 53 = .ok (.invokevirtual 185, 3) := by decide +kernel
theorem dX10_law_56 : decode cX10_law 56 = .ok (.aload_n 0, 1) := by decide +kernel
theorem dX10_law_57 : decode cX10_law 57 = .ok (.getfield 26, 3) := by decide +kernel
theorem dX10_law_60 : decode cX10_law 60 = .ok (.iload_n 2, 1) := by decide +kernel
theorem dX10_law_61 : decode cX10_law 61 = .ok (.i2l, 1) := by decide +kernel
theorem dX10_law_62 : decode cX10_law 62 = .ok (.invokevirtual 191, 3) := by decide +kernel
theorem dX10_law_65 : decode cX10_law 65 = .ok (.aload_n 0, 1) := by decide +kernel
theorem dX10_law_66 : decode cX10_law 66 = .ok (.getfield 26, 3) := by decide +kernel
theorem dX10_law_69 : decode cX10_law 69 = .ok (.iload_n 3, 1) := by decide +kernel
theorem dX10_law_70 : decode cX10_law 70 = .ok (.i2l, 1) := by decide +kernel
theorem dX10_law_71 : decode cX10_law 71 = .ok (.invokevirtual 191, 3) := by decide +kernel
theorem dX10_law_74 : decode cX10_law 74 = .ok (.iload_n 2, 1) := by decide +kernel
theorem dX10_law_75 : decode cX10_law 75 = .ok (.iload_n 3, 1) := by decide +kernel
theorem dX10_law_76 : decode cX10_law 76 = .ok (.isub, 1) := by decide +kernel
theorem dX10_law_77 : decode cX10_law 77 = .ok (.ireturn, 1) := by decide +kernel
theorem dX10_rests_0 : decode cX10_rests 0 = .ok (.iload_n 1, 1) := by decide +kernel
theorem dX10_rests_1 : decode cX10_rests 1 = .ok (.ifCond .lt 9, 3) := by decide +kernel
theorem dX10_rests_4 : decode cX10_rests 4 = .ok (.iload_n 1, 1) := by decide +kernel
theorem dX10_rests_5 : decode cX10_rests 5 = .ok (.bipush 20, 2) := by decide +kernel
theorem dX10_rests_7 : decode cX10_rests 7 = .ok (.if_icmp .le 5, 3) := by decide +kernel
theorem dX10_rests_10 : decode cX10_rests 10 = .ok (.iconst (-1), 1) := by decide +kernel
theorem dX10_rests_11 : decode cX10_rests 11 = .ok (.ireturn, 1) := by decide +kernel
theorem dX10_rests_12 : decode cX10_rests 12 = .ok (.aload_n 0, 1) := by decide +kernel
theorem dX10_rests_13 : decode cX10_rests 13 = .ok (.getfield 26, 3) := by decide +kernel
theorem dX10_rests_16 : decode cX10_rests 16 = .ok (.invokevirtual 185, 3) := by decide +kernel
theorem dX10_rests_19 : decode cX10_rests 19 = .ok (.iconst 0, 1) := by decide +kernel
theorem dX10_rests_20 : decode cX10_rests 20 = .ok (.istore_n 2, 1) := by decide +kernel
theorem dX10_rests_21 : decode cX10_rests 21 = .ok (.iconst 0, 1) := by decide +kernel
theorem dX10_rests_22 : decode cX10_rests 22 = .ok (.istore_n 3, 1) := by decide +kernel
theorem dX10_rests_23 : decode cX10_rests 23 = .ok (.iload_n 3, 1) := by decide +kernel
theorem dX10_rests_24 : decode cX10_rests 24 = .ok (.bipush 10, 2) := by decide +kernel
theorem dX10_rests_26 : decode cX10_rests 26 = .ok (.if_icmp .ge 55, 3) := by decide +kernel
theorem dX10_rests_29 : decode cX10_rests 29 = .ok (.iconst 0, 1) := by decide +kernel
theorem dX10_rests_30 : decode cX10_rests 30 = .ok (.istore 4, 2) := by decide +kernel
theorem dX10_rests_32 : decode cX10_rests 32 = .ok (.iload 4, 2) := by decide +kernel
theorem dX10_rests_34 : decode cX10_rests 34 = .ok (.bipush 10, 2) := by decide +kernel
theorem dX10_rests_36 : decode cX10_rests 36 = .ok (.if_icmp .ge 39, 3) := by decide +kernel
theorem dX10_rests_39 : decode cX10_rests 39 = .ok (.iload_n 3, 1) := by decide +kernel
theorem dX10_rests_40 : decode cX10_rests 40 = .ok (.iload 4, 2) := by decide +kernel
theorem dX10_rests_42 : decode cX10_rests 42 = .ok (.iload_n 1, 1) := by decide +kernel
theorem dX10_rests_43 : decode cX10_rests 43 = .ok (.invokestatic 390, 3) := by decide +kernel
theorem dX10_rests_46 : decode cX10_rests 46 = .ok (.ifCond .eq 23, 3) := by decide +kernel
theorem dX10_rests_49 : decode cX10_rests 49 = .ok (.iload 4, 2) := by decide +kernel
theorem dX10_rests_51 : decode cX10_rests 51 = .ok (.iload_n 3, 1) := by decide +kernel
theorem dX10_rests_52 : decode cX10_rests 52 = .ok (.iload_n 1, 1) := by decide +kernel
theorem dX10_rests_53 : decode cX10_rests 53 = .ok (.invokestatic 390, 3) := by decide +kernel
theorem dX10_rests_56 : decode cX10_rests 56 = .ok (.ifCond .eq 13, 3) := by decide +kernel
theorem dX10_rests_59 : decode cX10_rests 59 = .ok (.aload_n 0, 1) := by decide +kernel
theorem dX10_rests_60 : decode cX10_rests 60 = .ok (.iload_n 3, 1) := by decide +kernel
theorem dX10_rests_61 : decode cX10_rests 61 = .ok (.iload 4, 2) := by decide +kernel
theorem dX10_rests_63 : decode cX10_rests 63 = .ok (.invokevirtual 292, 3) := by decide +kernel
theorem dX10_rests_66 : decode cX10_rests 66 = .ok (.iinc 2 1, 3) := by decide +kernel
theorem dX10_rests_69 : decode cX10_rests 69 = .ok (.iinc 4 1, 3) := by decide +kernel
theorem dX10_rests_72 : decode cX10_rests 72 = .ok (.goto (-40), 3) := by decide +kernel
theorem dX10_rests_75 : decode cX10_rests 75 = .ok (.iinc 3 1, 3) := by decide +kernel
theorem dX10_rests_78 : decode cX10_rests 78 = .ok (.goto (-55), 3) := by decide +kernel
theorem dX10_rests_81 : decode cX10_rests 81 = .ok (.iload_n 2, 1) := by decide +kernel
theorem dX10_rests_82 : decode cX10_rests 82 = .ok (.ireturn, 1) := by decide +kernel
theorem dX10_years_0 : decode cX10_years 0 = .ok (.iload_n 2, 1) := by decide +kernel
theorem dX10_years_1 : decode cX10_years 1 = .ok (.iconst 1, 1) := by decide +kernel
theorem dX10_years_2 : decode cX10_years 2 = .ok (.if_icmp .lt 9, 3) := by decide +kernel
theorem dX10_years_5 : decode cX10_years 5 = .ok (.iload_n 2, 1) := by decide +kernel
theorem dX10_years_6 : decode cX10_years 6 = .ok (.bipush 60, 2) := by decide +kernel
theorem dX10_years_8 : decode cX10_years 8 = .ok (.if_icmp .le 5, 3) := by decide +kernel
theorem dX10_years_11 : decode cX10_years 11 = .ok (.iconst (-1), 1) := by decide +kernel
theorem dX10_years_12 : decode cX10_years 12 = .ok (.ireturn, 1) := by decide +kernel
theorem dX10_years_13 : decode cX10_years 13 = .ok (.aload_n 0, 1) := by decide +kernel
theorem dX10_years_14 : decode cX10_years 14 = .ok (.getfield 33, 3) := by decide +kernel
theorem dX10_years_17 : decode cX10_years 17 = .ok (.aload_n 0, 1) := by decide +kernel
theorem dX10_years_18 : decode cX10_years 18 = .ok (.getfield 19, 3) := by decide +kernel
theorem dX10_years_21 : decode cX10_years 21 = .ok (.getfield 129, 3) := by decide +kernel
theorem dX10_years_24 : decode cX10_years 24 = .ok (.invokevirtual 181, 3) := by decide +kernel
theorem dX10_years_27 : decode cX10_years 27 = .ok (.aload_n 0, 1) := by decide +kernel
theorem dX10_years_28 : decode cX10_years 28 = .ok (.iload_n 1, 1) := by decide +kernel
theorem dX10_years_29 : decode cX10_years 29 = .ok (.putfield 84, 3) := by decide +kernel
theorem dX10_years_32 : decode cX10_years 32 = .ok (.iconst 0, 1) := by decide +kernel
theorem dX10_years_33 : decode cX10_years 33 = .ok (.istore_n 3, 1) := by decide +kernel
theorem dX10_years_34 : decode cX10_years 34 = .ok (.iconst 0, 1) := by decide +kernel
theorem dX10_years_35 : decode cX10_years 35 = .ok (.istore 4, 2) := by decide +kernel
theorem dX10_years_37 : decode cX10_years 37 = .ok (.iload 4, 2) := by decide +kernel
theorem dX10_years_39 : decode cX10_years 39 = .ok (.iload_n 2, 1) := by decide +kernel
theorem dX10_years_40 : decode cX10_years 40 = .ok (.if_icmp .ge 16, 3) := by decide +kernel
theorem dX10_years_43 : decode cX10_years 43 = .ok (.iload_n 3, 1) := by decide +kernel
theorem dX10_years_44 : decode cX10_years 44 = .ok (.aload_n 0, 1) := by decide +kernel
theorem dX10_years_45 : decode cX10_years 45 = .ok (.invokevirtual 393, 3) := by decide +kernel
theorem dX10_years_48 : decode cX10_years 48 = .ok (.iadd, 1) := by decide +kernel
theorem dX10_years_49 : decode cX10_years 49 = .ok (.istore_n 3, 1) := by decide +kernel
theorem dX10_years_50 : decode cX10_years 50 = .ok (.iinc 4 1, 3) := by decide +kernel
theorem dX10_years_53 : decode cX10_years 53 = .ok (.goto (-16), 3) := by decide +kernel
theorem dX10_years_56 : decode cX10_years 56 = .ok (.aload_n 0, 1) := by decide +kernel
theorem dX10_years_57 : decode cX10_years 57 = .ok (.getfield 26, 3) := by decide +kernel
theorem dX10_years_60 : decode cX10_years 60 = .ok (.invokevirtual 185, 3) := by decide +kernel
theorem dX10_years_63 : decode cX10_years 63 = .ok (.aload_n 0, 1) := by decide +kernel
theorem dX10_years_64 : decode cX10_years 64 = .ok (.getfield 26, 3) := by decide +kernel
theorem dX10_years_67 : decode cX10_years 67 = .ok (.aload_n 0, 1) := by decide +kernel
theorem dX10_years_68 : decode cX10_years 68 = .ok (.getfield 19, 3) := by decide +kernel
theorem dX10_years_71 : decode cX10_years 71 = .ok (.getfield 129, 3) := by decide +kernel
theorem dX10_years_74 : decode cX10_years 74 = .ok (.getfield 260, 3) := by decide +kernel
theorem dX10_years_77 : decode cX10_years 77 = .ok (.invokestatic 263, 3) := by decide +kernel
theorem dX10_years_80 : decode cX10_years 80 = .ok (.i2l, 1) := by decide +kernel
theorem dX10_years_81 : decode cX10_years 81 = .ok (.invokevirtual 191, 3) := by decide +kernel
theorem dX10_years_84 : decode cX10_years 84 = .ok (.aload_n 0, 1) := by decide +kernel
theorem dX10_years_85 : decode cX10_years 85 = .ok (.getfield 26, 3) := by decide +kernel
theorem dX10_years_88 : decode cX10_years 88 = .ok (.iload_n 3, 1) := by decide +kernel
theorem dX10_years_89 : decode cX10_years 89 = .ok (.i2l, 1) := by decide +kernel
theorem dX10_years_90 : decode cX10_years 90 = .ok (.invokevirtual 191, 3) := by decide +kernel
theorem dX10_years_93 : decode cX10_years 93 = .ok (.aload_n 0, 1) := by decide +kernel
theorem dX10_years_94 : decode cX10_years 94 = .ok (.getfield 19, 3) := by decide +kernel
theorem dX10_years_97 : decode cX10_years 97 = .ok (.invokevirtual 166, 3) := by decide +kernel
theorem dX10_years_100 : decode cX10_years 100 = .ok (.istore 4, 2) := by decide +kernel
theorem dX10_years_102 : decode cX10_years 102 = .ok (.aload_n 0, 1) := by decide +kernel
theorem dX10_years_103 : decode cX10_years 103 = .ok (.getfield 19, 3) := by decide +kernel
theorem dX10_years_106 : decode cX10_years 106 = .ok (.getfield 129, 3) := by decide +kernel
theorem dX10_years_109 : decode cX10_years 109 = .ok (.aload_n 0, 1) := by decide +kernel
theorem dX10_years_110 : decode cX10_years 110 = .ok (.getfield 33, 3) := by decide +kernel
theorem dX10_years_113 : decode cX10_years 113 = .ok (.invokevirtual 396, 3) := by decide +kernel
theorem dX10_years_116 : decode cX10_years 116 = .ok (.invokevirtual 233, 3) := by decide +kernel
theorem dX10_years_119 : decode cX10_years 119 = .ok (.iload 4, 2) := by decide +kernel
theorem dX10_years_121 : decode cX10_years 121 = .ok (.ireturn, 1) := by decide +kernel
theorem dX10_keptBy_0 : decode cX10_keptBy 0 = .ok (.aload_n 0, 1) := by decide +kernel
theorem dX10_keptBy_1 : decode cX10_keptBy 1 = .ok (.getfield 42, 3) := by decide +kernel
theorem dX10_keptBy_4 : decode cX10_keptBy 4 = .ok (.aload_n 1, 1) := by decide +kernel
theorem dX10_keptBy_5 : decode cX10_keptBy 5 = .ok (.invokevirtual 399, 3) := by decide +kernel
theorem dX10_keptBy_8 : decode cX10_keptBy 8 = .ok (.iconst 0, 1) := by decide +kernel
theorem dX10_keptBy_9 : decode cX10_keptBy 9 = .ok (.istore_n 2, 1) := by decide +kernel
theorem dX10_keptBy_10 : decode cX10_keptBy 10 = .ok (.iconst 0, 1) := by decide +kernel
theorem dX10_keptBy_11 : decode cX10_keptBy 11 = .ok (.istore_n 3, 1) := by decide +kernel
theorem dX10_keptBy_12 : decode cX10_keptBy 12 = .ok (.iload_n 3, 1) := by decide +kernel
theorem dX10_keptBy_13 : decode cX10_keptBy 13 = .ok (.bipush 8, 2) := by decide +kernel
theorem dX10_keptBy_15 : decode cX10_keptBy 15 = .ok (.if_icmp .ge 53, 3) := by decide +kernel
theorem dX10_keptBy_18 : decode cX10_keptBy 18 = .ok (.iconst 0, 1) := by decide +kernel
theorem dX10_keptBy_19 : decode cX10_keptBy 19 = .ok (.istore 4, 2) := by decide +kernel
theorem dX10_keptBy_21 : decode cX10_keptBy 21 = .ok (.iload 4, 2) := by decide +kernel
theorem dX10_keptBy_23 : decode cX10_keptBy 23 = .ok (.aload_n 0, 1) := by decide +kernel
theorem dX10_keptBy_24 : decode cX10_keptBy 24 = .ok (.getfield 19, 3) := by decide +kernel
theorem dX10_keptBy_27 : decode cX10_keptBy 27 = .ok (.getfield 95, 3) := by decide +kernel
theorem dX10_keptBy_30 : decode cX10_keptBy 30 = .ok (.if_icmp .ge 32, 3) := by decide +kernel
theorem dX10_keptBy_33 : decode cX10_keptBy 33 = .ok (.aload_n 0, 1) := by decide +kernel
theorem dX10_keptBy_34 : decode cX10_keptBy 34 = .ok (.getfield 42, 3) := by decide +kernel
theorem dX10_keptBy_37 : decode cX10_keptBy 37 = .ok (.iload_n 3, 1) := by decide +kernel
theorem dX10_keptBy_38 : decode cX10_keptBy 38 = .ok (.iload 4, 2) := by decide +kernel
theorem dX10_keptBy_40 : decode cX10_keptBy 40 = .ok (.invokevirtual 236, 3) := by decide +kernel
theorem dX10_keptBy_43 : decode cX10_keptBy 43 = .ok (.ifCond .eq 13, 3) := by decide +kernel
theorem dX10_keptBy_46 : decode cX10_keptBy 46 = .ok (.iload_n 2, 1) := by decide +kernel
theorem dX10_keptBy_47 : decode cX10_keptBy 47 = .ok (.aload_n 0, 1) := by decide +kernel
theorem dX10_keptBy_48 : decode cX10_keptBy 48 = .ok (.getfield 42, 3) := by decide +kernel
theorem dX10_keptBy_51 : decode cX10_keptBy 51 = .ok (.invokevirtual 403, 3) := by decide +kernel
theorem dX10_keptBy_54 : decode cX10_keptBy 54 = .ok (.iadd, 1) := by decide +kernel
theorem dX10_keptBy_55 : decode cX10_keptBy 55 = .ok (.istore_n 2, 1) := by decide +kernel
theorem dX10_keptBy_56 : decode cX10_keptBy 56 = .ok (.iinc 4 1, 3) := by decide +kernel
theorem dX10_keptBy_59 : decode cX10_keptBy 59 = .ok (.goto (-38), 3) := by decide +kernel
theorem dX10_keptBy_62 : decode cX10_keptBy 62 = .ok (.iinc 3 1, 3) := by decide +kernel
theorem dX10_keptBy_65 : decode cX10_keptBy 65 = .ok (.goto (-53), 3) := by decide +kernel
theorem dX10_keptBy_68 : decode cX10_keptBy 68 = .ok (.iload_n 2, 1) := by decide +kernel
theorem dX10_keptBy_69 : decode cX10_keptBy 69 = .ok (.ireturn, 1) := by decide +kernel
theorem dX10_isBestAnswer_0 : decode cX10_isBestAnswer 0 = .ok (.iload_n 0, 1) := by decide +kernel
theorem dX10_isBestAnswer_1 : decode cX10_isBestAnswer 1 = .ok (.iload_n 1, 1) := by decide +kernel
theorem dX10_isBestAnswer_2 : decode cX10_isBestAnswer 2 = .ok (.iload_n 2, 1) := by decide +kernel
theorem dX10_isBestAnswer_3 : decode cX10_isBestAnswer 3 = .ok (.invokestatic 406, 3) := by decide +kernel
theorem dX10_isBestAnswer_6 : decode cX10_isBestAnswer 6 = .ok (.istore_n 3, 1) := by decide +kernel
theorem dX10_isBestAnswer_7 : decode cX10_isBestAnswer 7 = .ok (.iconst 0, 1) := by decide +kernel
theorem dX10_isBestAnswer_8 : decode cX10_isBestAnswer 8 = .ok (.istore 4, 2) := by decide +kernel
theorem dX10_isBestAnswer_10 : decode cX10_isBestAnswer 10 = .ok (.iload 4, 2) := by decide +kernel
theorem dX10_isBestAnswer_12 : decode cX10_isBestAnswer 12 = .ok (.bipush 10, 2) := by decide +kernel
theorem dX10_isBestAnswer_14 : decode cX10_isBestAnswer 14 = .ok (.if_icmp .ge 22, 3) := by decide +kernel
theorem dX10_isBestAnswer_17 : decode cX10_isBestAnswer 17 = .ok (.iload 4, 2) := by decide +kernel
theorem dX10_isBestAnswer_19 : decode cX10_isBestAnswer 19 = .ok (.iload_n 1, 1) := by decide +kernel
theorem dX10_isBestAnswer_20 : decode cX10_isBestAnswer 20 = .ok (.iload_n 2, 1) := by decide +kernel
theorem dX10_isBestAnswer_21 : decode cX10_isBestAnswer 21 = .ok (.invokestatic 406, 3) := by decide +kernel
theorem dX10_isBestAnswer_24 : decode cX10_isBestAnswer 24 = .ok (.iload_n 3, 1) := by decide +kernel
theorem dX10_isBestAnswer_25 : decode cX10_isBestAnswer 25 = .ok (.if_icmp .le 5, 3) := by decide +kernel
theorem dX10_isBestAnswer_28 : decode cX10_isBestAnswer 28 = .ok (.iconst 0, 1) := by decide +kernel
theorem dX10_isBestAnswer_29 : decode cX10_isBestAnswer 29 = .ok (.ireturn, 1) := by decide +kernel
theorem dX10_isBestAnswer_30 : decode cX10_isBestAnswer 30 = .ok (.iinc 4 1, 3) := by decide +kernel
theorem dX10_isBestAnswer_33 : decode cX10_isBestAnswer 33 = .ok (.goto (-23), 3) := by decide +kernel
theorem dX10_isBestAnswer_36 : decode cX10_isBestAnswer 36 = .ok (.iconst 1, 1) := by decide +kernel
theorem dX10_isBestAnswer_37 : decode cX10_isBestAnswer 37 = .ok (.ireturn, 1) := by decide +kernel
theorem dX10_gainOf_0 : decode cX10_gainOf 0 = .ok (.iload_n 0, 1) := by decide +kernel
theorem dX10_gainOf_1 : decode cX10_gainOf 1 = .ok (.iload_n 1, 1) := by decide +kernel
theorem dX10_gainOf_2 : decode cX10_gainOf 2 = .ok (.if_icmp .le 5, 3) := by decide +kernel
theorem dX10_gainOf_5 : decode cX10_gainOf 5 = .ok (.iconst (-1), 1) := by decide +kernel
theorem dX10_gainOf_6 : decode cX10_gainOf 6 = .ok (.ireturn, 1) := by decide +kernel
theorem dX10_gainOf_7 : decode cX10_gainOf 7 = .ok (.iload_n 0, 1) := by decide +kernel
theorem dX10_gainOf_8 : decode cX10_gainOf 8 = .ok (.iload_n 2, 1) := by decide +kernel
theorem dX10_gainOf_9 : decode cX10_gainOf 9 = .ok (.iconst 4, 1) := by decide +kernel
theorem dX10_gainOf_10 : decode cX10_gainOf 10 = .ok (.idiv, 1) := by decide +kernel
theorem dX10_gainOf_11 : decode cX10_gainOf 11 = .ok (.iadd, 1) := by decide +kernel
theorem dX10_gainOf_12 : decode cX10_gainOf 12 = .ok (.istore_n 3, 1) := by decide +kernel
theorem dX10_gainOf_13 : decode cX10_gainOf 13 = .ok (.iload_n 0, 1) := by decide +kernel
theorem dX10_gainOf_14 : decode cX10_gainOf 14 = .ok (.iload_n 1, 1) := by decide +kernel
theorem dX10_gainOf_15 : decode cX10_gainOf 15 = .ok (.if_icmp .ne 9, 3) := by decide +kernel
theorem dX10_gainOf_18 : decode cX10_gainOf 18 = .ok (.iload_n 3, 1) := by decide +kernel
theorem dX10_gainOf_19 : decode cX10_gainOf 19 = .ok (.iconst 2, 1) := by decide +kernel
theorem dX10_gainOf_20 : decode cX10_gainOf 20 = .ok (.idiv, 1) := by decide +kernel
theorem dX10_gainOf_21 : decode cX10_gainOf 21 = .ok (.goto 4, 3) := by decide +kernel
theorem dX10_gainOf_24 : decode cX10_gainOf 24 = .ok (.iload_n 3, 1) := by decide +kernel
theorem dX10_gainOf_25 : decode cX10_gainOf 25 = .ok (.ireturn, 1) := by decide +kernel
theorem dX10_liveYear_0 : decode cX10_liveYear 0 = .ok (.aload_n 0, 1) := by decide +kernel
theorem dX10_liveYear_1 : decode cX10_liveYear 1 = .ok (.iconst 4, 1) := by decide +kernel
theorem dX10_liveYear_2 : decode cX10_liveYear 2 = .ok (.invokevirtual 409, 3) := by decide +kernel
theorem dX10_liveYear_5 : decode cX10_liveYear 5 = .ok (.istore_n 1, 1) := by decide +kernel
theorem dX10_liveYear_6 : decode cX10_liveYear 6 = .ok (.iload_n 1, 1) := by decide +kernel
theorem dX10_liveYear_7 : decode cX10_liveYear 7 = .ok (.ifCond .ne 13, 3) := by decide +kernel
theorem dX10_liveYear_10 : decode cX10_liveYear 10 = .ok (.aload_n 0, 1) := by decide +kernel
theorem dX10_liveYear_11 : decode cX10_liveYear 11 = .ok (.getfield 19, 3) := by decide +kernel
theorem dX10_liveYear_14 : decode cX10_liveYear 14 = .ok (.iconst 1, 1) := by decide +kernel
theorem dX10_liveYear_15 : decode cX10_liveYear 15 = .ok (.invokevirtual 257, 3) := by decide +kernel
theorem dX10_liveYear_18 : decode cX10_liveYear 18 = .ok (.iconst 0, 1) := by decide +kernel
theorem dX10_liveYear_19 : decode cX10_liveYear 19 = .ok (.ireturn, 1) := by decide +kernel
theorem dX10_liveYear_20 : decode cX10_liveYear 20 = .ok (.aload_n 0, 1) := by decide +kernel
theorem dX10_liveYear_21 : decode cX10_liveYear 21 = .ok (.getfield 19, 3) := by decide +kernel
theorem dX10_liveYear_24 : decode cX10_liveYear 24 = .ok (.getfield 95, 3) := by decide +kernel
theorem dX10_liveYear_27 : decode cX10_liveYear 27 = .ok (.ifCond .ne 5, 3) := by decide +kernel
theorem dX10_liveYear_30 : decode cX10_liveYear 30 = .ok (.iconst 0, 1) := by decide +kernel
theorem dX10_liveYear_31 : decode cX10_liveYear 31 = .ok (.ireturn, 1) := by decide +kernel
theorem dX10_liveYear_32 : decode cX10_liveYear 32 = .ok (.iload_n 1, 1) := by decide +kernel
theorem dX10_liveYear_33 : decode cX10_liveYear 33 = .ok (.iconst 3, 1) := by decide +kernel
theorem dX10_liveYear_34 : decode cX10_liveYear 34 = .ok (.if_icmp .ne 21, 3) := by decide +kernel
theorem dX10_liveYear_37 : decode cX10_liveYear 37 = .ok (.aload_n 0, 1) := by decide +kernel
theorem dX10_liveYear_38 : decode cX10_liveYear 38 = .ok (.aload_n 0, 1) := by decide +kernel
theorem dX10_liveYear_39 : decode cX10_liveYear 39 = .ok (.aload_n 0, 1) := by decide +kernel
theorem dX10_liveYear_40 : decode cX10_liveYear 40 = .ok (.getfield 19, 3) := by decide +kernel
theorem dX10_liveYear_43 : decode cX10_liveYear 43 = .ok (.getfield 95, 3) := by decide +kernel
theorem dX10_liveYear_46 : decode cX10_liveYear 46 = .ok (.invokevirtual 409, 3) := by decide +kernel
theorem dX10_liveYear_49 : decode cX10_liveYear 49 = .ok (.invokevirtual 209, 3) := by decide +kernel
theorem dX10_liveYear_52 : decode cX10_liveYear 52 = .ok (.pop, 1) := by decide +kernel
theorem dX10_liveYear_53 : decode cX10_liveYear 53 = .ok (.iconst 0, 1) := by decide +kernel
theorem dX10_liveYear_54 : decode cX10_liveYear 54 = .ok (.ireturn, 1) := by decide +kernel
theorem dX10_liveYear_55 : decode cX10_liveYear 55 = .ok (.aload_n 0, 1) := by decide +kernel
theorem dX10_liveYear_56 : decode cX10_liveYear 56 = .ok (.bipush 8, 2) := by decide +kernel
theorem dX10_liveYear_58 : decode cX10_liveYear 58 = .ok (.invokevirtual 409, 3) := by decide +kernel
theorem dX10_liveYear_61 : decode cX10_liveYear 61 = .ok (.istore_n 2, 1) := by decide +kernel
theorem dX10_liveYear_62 : decode cX10_liveYear 62 = .ok (.aload_n 0, 1) := by decide +kernel
theorem dX10_liveYear_63 : decode cX10_liveYear 63 = .ok (.getfield 42, 3) := by decide +kernel
theorem dX10_liveYear_66 : decode cX10_liveYear 66 = .ok (.iload_n 2, 1) := by decide +kernel
theorem dX10_liveYear_67 : decode cX10_liveYear 67 = .ok (.aload_n 0, 1) := by decide +kernel
theorem dX10_liveYear_68 : decode cX10_liveYear 68 = .ok (.aload_n 0, 1) := by decide +kernel
theorem dX10_liveYear_69 : decode cX10_liveYear 69 = .ok (.getfield 19, 3) := by decide +kernel
theorem dX10_liveYear_72 : decode cX10_liveYear 72 = .ok (.getfield 95, 3) := by decide +kernel
theorem dX10_liveYear_75 : decode cX10_liveYear 75 = .ok (.invokevirtual 409, 3) := by decide +kernel
theorem dX10_liveYear_78 : decode cX10_liveYear 78 = .ok (.invokevirtual 236, 3) := by decide +kernel
theorem dX10_liveYear_81 : decode cX10_liveYear 81 = .ok (.ifCond .ne 5, 3) := by decide +kernel
theorem dX10_liveYear_84 : decode cX10_liveYear 84 = .ok (.iconst 0, 1) := by decide +kernel
theorem dX10_liveYear_85 : decode cX10_liveYear 85 = .ok (.ireturn, 1) := by decide +kernel
theorem dX10_liveYear_86 : decode cX10_liveYear 86 = .ok (.aload_n 0, 1) := by decide +kernel
theorem dX10_liveYear_87 : decode cX10_liveYear 87 = .ok (.getfield 19, 3) := by decide +kernel
theorem dX10_liveYear_90 : decode cX10_liveYear 90 = .ok (.aload_n 0, 1) := by decide +kernel
theorem dX10_liveYear_91 : decode cX10_liveYear 91 = .ok (.getfield 42, 3) := by decide +kernel
theorem dX10_liveYear_94 : decode cX10_liveYear 94 = .ok (.invokevirtual 250, 3) := by decide +kernel
theorem dX10_liveYear_97 : decode cX10_liveYear 97 = .ok (.iconst 1, 1) := by decide +kernel
theorem dX10_liveYear_98 : decode cX10_liveYear 98 = .ok (.ireturn, 1) := by decide +kernel
theorem dX10_draw_0 : decode cX10_draw 0 = .ok (.aload_n 0, 1) := by decide +kernel
theorem dX10_draw_1 : decode cX10_draw 1 = .ok (.aload_n 0, 1) := by decide +kernel
theorem dX10_draw_2 : decode cX10_draw 2 = .ok (.getfield 84, 3) := by decide +kernel
theorem dX10_draw_5 : decode cX10_draw 5 = .ok (.ldc_w 412, 3) := by decide +kernel
theorem dX10_draw_8 : decode cX10_draw 8 = .ok (.imul, 1) := by decide +kernel
theorem dX10_draw_9 : decode cX10_draw 9 = .ok (.sipush 12345, 3) := by decide +kernel
theorem dX10_draw_12 : decode cX10_draw 12 = .ok (.iadd, 1) := by decide +kernel
theorem dX10_draw_13 : decode cX10_draw 13 = .ok (.putfield 84, 3) := by decide +kernel
theorem dX10_draw_16 : decode cX10_draw 16 = .ok (.iload_n 1, 1) := by decide +kernel
theorem dX10_draw_17 : decode cX10_draw 17 = .ok (.ifCond .le 15, 3) := by decide +kernel
theorem dX10_draw_20 : decode cX10_draw 20 = .ok (.aload_n 0, 1) := by decide +kernel
theorem dX10_draw_21 : decode cX10_draw 21 = .ok (.getfield 84, 3) := by decide +kernel
theorem dX10_draw_24 : decode cX10_draw 24 = .ok (.bipush 16, 2) := by decide +kernel
theorem dX10_draw_26 : decode cX10_draw 26 = .ok (.iushr, 1) := by decide +kernel
theorem dX10_draw_27 : decode cX10_draw 27 = .ok (.iload_n 1, 1) := by decide +kernel
theorem dX10_draw_28 : decode cX10_draw 28 = .ok (.irem, 1) := by decide +kernel
theorem dX10_draw_29 : decode cX10_draw 29 = .ok (.goto 4, 3) := by decide +kernel
theorem dX10_draw_32 : decode cX10_draw 32 = .ok (.iconst 0, 1) := by decide +kernel
theorem dX10_draw_33 : decode cX10_draw 33 = .ok (.ireturn, 1) := by decide +kernel
theorem dX10_keep_0 : decode cX10_keep 0 = .ok (.aload_n 0, 1) := by decide +kernel
theorem dX10_keep_1 : decode cX10_keep 1 = .ok (.getfield 33, 3) := by decide +kernel
theorem dX10_keep_4 : decode cX10_keep 4 = .ok (.iload_n 1, 1) := by decide +kernel
theorem dX10_keep_5 : decode cX10_keep 5 = .ok (.aload_n 0, 1) := by decide +kernel
theorem dX10_keep_6 : decode cX10_keep 6 = .ok (.getfield 19, 3) := by decide +kernel
theorem dX10_keep_9 : decode cX10_keep 9 = .ok (.getfield 129, 3) := by decide +kernel
theorem dX10_keep_12 : decode cX10_keep 12 = .ok (.invokevirtual 413, 3) := by decide +kernel
theorem dX10_keep_15 : decode cX10_keep 15 = .ok (.ireturn, 1) := by decide +kernel
theorem dX10_again_0 : decode cX10_again 0 = .ok (.aload_n 0, 1) := by decide +kernel
theorem dX10_again_1 : decode cX10_again 1 = .ok (.getfield 33, 3) := by decide +kernel
theorem dX10_again_4 : decode cX10_again 4 = .ok (.iload_n 1, 1) := by decide +kernel
theorem dX10_again_5 : decode cX10_again 5 = .ok (.invokevirtual 417, 3) := by decide +kernel
theorem dX10_again_8 : decode cX10_again 8 = .ok (.ifCond .ne 5, 3) := by decide +kernel
theorem dX10_again_11 : decode cX10_again 11 = .ok (.iconst 0, 1) := by decide +kernel
theorem dX10_again_12 : decode cX10_again 12 = .ok (.ireturn, 1) := by decide +kernel
theorem dX10_again_13 : decode cX10_again 13 = .ok (.aload_n 0, 1) := by decide +kernel
theorem dX10_again_14 : decode cX10_again 14 = .ok (.getfield 19, 3) := by decide +kernel
theorem dX10_again_17 : decode cX10_again 17 = .ok (.getfield 129, 3) := by decide +kernel
theorem dX10_again_20 : decode cX10_again 20 = .ok (.aload_n 0, 1) := by decide +kernel
theorem dX10_again_21 : decode cX10_again 21 = .ok (.getfield 33, 3) := by decide +kernel
theorem dX10_again_24 : decode cX10_again 24 = .ok (.getfield 420, 3) := by decide +kernel
theorem dX10_again_27 : decode cX10_again 27 = .ok (.iload_n 1, 1) := by decide +kernel
theorem dX10_again_28 : decode cX10_again 28 = .ok (.aaload, 1) := by decide +kernel
theorem dX10_again_29 : decode cX10_again 29 = .ok (.invokevirtual 233, 3) := by decide +kernel
theorem dX10_again_32 : decode cX10_again 32 = .ok (.aload_n 0, 1) := by decide +kernel
theorem dX10_again_33 : decode cX10_again 33 = .ok (.getfield 33, 3) := by decide +kernel
theorem dX10_again_36 : decode cX10_again 36 = .ok (.iconst 0, 1) := by decide +kernel
theorem dX10_again_37 : decode cX10_again 37 = .ok (.putfield 228, 3) := by decide +kernel
theorem dX10_again_40 : decode cX10_again 40 = .ok (.iconst 1, 1) := by decide +kernel
theorem dX10_again_41 : decode cX10_again 41 = .ok (.ireturn, 1) := by decide +kernel
theorem dX10_count_0 : decode cX10_count 0 = .ok (.iload_n 1, 1) := by decide +kernel
theorem dX10_count_1 : decode cX10_count 1 = .ok (.tableswitch 159 0 10 #[59, 67, 81, 92, 103, 111, 119, 127, 135, 143, 151], 59) := by decide +kernel
theorem dX10_count_60 : decode cX10_count 60 = .ok (.aload_n 0, 1) := by decide +kernel
theorem dX10_count_61 : decode cX10_count 61 = .ok (.getfield 19, 3) := by decide +kernel
theorem dX10_count_64 : decode cX10_count 64 = .ok (.getfield 95, 3) := by decide +kernel
theorem dX10_count_67 : decode cX10_count 67 = .ok (.ireturn, 1) := by decide +kernel
theorem dX10_count_68 : decode cX10_count 68 = .ok (.aload_n 0, 1) := by decide +kernel
theorem dX10_count_69 : decode cX10_count 69 = .ok (.getfield 19, 3) := by decide +kernel
theorem dX10_count_72 : decode cX10_count 72 = .ok (.getfield 129, 3) := by decide +kernel
theorem dX10_count_75 : decode cX10_count 75 = .ok (.getfield 260, 3) := by decide +kernel
theorem dX10_count_78 : decode cX10_count 78 = .ok (.invokestatic 263, 3) := by decide +kernel
theorem dX10_count_81 : decode cX10_count 81 = .ok (.ireturn, 1) := by decide +kernel
theorem dX10_count_82 : decode cX10_count 82 = .ok (.aload_n 0, 1) := by decide +kernel
theorem dX10_count_83 : decode cX10_count 83 = .ok (.getfield 19, 3) := by decide +kernel
theorem dX10_count_86 : decode cX10_count 86 = .ok (.getfield 129, 3) := by decide +kernel
theorem dX10_count_89 : decode cX10_count 89 = .ok (.getfield 424, 3) := by decide +kernel
theorem dX10_count_92 : decode cX10_count 92 = .ok (.ireturn, 1) := by decide +kernel
theorem dX10_count_93 : decode cX10_count 93 = .ok (.aload_n 0, 1) := by decide +kernel
theorem dX10_count_94 : decode cX10_count 94 = .ok (.getfield 19, 3) := by decide +kernel
theorem dX10_count_97 : decode cX10_count 97 = .ok (.getfield 129, 3) := by decide +kernel
theorem dX10_count_100 : decode cX10_count 100 = .ok (.getfield 225, 3) := by decide +kernel
theorem dX10_count_103 : decode cX10_count 103 = .ok (.ireturn, 1) := by decide +kernel
theorem dX10_count_104 : decode cX10_count 104 = .ok (.aload_n 0, 1) := by decide +kernel
theorem dX10_count_105 : decode cX10_count 105 = .ok (.getfield 19, 3) := by decide +kernel
theorem dX10_count_108 : decode cX10_count 108 = .ok (.invokevirtual 166, 3) := by decide +kernel
theorem dX10_count_111 : decode cX10_count 111 = .ok (.ireturn, 1) := by decide +kernel
theorem dX10_count_112 : decode cX10_count 112 = .ok (.aload_n 0, 1) := by decide +kernel
theorem dX10_count_113 : decode cX10_count 113 = .ok (.getfield 19, 3) := by decide +kernel
theorem dX10_count_116 : decode cX10_count 116 = .ok (.invokevirtual 427, 3) := by decide +kernel
theorem dX10_count_119 : decode cX10_count 119 = .ok (.ireturn, 1) := by decide +kernel
theorem dX10_count_120 : decode cX10_count 120 = .ok (.aload_n 0, 1) := by decide +kernel
theorem dX10_count_121 : decode cX10_count 121 = .ok (.getfield 56, 3) := by decide +kernel
theorem dX10_count_124 : decode cX10_count 124 = .ok (.getfield 342, 3) := by decide +kernel
theorem dX10_count_127 : decode cX10_count 127 = .ok (.ireturn, 1) := by decide +kernel
theorem dX10_count_128 : decode cX10_count 128 = .ok (.aload_n 0, 1) := by decide +kernel
theorem dX10_count_129 : decode cX10_count 129 = .ok (.getfield 63, 3) := by decide +kernel
theorem dX10_count_132 : decode cX10_count 132 = .ok (.getfield 352, 3) := by decide +kernel
theorem dX10_count_135 : decode cX10_count 135 = .ok (.ireturn, 1) := by decide +kernel
theorem dX10_count_136 : decode cX10_count 136 = .ok (.aload_n 0, 1) := by decide +kernel
theorem dX10_count_137 : decode cX10_count 137 = .ok (.getfield 33, 3) := by decide +kernel
theorem dX10_count_140 : decode cX10_count 140 = .ok (.getfield 228, 3) := by decide +kernel
theorem dX10_count_143 : decode cX10_count 143 = .ok (.ireturn, 1) := by decide +kernel
theorem dX10_count_144 : decode cX10_count 144 = .ok (.aload_n 0, 1) := by decide +kernel
theorem dX10_count_145 : decode cX10_count 145 = .ok (.getfield 26, 3) := by decide +kernel
theorem dX10_count_148 : decode cX10_count 148 = .ok (.getfield 296, 3) := by decide +kernel
theorem dX10_count_151 : decode cX10_count 151 = .ok (.ireturn, 1) := by decide +kernel
theorem dX10_count_152 : decode cX10_count 152 = .ok (.aload_n 0, 1) := by decide +kernel
theorem dX10_count_153 : decode cX10_count 153 = .ok (.getfield 10, 3) := by decide +kernel
theorem dX10_count_156 : decode cX10_count 156 = .ok (.getfield 88, 3) := by decide +kernel
theorem dX10_count_159 : decode cX10_count 159 = .ok (.ireturn, 1) := by decide +kernel
theorem dX10_count_160 : decode cX10_count 160 = .ok (.bipush (-100), 2) := by decide +kernel
theorem dX10_count_162 : decode cX10_count 162 = .ok (.ireturn, 1) := by decide +kernel
theorem dX10_row_0 : decode cX10_row 0 = .ok (.iload_n 1, 1) := by decide +kernel
theorem dX10_row_1 : decode cX10_row 1 = .ok (.ifCond .lt 14, 3) := by decide +kernel
theorem dX10_row_4 : decode cX10_row 4 = .ok (.iload_n 1, 1) := by decide +kernel
theorem dX10_row_5 : decode cX10_row 5 = .ok (.aload_n 0, 1) := by decide +kernel
theorem dX10_row_6 : decode cX10_row 6 = .ok (.getfield 26, 3) := by decide +kernel
theorem dX10_row_9 : decode cX10_row 9 = .ok (.getfield 296, 3) := by decide +kernel
theorem dX10_row_12 : decode cX10_row 12 = .ok (.if_icmp .lt 11, 3) := by decide +kernel
theorem dX10_row_15 : decode cX10_row 15 = .ok (.new 120, 3) := by decide +kernel
theorem dX10_row_18 : decode cX10_row 18 = .ok (.dup, 1) := by decide +kernel
theorem dX10_row_19 : decode cX10_row 19 = .ok (.invokespecial 122, 3) := by decide +kernel
theorem dX10_row_22 : decode cX10_row 22 = .ok (.athrow, 1) := by decide +kernel
theorem dX10_row_23 : decode cX10_row 23 = .ok (.aload_n 0, 1) := by decide +kernel
theorem dX10_row_24 : decode cX10_row 24 = .ok (.getfield 26, 3) := by decide +kernel
theorem dX10_row_27 : decode cX10_row 27 = .ok (.iload_n 1, 1) := by decide +kernel
theorem dX10_row_28 : decode cX10_row 28 = .ok (.invokevirtual 272, 3) := by decide +kernel
theorem dX10_row_31 : decode cX10_row 31 = .ok (.lreturn, 1) := by decide +kernel
theorem dX10_isCavern_0 : decode cX10_isCavern 0 = .ok (.iload_n 0, 1) := by decide +kernel
theorem dX10_isCavern_1 : decode cX10_isCavern 1 = .ok (.ifCond .lt 13, 3) := by decide +kernel
theorem dX10_isCavern_4 : decode cX10_isCavern 4 = .ok (.iload_n 0, 1) := by decide +kernel
theorem dX10_isCavern_5 : decode cX10_isCavern 5 = .ok (.bipush 8, 2) := by decide +kernel
theorem dX10_isCavern_7 : decode cX10_isCavern 7 = .ok (.if_icmp .ge 7, 3) := by decide +kernel
theorem dX10_isCavern_10 : decode cX10_isCavern 10 = .ok (.iconst 1, 1) := by decide +kernel
theorem dX10_isCavern_11 : decode cX10_isCavern 11 = .ok (.goto 4, 3) := by decide +kernel
theorem dX10_isCavern_14 : decode cX10_isCavern 14 = .ok (.iconst 0, 1) := by decide +kernel
theorem dX10_isCavern_15 : decode cX10_isCavern 15 = .ok (.ireturn, 1) := by decide +kernel
theorem dX10_isLetter_0 : decode cX10_isLetter 0 = .ok (.iload_n 0, 1) := by decide +kernel
theorem dX10_isLetter_1 : decode cX10_isLetter 1 = .ok (.ifCond .lt 13, 3) := by decide +kernel
theorem dX10_isLetter_4 : decode cX10_isLetter 4 = .ok (.iload_n 0, 1) := by decide +kernel
theorem dX10_isLetter_5 : decode cX10_isLetter 5 = .ok (.bipush 8, 2) := by decide +kernel
theorem dX10_isLetter_7 : decode cX10_isLetter 7 = .ok (.if_icmp .ge 7, 3) := by decide +kernel
theorem dX10_isLetter_10 : decode cX10_isLetter 10 = .ok (.iconst 1, 1) := by decide +kernel
theorem dX10_isLetter_11 : decode cX10_isLetter 11 = .ok (.goto 4, 3) := by decide +kernel
theorem dX10_isLetter_14 : decode cX10_isLetter 14 = .ok (.iconst 0, 1) := by decide +kernel
theorem dX10_isLetter_15 : decode cX10_isLetter 15 = .ok (.ireturn, 1) := by decide +kernel
