theorem dX11_undo_0 : decode cX11_undo 0 = .ok (.aload_n 0, 1) := by decide +kernel
theorem dX11_undo_1 : decode cX11_undo 1 = .ok (.iconst 0, 1) := by decide +kernel
theorem dX11_undo_2 : decode cX11_undo 2 = .ok (.putfield 3, 3) := by decide +kernel
theorem dX11_undo_5 : decode cX11_undo 5 = .ok (.aload_n 0, 1) := by decide +kernel
theorem dX11_undo_6 : decode cX11_undo 6 = .ok (.getfield 206, 3) := by decide +kernel
theorem dX11_undo_9 : decode cX11_undo 9 = .ok (.ifCond .ne 5, 3) := by decide +kernel
theorem dX11_undo_12 : decode cX11_undo 12 = .ok (.iconst (-1), 1) := by decide +kernel
theorem dX11_undo_13 : decode cX11_undo 13 = .ok (.ireturn, 1) := by decide +kernel
theorem dX11_undo_14 : decode cX11_undo 14 = .ok (.aload_n 0, 1) := by decide +kernel
theorem dX11_undo_15 : decode cX11_undo 15 = .ok (.dup, 1) := by decide +kernel
theorem dX11_undo_16 : decode cX11_undo 16 = .ok (.getfield 206, 3) := by decide +kernel
theorem dX11_undo_19 : decode cX11_undo 19 = .ok (.iconst 1, 1) := by decide +kernel
theorem dX11_undo_20 : decode cX11_undo 20 = .ok (.isub, 1) := by decide +kernel
theorem dX11_undo_21 : decode cX11_undo 21 = .ok (.putfield 206, 3) := by decide +kernel
theorem dX11_undo_24 : decode cX11_undo 24 = .ok (.iconst 0, 1) := by decide +kernel
theorem dX11_undo_25 : decode cX11_undo 25 = .ok (.istore_n 1, 1) := by decide +kernel
theorem dX11_undo_26 : decode cX11_undo 26 = .ok (.iload_n 1, 1) := by decide +kernel
theorem dX11_undo_27 : decode cX11_undo 27 = .ok (.bipush 39, 2) := by decide +kernel
theorem dX11_undo_29 : decode cX11_undo 29 = .ok (.if_icmp .ge 29, 3) := by decide +kernel
theorem dX11_undo_32 : decode cX11_undo 32 = .ok (.aload_n 0, 1) := by decide +kernel
theorem dX11_undo_33 : decode cX11_undo 33 = .ok (.getfield 31, 3) := by decide +kernel
theorem dX11_undo_36 : decode cX11_undo 36 = .ok (.iload_n 1, 1) := by decide +kernel
theorem dX11_undo_37 : decode cX11_undo 37 = .ok (.aload_n 0, 1) := by decide +kernel
theorem dX11_undo_38 : decode cX11_undo 38 = .ok (.getfield 65, 3) := by decide +kernel
theorem dX11_undo_41 : decode cX11_undo 41 = .ok (.bipush 39, 2) := by decide +kernel
theorem dX11_undo_43 : decode cX11_undo 43 = .ok (.aload_n 0, 1) := by decide +kernel
theorem dX11_undo_44 : decode cX11_undo 44 = .ok (.getfield 206, 3) := by decide +kernel
theorem dX11_undo_47 : decode cX11_undo 47 = .ok (.imul, 1) := by decide +kernel
theorem dX11_undo_48 : decode cX11_undo 48 = .ok (.iload_n 1, 1) := by decide +kernel
theorem dX11_undo_49 : decode cX11_undo 49 = .ok (.iadd, 1) := by decide +kernel
theorem dX11_undo_50 : decode cX11_undo 50 = .ok (.iaload, 1) := by decide +kernel
theorem dX11_undo_51 : decode cX11_undo 51 = .ok (.iastore, 1) := by decide +kernel
theorem dX11_undo_52 : decode cX11_undo 52 = .ok (.iinc 1 1, 3) := by decide +kernel
theorem dX11_undo_55 : decode cX11_undo 55 = .ok (.goto (-29), 3) := by decide +kernel
theorem dX11_undo_58 : decode cX11_undo 58 = .ok (.aload_n 0, 1) := by decide +kernel
theorem dX11_undo_59 : decode cX11_undo 59 = .ok (.getfield 206, 3) := by decide +kernel
theorem dX11_undo_62 : decode cX11_undo 62 = .ok (.ireturn, 1) := by decide +kernel
theorem dX11_readsLetters_0 : decode cX11_readsLetters 0 = .ok (.iconst 0, 1) := by decide +kernel
theorem dX11_readsLetters_1 : decode cX11_readsLetters 1 = .ok (.istore_n 1, 1) := by decide +kernel
theorem dX11_readsLetters_2 : decode cX11_readsLetters 2 = .ok (.iload_n 1, 1) := by decide +kernel
theorem dX11_readsLetters_3 : decode cX11_readsLetters 3 = .ok (.bipush 6, 2) := by decide +kernel
theorem dX11_readsLetters_5 : decode cX11_readsLetters 5 = .ok (.if_icmp .ge 44, 3) := by decide +kernel
theorem dX11_readsLetters_8 : decode cX11_readsLetters 8 = .ok (.aload_n 0, 1) := by decide +kernel
theorem dX11_readsLetters_9 : decode cX11_readsLetters 9 = .ok (.invokevirtual 323, 3) := by decide +kernel
theorem dX11_readsLetters_12 : decode cX11_readsLetters 12 = .ok (.ifCond .eq 37, 3) := by decide +kernel
theorem dX11_readsLetters_15 : decode cX11_readsLetters 15 = .ok (.aload_n 0, 1) := by decide +kernel
theorem dX11_readsLetters_16 : decode cX11_readsLetters 16 = .ok (.getfield 68, 3) := by decide +kernel
theorem dX11_readsLetters_19 : decode cX11_readsLetters 19 = .ok (.iload_n 1, 1) := by decide +kernel
theorem dX11_readsLetters_20 : decode cX11_readsLetters 20 = .ok (.aload_n 0, 1) := by decide +kernel
theorem dX11_readsLetters_21 : decode cX11_readsLetters 21 = .ok (.getfield 37, 3) := by decide +kernel
theorem dX11_readsLetters_24 : decode cX11_readsLetters 24 = .ok (.aload_n 0, 1) := by decide +kernel
theorem dX11_readsLetters_25 : decode cX11_readsLetters 25 = .ok (.getfield 140, 3) := by decide +kernel
theorem dX11_readsLetters_28 : decode cX11_readsLetters 28 = .ok (.iaload, 1) := by decide +kernel
theorem dX11_readsLetters_29 : decode cX11_readsLetters 29 = .ok (.bipush 97, 2) := by decide +kernel
theorem dX11_readsLetters_31 : decode cX11_readsLetters 31 = .ok (.isub, 1) := by decide +kernel
theorem dX11_readsLetters_32 : decode cX11_readsLetters 32 = .ok (.iastore, 1) := by decide +kernel
theorem dX11_readsLetters_33 : decode cX11_readsLetters 33 = .ok (.aload_n 0, 1) := by decide +kernel
theorem dX11_readsLetters_34 : decode cX11_readsLetters 34 = .ok (.dup, 1) := by decide +kernel
theorem dX11_readsLetters_35 : decode cX11_readsLetters 35 = .ok (.getfield 140, 3) := by decide +kernel
theorem dX11_readsLetters_38 : decode cX11_readsLetters 38 = .ok (.iconst 1, 1) := by decide +kernel
theorem dX11_readsLetters_39 : decode cX11_readsLetters 39 = .ok (.iadd, 1) := by decide +kernel
theorem dX11_readsLetters_40 : decode cX11_readsLetters 40 = .ok (.putfield 140, 3) := by decide +kernel
theorem dX11_readsLetters_43 : decode cX11_readsLetters 43 = .ok (.iinc 1 1, 3) := by decide +kernel
theorem dX11_readsLetters_46 : decode cX11_readsLetters 46 = .ok (.goto (-44), 3) := by decide +kernel
theorem dX11_readsLetters_49 : decode cX11_readsLetters 49 = .ok (.iload_n 1, 1) := by decide +kernel
theorem dX11_readsLetters_50 : decode cX11_readsLetters 50 = .ok (.ireturn, 1) := by decide +kernel
theorem dX11_readsCall_0 : decode cX11_readsCall 0 = .ok (.aload_n 0, 1) := by decide +kernel
theorem dX11_readsCall_1 : decode cX11_readsCall 1 = .ok (.bipush 80, 2) := by decide +kernel
theorem dX11_readsCall_3 : decode cX11_readsCall 3 = .ok (.invokevirtual 192, 3) := by decide +kernel
theorem dX11_readsCall_6 : decode cX11_readsCall 6 = .ok (.pop, 1) := by decide +kernel
theorem dX11_readsCall_7 : decode cX11_readsCall 7 = .ok (.aload_n 0, 1) := by decide +kernel
theorem dX11_readsCall_8 : decode cX11_readsCall 8 = .ok (.aload_n 0, 1) := by decide +kernel
theorem dX11_readsCall_9 : decode cX11_readsCall 9 = .ok (.getfield 31, 3) := by decide +kernel
theorem dX11_readsCall_12 : decode cX11_readsCall 12 = .ok (.iload_n 1, 1) := by decide +kernel
theorem dX11_readsCall_13 : decode cX11_readsCall 13 = .ok (.iload_n 2, 1) := by decide +kernel
theorem dX11_readsCall_14 : decode cX11_readsCall 14 = .ok (.invokevirtual 326, 3) := by decide +kernel
theorem dX11_readsCall_17 : decode cX11_readsCall 17 = .ok (.ifCond .ne 6, 3) := by decide +kernel
theorem dX11_readsCall_20 : decode cX11_readsCall 20 = .ok (.bipush (-100), 2) := by decide +kernel
theorem dX11_readsCall_22 : decode cX11_readsCall 22 = .ok (.ireturn, 1) := by decide +kernel
theorem dX11_readsCall_23 : decode cX11_readsCall 23 = .ok (.aload_n 0, 1) := by decide +kernel
theorem dX11_readsCall_24 : decode cX11_readsCall 24 = .ok (.invokevirtual 330, 3) := by decide +kernel
theorem dX11_readsCall_27 : decode cX11_readsCall 27 = .ok (.istore_n 3, 1) := by decide +kernel
theorem dX11_readsCall_28 : decode cX11_readsCall 28 = .ok (.iload_n 3, 1) := by decide +kernel
theorem dX11_readsCall_29 : decode cX11_readsCall 29 = .ok (.ifCond .eq 14, 3) := by decide +kernel
theorem dX11_readsCall_32 : decode cX11_readsCall 32 = .ok (.aload_n 0, 1) := by decide +kernel
theorem dX11_readsCall_33 : decode cX11_readsCall 33 = .ok (.getfield 140, 3) := by decide +kernel
theorem dX11_readsCall_36 : decode cX11_readsCall 36 = .ok (.aload_n 0, 1) := by decide +kernel
theorem dX11_readsCall_37 : decode cX11_readsCall 37 = .ok (.getfield 152, 3) := by decide +kernel
theorem dX11_readsCall_40 : decode cX11_readsCall 40 = .ok (.if_icmp .ge 12, 3) := by decide +kernel
theorem dX11_readsCall_43 : decode cX11_readsCall 43 = .ok (.iconst (-1), 1) := by decide +kernel
theorem dX11_readsCall_44 : decode cX11_readsCall 44 = .ok (.aload_n 0, 1) := by decide +kernel
theorem dX11_readsCall_45 : decode cX11_readsCall 45 = .ok (.getfield 140, 3) := by decide +kernel
theorem dX11_readsCall_48 : decode cX11_readsCall 48 = .ok (.isub, 1) := by decide +kernel
theorem dX11_readsCall_49 : decode cX11_readsCall 49 = .ok (.goto 4, 3) := by decide +kernel
theorem dX11_readsCall_52 : decode cX11_readsCall 52 = .ok (.iload_n 3, 1) := by decide +kernel
theorem dX11_readsCall_53 : decode cX11_readsCall 53 = .ok (.ireturn, 1) := by decide +kernel
theorem dX11_wears_0 : decode cX11_wears 0 = .ok (.iconst 0, 1) := by decide +kernel
theorem dX11_wears_1 : decode cX11_wears 1 = .ok (.istore_n 2, 1) := by decide +kernel
theorem dX11_wears_2 : decode cX11_wears 2 = .ok (.iload_n 2, 1) := by decide +kernel
theorem dX11_wears_3 : decode cX11_wears 3 = .ok (.aload_n 0, 1) := by decide +kernel
theorem dX11_wears_4 : decode cX11_wears 4 = .ok (.getfield 269, 3) := by decide +kernel
theorem dX11_wears_7 : decode cX11_wears 7 = .ok (.if_icmp .ge 38, 3) := by decide +kernel
theorem dX11_wears_10 : decode cX11_wears 10 = .ok (.aload_n 1, 1) := by decide +kernel
theorem dX11_wears_11 : decode cX11_wears 11 = .ok (.bipush 24, 2) := by decide +kernel
theorem dX11_wears_13 : decode cX11_wears 13 = .ok (.aload_n 0, 1) := by decide +kernel
theorem dX11_wears_14 : decode cX11_wears 14 = .ok (.getfield 55, 3) := by decide +kernel
theorem dX11_wears_17 : decode cX11_wears 17 = .ok (.iload_n 2, 1) := by decide +kernel
theorem dX11_wears_18 : decode cX11_wears 18 = .ok (.iaload, 1) := by decide +kernel
theorem dX11_wears_19 : decode cX11_wears 19 = .ok (.iadd, 1) := by decide +kernel
theorem dX11_wears_20 : decode cX11_wears 20 = .ok (.bipush 9, 2) := by decide +kernel
theorem dX11_wears_22 : decode cX11_wears 22 = .ok (.aload_n 1, 1) := by decide +kernel
theorem dX11_wears_23 : decode cX11_wears 23 = .ok (.bipush 24, 2) := by decide +kernel
theorem dX11_wears_25 : decode cX11_wears 25 = .ok (.aload_n 0, 1) := by decide +kernel
theorem dX11_wears_26 : decode cX11_wears 26 = .ok (.getfield 55, 3) := by decide +kernel
theorem dX11_wears_29 : decode cX11_wears 29 = .ok (.iload_n 2, 1) := by decide +kernel
theorem dX11_wears_30 : decode cX11_wears 30 = .ok (.iaload, 1) := by decide +kernel
theorem dX11_wears_31 : decode cX11_wears 31 = .ok (.iadd, 1) := by decide +kernel
theorem dX11_wears_32 : decode cX11_wears 32 = .ok (.iaload, 1) := by decide +kernel
theorem dX11_wears_33 : decode cX11_wears 33 = .ok (.iconst 1, 1) := by decide +kernel
theorem dX11_wears_34 : decode cX11_wears 34 = .ok (.iadd, 1) := by decide +kernel
theorem dX11_wears_35 : decode cX11_wears 35 = .ok (.invokestatic 146, 3) := by decide +kernel
theorem dX11_wears_38 : decode cX11_wears 38 = .ok (.iastore, 1) := by decide +kernel
theorem dX11_wears_39 : decode cX11_wears 39 = .ok (.iinc 2 1, 3) := by decide +kernel
theorem dX11_wears_42 : decode cX11_wears 42 = .ok (.goto (-40), 3) := by decide +kernel
theorem dX11_wears_45 : decode cX11_wears 45 = .ok (.aload_n 1, 1) := by decide +kernel
theorem dX11_wears_46 : decode cX11_wears 46 = .ok (.bipush 38, 2) := by decide +kernel
theorem dX11_wears_48 : decode cX11_wears 48 = .ok (.sipush 999, 3) := by decide +kernel
theorem dX11_wears_51 : decode cX11_wears 51 = .ok (.aload_n 1, 1) := by decide +kernel
theorem dX11_wears_52 : decode cX11_wears 52 = .ok (.bipush 38, 2) := by decide +kernel
theorem dX11_wears_54 : decode cX11_wears 54 = .ok (.iaload, 1) := by decide +kernel
theorem dX11_wears_55 : decode cX11_wears 55 = .ok (.iconst 1, 1) := by decide +kernel
theorem dX11_wears_56 : decode cX11_wears 56 = .ok (.iadd, 1) := by decide +kernel
theorem dX11_wears_57 : decode cX11_wears 57 = .ok (.invokestatic 146, 3) := by decide +kernel
theorem dX11_wears_60 : decode cX11_wears 60 = .ok (.iastore, 1) := by decide +kernel
theorem dX11_wears_61 : decode cX11_wears 61 = .ok (.return_, 1) := by decide +kernel
theorem dX11_calls_0 : decode cX11_calls 0 = .ok (.aload_n 0, 1) := by decide +kernel
theorem dX11_calls_1 : decode cX11_calls 1 = .ok (.iconst 0, 1) := by decide +kernel
theorem dX11_calls_2 : decode cX11_calls 2 = .ok (.putfield 3, 3) := by decide +kernel
theorem dX11_calls_5 : decode cX11_calls 5 = .ok (.aload_n 0, 1) := by decide +kernel
theorem dX11_calls_6 : decode cX11_calls 6 = .ok (.iload_n 1, 1) := by decide +kernel
theorem dX11_calls_7 : decode cX11_calls 7 = .ok (.iload_n 2, 1) := by decide +kernel
theorem dX11_calls_8 : decode cX11_calls 8 = .ok (.invokevirtual 333, 3) := by decide +kernel
theorem dX11_calls_11 : decode cX11_calls 11 = .ok (.istore_n 3, 1) := by decide +kernel
theorem dX11_calls_12 : decode cX11_calls 12 = .ok (.iload_n 3, 1) := by decide +kernel
theorem dX11_calls_13 : decode cX11_calls 13 = .ok (.ifCond .ge 5, 3) := by decide +kernel
theorem dX11_calls_16 : decode cX11_calls 16 = .ok (.iload_n 3, 1) := by decide +kernel
theorem dX11_calls_17 : decode cX11_calls 17 = .ok (.ireturn, 1) := by decide +kernel
theorem dX11_calls_18 : decode cX11_calls 18 = .ok (.aload_n 0, 1) := by decide +kernel
theorem dX11_calls_19 : decode cX11_calls 19 = .ok (.aload_n 0, 1) := by decide +kernel
theorem dX11_calls_20 : decode cX11_calls 20 = .ok (.getfield 31, 3) := by decide +kernel
theorem dX11_calls_23 : decode cX11_calls 23 = .ok (.iload_n 1, 1) := by decide +kernel
theorem dX11_calls_24 : decode cX11_calls 24 = .ok (.iload_n 2, 1) := by decide +kernel
theorem dX11_calls_25 : decode cX11_calls 25 = .ok (.invokevirtual 336, 3) := by decide +kernel
theorem dX11_calls_28 : decode cX11_calls 28 = .ok (.aload_n 0, 1) := by decide +kernel
theorem dX11_calls_29 : decode cX11_calls 29 = .ok (.iconst 0, 1) := by decide +kernel
theorem dX11_calls_30 : decode cX11_calls 30 = .ok (.putfield 15, 3) := by decide +kernel
theorem dX11_calls_33 : decode cX11_calls 33 = .ok (.aload_n 0, 1) := by decide +kernel
theorem dX11_calls_34 : decode cX11_calls 34 = .ok (.aload_n 0, 1) := by decide +kernel
theorem dX11_calls_35 : decode cX11_calls 35 = .ok (.getfield 275, 3) := by decide +kernel
theorem dX11_calls_38 : decode cX11_calls 38 = .ok (.i2l, 1) := by decide +kernel
theorem dX11_calls_39 : decode cX11_calls 39 = .ok (.invokevirtual 340, 3) := by decide +kernel
theorem dX11_calls_42 : decode cX11_calls 42 = .ok (.iconst 0, 1) := by decide +kernel
theorem dX11_calls_43 : decode cX11_calls 43 = .ok (.istore 4, 2) := by decide +kernel
theorem dX11_calls_45 : decode cX11_calls 45 = .ok (.iload 4, 2) := by decide +kernel
theorem dX11_calls_47 : decode cX11_calls 47 = .ok (.iload_n 3, 1) := by decide +kernel
theorem dX11_calls_48 : decode cX11_calls 48 = .ok (.if_icmp .ge 31, 3) := by decide +kernel
theorem dX11_calls_51 : decode cX11_calls 51 = .ok (.aload_n 0, 1) := by decide +kernel
theorem dX11_calls_52 : decode cX11_calls 52 = .ok (.aload_n 0, 1) := by decide +kernel
theorem dX11_calls_53 : decode cX11_calls 53 = .ok (.aload_n 0, 1) := by decide +kernel
theorem dX11_calls_54 : decode cX11_calls 54 = .ok (.getfield 31, 3) := by decide +kernel
theorem dX11_calls_57 : decode cX11_calls 57 = .ok (.aload_n 0, 1) := by decide +kernel
theorem dX11_calls_58 : decode cX11_calls 58 = .ok (.getfield 68, 3) := by decide +kernel
theorem dX11_calls_61 : decode cX11_calls 61 = .ok (.iload 4, 2) := by decide +kernel
theorem dX11_calls_63 : decode cX11_calls 63 = .ok (.iaload, 1) := by decide +kernel
theorem dX11_calls_64 : decode cX11_calls 64 = .ok (.iload 4, 2) := by decide +kernel
theorem dX11_calls_66 : decode cX11_calls 66 = .ok (.invokevirtual 344, 3) := by decide +kernel
theorem dX11_calls_69 : decode cX11_calls 69 = .ok (.i2l, 1) := by decide +kernel
theorem dX11_calls_70 : decode cX11_calls 70 = .ok (.invokevirtual 340, 3) := by decide +kernel
theorem dX11_calls_73 : decode cX11_calls 73 = .ok (.iinc 4 1, 3) := by decide +kernel
theorem dX11_calls_76 : decode cX11_calls 76 = .ok (.goto (-31), 3) := by decide +kernel
theorem dX11_calls_79 : decode cX11_calls 79 = .ok (.aload_n 0, 1) := by decide +kernel
theorem dX11_calls_80 : decode cX11_calls 80 = .ok (.invokevirtual 348, 3) := by decide +kernel
theorem dX11_calls_83 : decode cX11_calls 83 = .ok (.aload_n 0, 1) := by decide +kernel
theorem dX11_calls_84 : decode cX11_calls 84 = .ok (.aload_n 0, 1) := by decide +kernel
theorem dX11_calls_85 : decode cX11_calls 85 = .ok (.getfield 31, 3) := by decide +kernel
theorem dX11_calls_88 : decode cX11_calls 88 = .ok (.invokevirtual 351, 3) := by decide +kernel
theorem dX11_calls_91 : decode cX11_calls 91 = .ok (.aload_n 0, 1) := by decide +kernel
theorem dX11_calls_92 : decode cX11_calls 92 = .ok (.aload_n 0, 1) := by decide +kernel
theorem dX11_calls_93 : decode cX11_calls 93 = .ok (.getfield 272, 3) := by decide +kernel
theorem dX11_calls_96 : decode cX11_calls 96 = .ok (.invokevirtual 320, 3) := by decide +kernel
theorem dX11_calls_99 : decode cX11_calls 99 = .ok (.ireturn, 1) := by decide +kernel
theorem dX11_hoursGo_0 : decode cX11_hoursGo 0 = .ok (.iconst 0, 1) := by decide +kernel
theorem dX11_hoursGo_1 : decode cX11_hoursGo 1 = .ok (.istore_n 3, 1) := by decide +kernel
theorem dX11_hoursGo_2 : decode cX11_hoursGo 2 = .ok (.iload_n 3, 1) := by decide +kernel
theorem dX11_hoursGo_3 : decode cX11_hoursGo 3 = .ok (.aload_n 0, 1) := by decide +kernel
theorem dX11_hoursGo_4 : decode cX11_hoursGo 4 = .ok (.getfield 128, 3) := by decide +kernel
theorem dX11_hoursGo_7 : decode cX11_hoursGo 7 = .ok (.if_icmp .ge 27, 3) := by decide +kernel
theorem dX11_hoursGo_10 : decode cX11_hoursGo 10 = .ok (.aload_n 1, 1) := by decide +kernel
theorem dX11_hoursGo_11 : decode cX11_hoursGo 11 = .ok (.bipush 24, 2) := by decide +kernel
theorem dX11_hoursGo_13 : decode cX11_hoursGo 13 = .ok (.iload_n 3, 1) := by decide +kernel
theorem dX11_hoursGo_14 : decode cX11_hoursGo 14 = .ok (.iadd, 1) := by decide +kernel
theorem dX11_hoursGo_15 : decode cX11_hoursGo 15 = .ok (.iconst 0, 1) := by decide +kernel
theorem dX11_hoursGo_16 : decode cX11_hoursGo 16 = .ok (.aload_n 1, 1) := by decide +kernel
theorem dX11_hoursGo_17 : decode cX11_hoursGo 17 = .ok (.bipush 24, 2) := by decide +kernel
theorem dX11_hoursGo_19 : decode cX11_hoursGo 19 = .ok (.iload_n 3, 1) := by decide +kernel
theorem dX11_hoursGo_20 : decode cX11_hoursGo 20 = .ok (.iadd, 1) := by decide +kernel
theorem dX11_hoursGo_21 : decode cX11_hoursGo 21 = .ok (.iaload, 1) := by decide +kernel
theorem dX11_hoursGo_22 : decode cX11_hoursGo 22 = .ok (.iload_n 2, 1) := by decide +kernel
theorem dX11_hoursGo_23 : decode cX11_hoursGo 23 = .ok (.isub, 1) := by decide +kernel
theorem dX11_hoursGo_24 : decode cX11_hoursGo 24 = .ok (.invokestatic 297, 3) := by decide +kernel
theorem dX11_hoursGo_27 : decode cX11_hoursGo 27 = .ok (.iastore, 1) := by decide +kernel
theorem dX11_hoursGo_28 : decode cX11_hoursGo 28 = .ok (.iinc 3 1, 3) := by decide +kernel
theorem dX11_hoursGo_31 : decode cX11_hoursGo 31 = .ok (.goto (-29), 3) := by decide +kernel
theorem dX11_hoursGo_34 : decode cX11_hoursGo 34 = .ok (.aload_n 1, 1) := by decide +kernel
theorem dX11_hoursGo_35 : decode cX11_hoursGo 35 = .ok (.bipush 37, 2) := by decide +kernel
theorem dX11_hoursGo_37 : decode cX11_hoursGo 37 = .ok (.dup2, 1) := by decide +kernel
theorem dX11_hoursGo_38 : decode cX11_hoursGo 38 = .ok (.iaload, 1) := by decide +kernel
theorem dX11_hoursGo_39 : decode cX11_hoursGo 39 = .ok (.iload_n 2, 1) := by decide +kernel
theorem dX11_hoursGo_40 : decode cX11_hoursGo 40 = .ok (.iadd, 1) := by decide +kernel
theorem dX11_hoursGo_41 : decode cX11_hoursGo 41 = .ok (.iastore, 1) := by decide +kernel
theorem dX11_hoursGo_42 : decode cX11_hoursGo 42 = .ok (.return_, 1) := by decide +kernel
theorem dX11_fallsOne_0 : decode cX11_fallsOne 0 = .ok (.aload_n 0, 1) := by decide +kernel
theorem dX11_fallsOne_1 : decode cX11_fallsOne 1 = .ok (.iload_n 2, 1) := by decide +kernel
theorem dX11_fallsOne_2 : decode cX11_fallsOne 2 = .ok (.invokevirtual 259, 3) := by decide +kernel
theorem dX11_fallsOne_5 : decode cX11_fallsOne 5 = .ok (.ifCond .ne 5, 3) := by decide +kernel
theorem dX11_fallsOne_8 : decode cX11_fallsOne 8 = .ok (.iconst (-1), 1) := by decide +kernel
theorem dX11_fallsOne_9 : decode cX11_fallsOne 9 = .ok (.ireturn, 1) := by decide +kernel
theorem dX11_fallsOne_10 : decode cX11_fallsOne 10 = .ok (.aload_n 1, 1) := by decide +kernel
theorem dX11_fallsOne_11 : decode cX11_fallsOne 11 = .ok (.bipush 36, 2) := by decide +kernel
theorem dX11_fallsOne_13 : decode cX11_fallsOne 13 = .ok (.dup2, 1) := by decide +kernel
theorem dX11_fallsOne_14 : decode cX11_fallsOne 14 = .ok (.iaload, 1) := by decide +kernel
theorem dX11_fallsOne_15 : decode cX11_fallsOne 15 = .ok (.iconst 1, 1) := by decide +kernel
theorem dX11_fallsOne_16 : decode cX11_fallsOne 16 = .ok (.iload_n 2, 1) := by decide +kernel
theorem dX11_fallsOne_17 : decode cX11_fallsOne 17 = .ok (.ishl, 1) := by decide +kernel
theorem dX11_fallsOne_18 : decode cX11_fallsOne 18 = .ok (.ixor, 1) := by decide +kernel
theorem dX11_fallsOne_19 : decode cX11_fallsOne 19 = .ok (.iastore, 1) := by decide +kernel
theorem dX11_fallsOne_20 : decode cX11_fallsOne 20 = .ok (.aload_n 1, 1) := by decide +kernel
theorem dX11_fallsOne_21 : decode cX11_fallsOne 21 = .ok (.bipush 36, 2) := by decide +kernel
theorem dX11_fallsOne_23 : decode cX11_fallsOne 23 = .ok (.iaload, 1) := by decide +kernel
theorem dX11_fallsOne_24 : decode cX11_fallsOne 24 = .ok (.invokestatic 355, 3) := by decide +kernel
theorem dX11_fallsOne_27 : decode cX11_fallsOne 27 = .ok (.ireturn, 1) := by decide +kernel
theorem dX11_digsOne_0 : decode cX11_digsOne 0 = .ok (.aload_n 0, 1) := by decide +kernel
theorem dX11_digsOne_1 : decode cX11_digsOne 1 = .ok (.iload_n 1, 1) := by decide +kernel
theorem dX11_digsOne_2 : decode cX11_digsOne 2 = .ok (.invokevirtual 259, 3) := by decide +kernel
theorem dX11_digsOne_5 : decode cX11_digsOne 5 = .ok (.ifCond .eq 27, 3) := by decide +kernel
theorem dX11_digsOne_8 : decode cX11_digsOne 8 = .ok (.iload_n 2, 1) := by decide +kernel
theorem dX11_digsOne_9 : decode cX11_digsOne 9 = .ok (.i2l, 1) := by decide +kernel
theorem dX11_digsOne_10 : decode cX11_digsOne 10 = .ok (.lconst 1, 1) := by decide +kernel
theorem dX11_digsOne_11 : decode cX11_digsOne 11 = .ok (.ldc2_w 360, 3) := by decide +kernel
theorem dX11_digsOne_14 : decode cX11_digsOne 14 = .ok (.invokestatic 131, 3) := by decide +kernel
theorem dX11_digsOne_17 : decode cX11_digsOne 17 = .ok (.ifCond .eq 15, 3) := by decide +kernel
theorem dX11_digsOne_20 : decode cX11_digsOne 20 = .ok (.iload_n 3, 1) := by decide +kernel
theorem dX11_digsOne_21 : decode cX11_digsOne 21 = .ok (.i2l, 1) := by decide +kernel
theorem dX11_digsOne_22 : decode cX11_digsOne 22 = .ok (.lconst 0, 1) := by decide +kernel
theorem dX11_digsOne_23 : decode cX11_digsOne 23 = .ok (.ldc2_w 360, 3) := by decide +kernel
theorem dX11_digsOne_26 : decode cX11_digsOne 26 = .ok (.invokestatic 131, 3) := by decide +kernel
theorem dX11_digsOne_29 : decode cX11_digsOne 29 = .ok (.ifCond .ne 5, 3) := by decide +kernel
theorem dX11_digsOne_32 : decode cX11_digsOne 32 = .ok (.iconst (-1), 1) := by decide +kernel
theorem dX11_digsOne_33 : decode cX11_digsOne 33 = .ok (.ireturn, 1) := by decide +kernel
theorem dX11_digsOne_34 : decode cX11_digsOne 34 = .ok (.aload_n 0, 1) := by decide +kernel
theorem dX11_digsOne_35 : decode cX11_digsOne 35 = .ok (.getfield 31, 3) := by decide +kernel
theorem dX11_digsOne_38 : decode cX11_digsOne 38 = .ok (.iload_n 1, 1) := by decide +kernel
theorem dX11_digsOne_39 : decode cX11_digsOne 39 = .ok (.iaload, 1) := by decide +kernel
theorem dX11_digsOne_40 : decode cX11_digsOne 40 = .ok (.iload_n 2, 1) := by decide +kernel
theorem dX11_digsOne_41 : decode cX11_digsOne 41 = .ok (.if_icmp .ne 19, 3) := by decide +kernel
theorem dX11_digsOne_44 : decode cX11_digsOne 44 = .ok (.aload_n 0, 1) := by decide +kernel
theorem dX11_digsOne_45 : decode cX11_digsOne 45 = .ok (.getfield 31, 3) := by decide +kernel
theorem dX11_digsOne_48 : decode cX11_digsOne 48 = .ok (.bipush 12, 2) := by decide +kernel
theorem dX11_digsOne_50 : decode cX11_digsOne 50 = .ok (.iload_n 1, 1) := by decide +kernel
theorem dX11_digsOne_51 : decode cX11_digsOne 51 = .ok (.iadd, 1) := by decide +kernel
theorem dX11_digsOne_52 : decode cX11_digsOne 52 = .ok (.iaload, 1) := by decide +kernel
theorem dX11_digsOne_53 : decode cX11_digsOne 53 = .ok (.iload_n 3, 1) := by decide +kernel
theorem dX11_digsOne_54 : decode cX11_digsOne 54 = .ok (.if_icmp .ne 6, 3) := by decide +kernel
theorem dX11_digsOne_57 : decode cX11_digsOne 57 = .ok (.bipush (-2), 2) := by decide +kernel
theorem dX11_digsOne_59 : decode cX11_digsOne 59 = .ok (.ireturn, 1) := by decide +kernel
theorem dX11_digsOne_60 : decode cX11_digsOne 60 = .ok (.bipush 100, 2) := by decide +kernel
theorem dX11_digsOne_62 : decode cX11_digsOne 62 = .ok (.bipush 10, 2) := by decide +kernel
theorem dX11_digsOne_64 : decode cX11_digsOne 64 = .ok (.aload_n 0, 1) := by decide +kernel
theorem dX11_digsOne_65 : decode cX11_digsOne 65 = .ok (.getfield 31, 3) := by decide +kernel
theorem dX11_digsOne_68 : decode cX11_digsOne 68 = .ok (.iload_n 1, 1) := by decide +kernel
theorem dX11_digsOne_69 : decode cX11_digsOne 69 = .ok (.iaload, 1) := by decide +kernel
theorem dX11_digsOne_70 : decode cX11_digsOne 70 = .ok (.imul, 1) := by decide +kernel
theorem dX11_digsOne_71 : decode cX11_digsOne 71 = .ok (.iadd, 1) := by decide +kernel
theorem dX11_digsOne_72 : decode cX11_digsOne 72 = .ok (.aload_n 0, 1) := by decide +kernel
theorem dX11_digsOne_73 : decode cX11_digsOne 73 = .ok (.getfield 31, 3) := by decide +kernel
theorem dX11_digsOne_76 : decode cX11_digsOne 76 = .ok (.bipush 12, 2) := by decide +kernel
theorem dX11_digsOne_78 : decode cX11_digsOne 78 = .ok (.iload_n 1, 1) := by decide +kernel
theorem dX11_digsOne_79 : decode cX11_digsOne 79 = .ok (.iadd, 1) := by decide +kernel
theorem dX11_digsOne_80 : decode cX11_digsOne 80 = .ok (.iaload, 1) := by decide +kernel
theorem dX11_digsOne_81 : decode cX11_digsOne 81 = .ok (.iadd, 1) := by decide +kernel
theorem dX11_digsOne_82 : decode cX11_digsOne 82 = .ok (.istore 4, 2) := by decide +kernel
theorem dX11_digsOne_84 : decode cX11_digsOne 84 = .ok (.aload_n 0, 1) := by decide +kernel
theorem dX11_digsOne_85 : decode cX11_digsOne 85 = .ok (.getfield 31, 3) := by decide +kernel
theorem dX11_digsOne_88 : decode cX11_digsOne 88 = .ok (.iload_n 1, 1) := by decide +kernel
theorem dX11_digsOne_89 : decode cX11_digsOne 89 = .ok (.iload_n 2, 1) := by decide +kernel
theorem dX11_digsOne_90 : decode cX11_digsOne 90 = .ok (.iastore, 1) := by decide +kernel
theorem dX11_digsOne_91 : decode cX11_digsOne 91 = .ok (.aload_n 0, 1) := by decide +kernel
theorem dX11_digsOne_92 : decode cX11_digsOne 92 = .ok (.getfield 31, 3) := by decide +kernel
theorem dX11_digsOne_95 : decode cX11_digsOne 95 = .ok (.bipush 12, 2) := by decide +kernel
theorem dX11_digsOne_97 : decode cX11_digsOne 97 = .ok (.iload_n 1, 1) := by decide +kernel
theorem dX11_digsOne_98 : decode cX11_digsOne 98 = .ok (.iadd, 1) := by decide +kernel
theorem dX11_digsOne_99 : decode cX11_digsOne 99 = .ok (.iload_n 3, 1) := by decide +kernel
theorem dX11_digsOne_100 : decode cX11_digsOne 100 = .ok (.iastore, 1) := by decide +kernel
theorem dX11_digsOne_101 : decode cX11_digsOne 101 = .ok (.iload 4, 2) := by decide +kernel
theorem dX11_digsOne_103 : decode cX11_digsOne 103 = .ok (.ireturn, 1) := by decide +kernel
theorem dX11_hours_0 : decode cX11_hours 0 = .ok (.aload_n 0, 1) := by decide +kernel
theorem dX11_hours_1 : decode cX11_hours 1 = .ok (.iconst 0, 1) := by decide +kernel
theorem dX11_hours_2 : decode cX11_hours 2 = .ok (.putfield 3, 3) := by decide +kernel
theorem dX11_hours_5 : decode cX11_hours 5 = .ok (.iload_n 1, 1) := by decide +kernel
theorem dX11_hours_6 : decode cX11_hours 6 = .ok (.i2l, 1) := by decide +kernel
theorem dX11_hours_7 : decode cX11_hours 7 = .ok (.lconst 0, 1) := by decide +kernel
theorem dX11_hours_8 : decode cX11_hours 8 = .ok (.ldc2_w 362, 3) := by decide +kernel
theorem dX11_hours_11 : decode cX11_hours 11 = .ok (.invokestatic 131, 3) := by decide +kernel
theorem dX11_hours_14 : decode cX11_hours 14 = .ok (.ifCond .ne 5, 3) := by decide +kernel
theorem dX11_hours_17 : decode cX11_hours 17 = .ok (.iconst (-1), 1) := by decide +kernel
theorem dX11_hours_18 : decode cX11_hours 18 = .ok (.ireturn, 1) := by decide +kernel
theorem dX11_hours_19 : decode cX11_hours 19 = .ok (.aload_n 0, 1) := by decide +kernel
theorem dX11_hours_20 : decode cX11_hours 20 = .ok (.invokevirtual 348, 3) := by decide +kernel
theorem dX11_hours_23 : decode cX11_hours 23 = .ok (.aload_n 0, 1) := by decide +kernel
theorem dX11_hours_24 : decode cX11_hours 24 = .ok (.aload_n 0, 1) := by decide +kernel
theorem dX11_hours_25 : decode cX11_hours 25 = .ok (.getfield 31, 3) := by decide +kernel
theorem dX11_hours_28 : decode cX11_hours 28 = .ok (.iload_n 1, 1) := by decide +kernel
theorem dX11_hours_29 : decode cX11_hours 29 = .ok (.invokevirtual 364, 3) := by decide +kernel
theorem dX11_hours_32 : decode cX11_hours 32 = .ok (.aload_n 0, 1) := by decide +kernel
theorem dX11_hours_33 : decode cX11_hours 33 = .ok (.aload_n 0, 1) := by decide +kernel
theorem dX11_hours_34 : decode cX11_hours 34 = .ok (.aload_n 0, 1) := by decide +kernel
theorem dX11_hours_35 : decode cX11_hours 35 = .ok (.getfield 31, 3) := by decide +kernel
theorem dX11_hours_38 : decode cX11_hours 38 = .ok (.bipush 24, 2) := by decide +kernel
theorem dX11_hours_40 : decode cX11_hours 40 = .ok (.invokevirtual 316, 3) := by decide +kernel
theorem dX11_hours_43 : decode cX11_hours 43 = .ok (.invokevirtual 320, 3) := by decide +kernel
theorem dX11_hours_46 : decode cX11_hours 46 = .ok (.ireturn, 1) := by decide +kernel
theorem dX11_falls_0 : decode cX11_falls 0 = .ok (.aload_n 0, 1) := by decide +kernel
theorem dX11_falls_1 : decode cX11_falls 1 = .ok (.iconst 0, 1) := by decide +kernel
theorem dX11_falls_2 : decode cX11_falls 2 = .ok (.putfield 3, 3) := by decide +kernel
theorem dX11_falls_5 : decode cX11_falls 5 = .ok (.aload_n 0, 1) := by decide +kernel
theorem dX11_falls_6 : decode cX11_falls 6 = .ok (.invokevirtual 348, 3) := by decide +kernel
theorem dX11_falls_9 : decode cX11_falls 9 = .ok (.aload_n 0, 1) := by decide +kernel
theorem dX11_falls_10 : decode cX11_falls 10 = .ok (.aload_n 0, 1) := by decide +kernel
theorem dX11_falls_11 : decode cX11_falls 11 = .ok (.aload_n 0, 1) := by decide +kernel
theorem dX11_falls_12 : decode cX11_falls 12 = .ok (.getfield 31, 3) := by decide +kernel
theorem dX11_falls_15 : decode cX11_falls 15 = .ok (.iload_n 1, 1) := by decide +kernel
theorem dX11_falls_16 : decode cX11_falls 16 = .ok (.invokevirtual 367, 3) := by decide +kernel
theorem dX11_falls_19 : decode cX11_falls 19 = .ok (.invokevirtual 370, 3) := by decide +kernel
theorem dX11_falls_22 : decode cX11_falls 22 = .ok (.ireturn, 1) := by decide +kernel
theorem dX11_digs_0 : decode cX11_digs 0 = .ok (.aload_n 0, 1) := by decide +kernel
theorem dX11_digs_1 : decode cX11_digs 1 = .ok (.iconst 0, 1) := by decide +kernel
theorem dX11_digs_2 : decode cX11_digs 2 = .ok (.putfield 3, 3) := by decide +kernel
theorem dX11_digs_5 : decode cX11_digs 5 = .ok (.aload_n 0, 1) := by decide +kernel
theorem dX11_digs_6 : decode cX11_digs 6 = .ok (.invokevirtual 348, 3) := by decide +kernel
theorem dX11_digs_9 : decode cX11_digs 9 = .ok (.aload_n 0, 1) := by decide +kernel
theorem dX11_digs_10 : decode cX11_digs 10 = .ok (.aload_n 0, 1) := by decide +kernel
theorem dX11_digs_11 : decode cX11_digs 11 = .ok (.iload_n 1, 1) := by decide +kernel
theorem dX11_digs_12 : decode cX11_digs 12 = .ok (.iload_n 2, 1) := by decide +kernel
theorem dX11_digs_13 : decode cX11_digs 13 = .ok (.iload_n 3, 1) := by decide +kernel
theorem dX11_digs_14 : decode cX11_digs 14 = .ok (.invokevirtual 373, 3) := by decide +kernel
theorem dX11_digs_17 : decode cX11_digs 17 = .ok (.invokevirtual 370, 3) := by decide +kernel
theorem dX11_digs_20 : decode cX11_digs 20 = .ok (.ireturn, 1) := by decide +kernel
theorem dX11_readsAct_0 : decode cX11_readsAct 0 = .ok (.aload_n 0, 1) := by decide +kernel
theorem dX11_readsAct_1 : decode cX11_readsAct 1 = .ok (.getfield 376, 3) := by decide +kernel
theorem dX11_readsAct_4 : decode cX11_readsAct 4 = .ok (.istore_n 1, 1) := by decide +kernel
theorem dX11_readsAct_5 : decode cX11_readsAct 5 = .ok (.aload_n 0, 1) := by decide +kernel
theorem dX11_readsAct_6 : decode cX11_readsAct 6 = .ok (.getfield 71, 3) := by decide +kernel
theorem dX11_readsAct_9 : decode cX11_readsAct 9 = .ok (.iload_n 1, 1) := by decide +kernel
theorem dX11_readsAct_10 : decode cX11_readsAct 10 = .ok (.aload_n 0, 1) := by decide +kernel
theorem dX11_readsAct_11 : decode cX11_readsAct 11 = .ok (.ldc_w 379, 3) := by decide +kernel
theorem dX11_readsAct_14 : decode cX11_readsAct 14 = .ok (.invokevirtual 224, 3) := by decide +kernel
theorem dX11_readsAct_17 : decode cX11_readsAct 17 = .ok (.iastore, 1) := by decide +kernel
theorem dX11_readsAct_18 : decode cX11_readsAct 18 = .ok (.aload_n 0, 1) := by decide +kernel
theorem dX11_readsAct_19 : decode cX11_readsAct 19 = .ok (.dup, 1) := by decide +kernel
theorem dX11_readsAct_20 : decode cX11_readsAct 20 = .ok (.getfield 376, 3) := by decide +kernel
theorem dX11_readsAct_23 : decode cX11_readsAct 23 = .ok (.iconst 1, 1) := by decide +kernel
theorem dX11_readsAct_24 : decode cX11_readsAct 24 = .ok (.iadd, 1) := by decide +kernel
theorem dX11_readsAct_25 : decode cX11_readsAct 25 = .ok (.putfield 376, 3) := by decide +kernel
theorem dX11_readsAct_28 : decode cX11_readsAct 28 = .ok (.aload_n 0, 1) := by decide +kernel
theorem dX11_readsAct_29 : decode cX11_readsAct 29 = .ok (.getfield 71, 3) := by decide +kernel
theorem dX11_readsAct_32 : decode cX11_readsAct 32 = .ok (.iload_n 1, 1) := by decide +kernel
theorem dX11_readsAct_33 : decode cX11_readsAct 33 = .ok (.iaload, 1) := by decide +kernel
theorem dX11_readsAct_34 : decode cX11_readsAct 34 = .ok (.ifCond .ge 5, 3) := by decide +kernel
theorem dX11_readsAct_37 : decode cX11_readsAct 37 = .ok (.iconst 0, 1) := by decide +kernel
theorem dX11_readsAct_38 : decode cX11_readsAct 38 = .ok (.ireturn, 1) := by decide +kernel
theorem dX11_readsAct_39 : decode cX11_readsAct 39 = .ok (.aload_n 0, 1) := by decide +kernel
theorem dX11_readsAct_40 : decode cX11_readsAct 40 = .ok (.getfield 74, 3) := by decide +kernel
theorem dX11_readsAct_43 : decode cX11_readsAct 43 = .ok (.iload_n 1, 1) := by decide +kernel
theorem dX11_readsAct_44 : decode cX11_readsAct 44 = .ok (.aload_n 0, 1) := by decide +kernel
theorem dX11_readsAct_45 : decode cX11_readsAct 45 = .ok (.iconst 1, 1) := by decide +kernel
theorem dX11_readsAct_46 : decode cX11_readsAct 46 = .ok (.invokevirtual 188, 3) := by decide +kernel
theorem dX11_readsAct_49 : decode cX11_readsAct 49 = .ok (.iastore, 1) := by decide +kernel
theorem dX11_readsAct_50 : decode cX11_readsAct 50 = .ok (.aload_n 0, 1) := by decide +kernel
theorem dX11_readsAct_51 : decode cX11_readsAct 51 = .ok (.getfield 74, 3) := by decide +kernel
theorem dX11_readsAct_54 : decode cX11_readsAct 54 = .ok (.iload_n 1, 1) := by decide +kernel
theorem dX11_readsAct_55 : decode cX11_readsAct 55 = .ok (.iaload, 1) := by decide +kernel
theorem dX11_readsAct_56 : decode cX11_readsAct 56 = .ok (.ifCond .lt 13, 3) := by decide +kernel
theorem dX11_readsAct_59 : decode cX11_readsAct 59 = .ok (.aload_n 0, 1) := by decide +kernel
theorem dX11_readsAct_60 : decode cX11_readsAct 60 = .ok (.getfield 71, 3) := by decide +kernel
theorem dX11_readsAct_63 : decode cX11_readsAct 63 = .ok (.iload_n 1, 1) := by decide +kernel
theorem dX11_readsAct_64 : decode cX11_readsAct 64 = .ok (.iaload, 1) := by decide +kernel
theorem dX11_readsAct_65 : decode cX11_readsAct 65 = .ok (.iconst 2, 1) := by decide +kernel
theorem dX11_readsAct_66 : decode cX11_readsAct 66 = .ok (.if_icmp .ge 18, 3) := by decide +kernel
theorem dX11_readsAct_69 : decode cX11_readsAct 69 = .ok (.aload_n 0, 1) := by decide +kernel
theorem dX11_readsAct_70 : decode cX11_readsAct 70 = .ok (.getfield 74, 3) := by decide +kernel
theorem dX11_readsAct_73 : decode cX11_readsAct 73 = .ok (.iload_n 1, 1) := by decide +kernel
theorem dX11_readsAct_74 : decode cX11_readsAct 74 = .ok (.iaload, 1) := by decide +kernel
theorem dX11_readsAct_75 : decode cX11_readsAct 75 = .ok (.ifCond .lt 7, 3) := by decide +kernel
theorem dX11_readsAct_78 : decode cX11_readsAct 78 = .ok (.iconst 1, 1) := by decide +kernel
theorem dX11_readsAct_79 : decode cX11_readsAct 79 = .ok (.goto 4, 3) := by decide +kernel
theorem dX11_readsAct_82 : decode cX11_readsAct 82 = .ok (.iconst 0, 1) := by decide +kernel
theorem dX11_readsAct_83 : decode cX11_readsAct 83 = .ok (.ireturn, 1) := by decide +kernel
theorem dX11_readsAct_84 : decode cX11_readsAct 84 = .ok (.aload_n 0, 1) := by decide +kernel
theorem dX11_readsAct_85 : decode cX11_readsAct 85 = .ok (.getfield 77, 3) := by decide +kernel
theorem dX11_readsAct_88 : decode cX11_readsAct 88 = .ok (.iload_n 1, 1) := by decide +kernel
theorem dX11_readsAct_89 : decode cX11_readsAct 89 = .ok (.aload_n 0, 1) := by decide +kernel
theorem dX11_readsAct_90 : decode cX11_readsAct 90 = .ok (.iconst 1, 1) := by decide +kernel
theorem dX11_readsAct_91 : decode cX11_readsAct 91 = .ok (.invokevirtual 188, 3) := by decide +kernel
theorem dX11_readsAct_94 : decode cX11_readsAct 94 = .ok (.iastore, 1) := by decide +kernel
theorem dX11_readsAct_95 : decode cX11_readsAct 95 = .ok (.aload_n 0, 1) := by decide +kernel
theorem dX11_readsAct_96 : decode cX11_readsAct 96 = .ok (.getfield 77, 3) := by decide +kernel
theorem dX11_readsAct_99 : decode cX11_readsAct 99 = .ok (.iload_n 1, 1) := by decide +kernel
theorem dX11_readsAct_100 : decode cX11_readsAct 100 = .ok (.iaload, 1) := by decide +kernel
theorem dX11_readsAct_101 : decode cX11_readsAct 101 = .ok (.ifCond .ge 5, 3) := by decide +kernel
theorem dX11_readsAct_104 : decode cX11_readsAct 104 = .ok (.iconst 0, 1) := by decide +kernel
theorem dX11_readsAct_105 : decode cX11_readsAct 105 = .ok (.ireturn, 1) := by decide +kernel
theorem dX11_readsAct_106 : decode cX11_readsAct 106 = .ok (.aload_n 0, 1) := by decide +kernel
theorem dX11_readsAct_107 : decode cX11_readsAct 107 = .ok (.getfield 80, 3) := by decide +kernel
theorem dX11_readsAct_110 : decode cX11_readsAct 110 = .ok (.iload_n 1, 1) := by decide +kernel
theorem dX11_readsAct_111 : decode cX11_readsAct 111 = .ok (.aload_n 0, 1) := by decide +kernel
theorem dX11_readsAct_112 : decode cX11_readsAct 112 = .ok (.getfield 71, 3) := by decide +kernel
theorem dX11_readsAct_115 : decode cX11_readsAct 115 = .ok (.iload_n 1, 1) := by decide +kernel
theorem dX11_readsAct_116 : decode cX11_readsAct 116 = .ok (.iaload, 1) := by decide +kernel
theorem dX11_readsAct_117 : decode cX11_readsAct 117 = .ok (.iconst 2, 1) := by decide +kernel
theorem dX11_readsAct_118 : decode cX11_readsAct 118 = .ok (.if_icmp .ne 12, 3) := by decide +kernel
theorem dX11_readsAct_121 : decode cX11_readsAct 121 = .ok (.aload_n 0, 1) := by decide +kernel
theorem dX11_readsAct_122 : decode cX11_readsAct 122 = .ok (.invokevirtual 330, 3) := by decide +kernel
theorem dX11_readsAct_125 : decode cX11_readsAct 125 = .ok (.iconst 1, 1) := by decide +kernel
theorem dX11_readsAct_126 : decode cX11_readsAct 126 = .ok (.isub, 1) := by decide +kernel
theorem dX11_readsAct_127 : decode cX11_readsAct 127 = .ok (.goto 8, 3) := by decide +kernel
theorem dX11_readsAct_130 : decode cX11_readsAct 130 = .ok (.aload_n 0, 1) := by decide +kernel
theorem dX11_readsAct_131 : decode cX11_readsAct 131 = .ok (.iconst 1, 1) := by decide +kernel
theorem dX11_readsAct_132 : decode cX11_readsAct 132 = .ok (.invokevirtual 188, 3) := by decide +kernel
theorem dX11_readsAct_135 : decode cX11_readsAct 135 = .ok (.iastore, 1) := by decide +kernel
theorem dX11_readsAct_136 : decode cX11_readsAct 136 = .ok (.aload_n 0, 1) := by decide +kernel
theorem dX11_readsAct_137 : decode cX11_readsAct 137 = .ok (.getfield 80, 3) := by decide +kernel
theorem dX11_readsAct_140 : decode cX11_readsAct 140 = .ok (.iload_n 1, 1) := by decide +kernel
theorem dX11_readsAct_141 : decode cX11_readsAct 141 = .ok (.iaload, 1) := by decide +kernel
theorem dX11_readsAct_142 : decode cX11_readsAct 142 = .ok (.ifCond .lt 7, 3) := by decide +kernel
theorem dX11_readsAct_145 : decode cX11_readsAct 145 = .ok (.iconst 1, 1) := by decide +kernel
theorem dX11_readsAct_146 : decode cX11_readsAct 146 = .ok (.goto 4, 3) := by decide +kernel
theorem dX11_readsAct_149 : decode cX11_readsAct 149 = .ok (.iconst 0, 1) := by decide +kernel
theorem dX11_readsAct_150 : decode cX11_readsAct 150 = .ok (.ireturn, 1) := by decide +kernel
theorem dX11_does_0 : decode cX11_does 0 = .ok (.aload_n 0, 1) := by decide +kernel
theorem dX11_does_1 : decode cX11_does 1 = .ok (.getfield 74, 3) := by decide +kernel
theorem dX11_does_4 : decode cX11_does 4 = .ok (.iload_n 1, 1) := by decide +kernel
theorem dX11_does_5 : decode cX11_does 5 = .ok (.iaload, 1) := by decide +kernel
theorem dX11_does_6 : decode cX11_does 6 = .ok (.istore_n 2, 1) := by decide +kernel
theorem dX11_does_7 : decode cX11_does 7 = .ok (.aload_n 0, 1) := by decide +kernel
theorem dX11_does_8 : decode cX11_does 8 = .ok (.getfield 71, 3) := by decide +kernel
theorem dX11_does_11 : decode cX11_does 11 = .ok (.iload_n 1, 1) := by decide +kernel
theorem dX11_does_12 : decode cX11_does 12 = .ok (.iaload, 1) := by decide +kernel
theorem dX11_does_13 : decode cX11_does 13 = .ok (.tableswitch 101 0 2 #[27, 38, 56], 27) := by decide +kernel
theorem dX11_does_40 : decode cX11_does 40 = .ok (.aload_n 0, 1) := by decide +kernel
theorem dX11_does_41 : decode cX11_does 41 = .ok (.aload_n 0, 1) := by decide +kernel
theorem dX11_does_42 : decode cX11_does 42 = .ok (.getfield 31, 3) := by decide +kernel
theorem dX11_does_45 : decode cX11_does 45 = .ok (.iload_n 2, 1) := by decide +kernel
theorem dX11_does_46 : decode cX11_does 46 = .ok (.invokevirtual 364, 3) := by decide +kernel
theorem dX11_does_49 : decode cX11_does 49 = .ok (.iconst 1, 1) := by decide +kernel
theorem dX11_does_50 : decode cX11_does 50 = .ok (.ireturn, 1) := by decide +kernel
theorem dX11_does_51 : decode cX11_does 51 = .ok (.aload_n 0, 1) := by decide +kernel
theorem dX11_does_52 : decode cX11_does 52 = .ok (.aload_n 0, 1) := by decide +kernel
theorem dX11_does_53 : decode cX11_does 53 = .ok (.getfield 31, 3) := by decide +kernel
theorem dX11_does_56 : decode cX11_does 56 = .ok (.iload_n 2, 1) := by decide +kernel
theorem dX11_does_57 : decode cX11_does 57 = .ok (.invokevirtual 367, 3) := by decide +kernel
theorem dX11_does_60 : decode cX11_does 60 = .ok (.ifCond .lt 7, 3) := by decide +kernel
theorem dX11_does_63 : decode cX11_does 63 = .ok (.iconst 1, 1) := by decide +kernel
theorem dX11_does_64 : decode cX11_does 64 = .ok (.goto 4, 3) := by decide +kernel
theorem dX11_does_67 : decode cX11_does 67 = .ok (.iconst 0, 1) := by decide +kernel
theorem dX11_does_68 : decode cX11_does 68 = .ok (.ireturn, 1) := by decide +kernel
theorem dX11_does_69 : decode cX11_does 69 = .ok (.aload_n 0, 1) := by decide +kernel
theorem dX11_does_70 : decode cX11_does 70 = .ok (.aload_n 0, 1) := by decide +kernel
theorem dX11_does_71 : decode cX11_does 71 = .ok (.getfield 31, 3) := by decide +kernel
theorem dX11_does_74 : decode cX11_does 74 = .ok (.iload_n 2, 1) := by decide +kernel
theorem dX11_does_75 : decode cX11_does 75 = .ok (.aload_n 0, 1) := by decide +kernel
theorem dX11_does_76 : decode cX11_does 76 = .ok (.getfield 77, 3) := by decide +kernel
theorem dX11_does_79 : decode cX11_does 79 = .ok (.iload_n 1, 1) := by decide +kernel
theorem dX11_does_80 : decode cX11_does 80 = .ok (.iaload, 1) := by decide +kernel
theorem dX11_does_81 : decode cX11_does 81 = .ok (.invokevirtual 326, 3) := by decide +kernel
theorem dX11_does_84 : decode cX11_does 84 = .ok (.ifCond .ne 5, 3) := by decide +kernel
theorem dX11_does_87 : decode cX11_does 87 = .ok (.iconst 0, 1) := by decide +kernel
theorem dX11_does_88 : decode cX11_does 88 = .ok (.ireturn, 1) := by decide +kernel
theorem dX11_does_89 : decode cX11_does 89 = .ok (.aload_n 0, 1) := by decide +kernel
theorem dX11_does_90 : decode cX11_does 90 = .ok (.aload_n 0, 1) := by decide +kernel
theorem dX11_does_91 : decode cX11_does 91 = .ok (.getfield 31, 3) := by decide +kernel
theorem dX11_does_94 : decode cX11_does 94 = .ok (.iload_n 2, 1) := by decide +kernel
theorem dX11_does_95 : decode cX11_does 95 = .ok (.aload_n 0, 1) := by decide +kernel
theorem dX11_does_96 : decode cX11_does 96 = .ok (.getfield 77, 3) := by decide +kernel
theorem dX11_does_99 : decode cX11_does 99 = .ok (.iload_n 1, 1) := by decide +kernel
theorem dX11_does_100 : decode cX11_does 100 = .ok (.iaload, 1) := by decide +kernel
theorem dX11_does_101 : decode cX11_does 101 = .ok (.invokevirtual 336, 3) := by decide +kernel
theorem dX11_does_104 : decode cX11_does 104 = .ok (.aload_n 0, 1) := by decide +kernel
theorem dX11_does_105 : decode cX11_does 105 = .ok (.aload_n 0, 1) := by decide +kernel
theorem dX11_does_106 : decode cX11_does 106 = .ok (.getfield 31, 3) := by decide +kernel
theorem dX11_does_109 : decode cX11_does 109 = .ok (.invokevirtual 351, 3) := by decide +kernel
theorem dX11_does_112 : decode cX11_does 112 = .ok (.iconst 1, 1) := by decide +kernel
theorem dX11_does_113 : decode cX11_does 113 = .ok (.ireturn, 1) := by decide +kernel
theorem dX11_does_114 : decode cX11_does 114 = .ok (.aload_n 0, 1) := by decide +kernel
theorem dX11_does_115 : decode cX11_does 115 = .ok (.iload_n 2, 1) := by decide +kernel
theorem dX11_does_116 : decode cX11_does 116 = .ok (.aload_n 0, 1) := by decide +kernel
theorem dX11_does_117 : decode cX11_does 117 = .ok (.getfield 77, 3) := by decide +kernel
theorem dX11_does_120 : decode cX11_does 120 = .ok (.iload_n 1, 1) := by decide +kernel
theorem dX11_does_121 : decode cX11_does 121 = .ok (.iaload, 1) := by decide +kernel
theorem dX11_does_122 : decode cX11_does 122 = .ok (.aload_n 0, 1) := by decide +kernel
theorem dX11_does_123 : decode cX11_does 123 = .ok (.getfield 80, 3) := by decide +kernel
theorem dX11_does_126 : decode cX11_does 126 = .ok (.iload_n 1, 1) := by decide +kernel
theorem dX11_does_127 : decode cX11_does 127 = .ok (.iaload, 1) := by decide +kernel
theorem dX11_does_128 : decode cX11_does 128 = .ok (.invokevirtual 373, 3) := by decide +kernel
theorem dX11_does_131 : decode cX11_does 131 = .ok (.ifCond .lt 7, 3) := by decide +kernel
theorem dX11_does_134 : decode cX11_does 134 = .ok (.iconst 1, 1) := by decide +kernel
theorem dX11_does_135 : decode cX11_does 135 = .ok (.goto 4, 3) := by decide +kernel
theorem dX11_does_138 : decode cX11_does 138 = .ok (.iconst 0, 1) := by decide +kernel
theorem dX11_does_139 : decode cX11_does 139 = .ok (.ireturn, 1) := by decide +kernel
theorem dX11_season_0 : decode cX11_season 0 = .ok (.aload_n 0, 1) := by decide +kernel
theorem dX11_season_1 : decode cX11_season 1 = .ok (.iconst 0, 1) := by decide +kernel
theorem dX11_season_2 : decode cX11_season 2 = .ok (.putfield 3, 3) := by decide +kernel
theorem dX11_season_5 : decode cX11_season 5 = .ok (.aload_n 0, 1) := by decide +kernel
theorem dX11_season_6 : decode cX11_season 6 = .ok (.bipush 60, 2) := by decide +kernel
theorem dX11_season_8 : decode cX11_season 8 = .ok (.invokevirtual 192, 3) := by decide +kernel
theorem dX11_season_11 : decode cX11_season 11 = .ok (.istore_n 1, 1) := by decide +kernel
theorem dX11_season_12 : decode cX11_season 12 = .ok (.aload_n 0, 1) := by decide +kernel
theorem dX11_season_13 : decode cX11_season 13 = .ok (.iconst 0, 1) := by decide +kernel
theorem dX11_season_14 : decode cX11_season 14 = .ok (.putfield 376, 3) := by decide +kernel
theorem dX11_season_17 : decode cX11_season 17 = .ok (.iconst 1, 1) := by decide +kernel
theorem dX11_season_18 : decode cX11_season 18 = .ok (.istore_n 2, 1) := by decide +kernel
theorem dX11_season_19 : decode cX11_season 19 = .ok (.iload_n 2, 1) := by decide +kernel
theorem dX11_season_20 : decode cX11_season 20 = .ok (.ifCond .eq 22, 3) := by decide +kernel
theorem dX11_season_23 : decode cX11_season 23 = .ok (.aload_n 0, 1) := by decide +kernel
theorem dX11_season_24 : decode cX11_season 24 = .ok (.getfield 140, 3) := by decide +kernel
theorem dX11_season_27 : decode cX11_season 27 = .ok (.aload_n 0, 1) := by decide +kernel
theorem dX11_season_28 : decode cX11_season 28 = .ok (.getfield 152, 3) := by decide +kernel
theorem dX11_season_31 : decode cX11_season 31 = .ok (.if_icmp .ge 11, 3) := by decide +kernel
theorem dX11_season_34 : decode cX11_season 34 = .ok (.aload_n 0, 1) := by decide +kernel
theorem dX11_season_35 : decode cX11_season 35 = .ok (.invokevirtual 381, 3) := by decide +kernel
theorem dX11_season_38 : decode cX11_season 38 = .ok (.istore_n 2, 1) := by decide +kernel
theorem dX11_season_39 : decode cX11_season 39 = .ok (.goto (-20), 3) := by decide +kernel
theorem dX11_season_42 : decode cX11_season 42 = .ok (.aload_n 0, 1) := by decide +kernel
theorem dX11_season_43 : decode cX11_season 43 = .ok (.iload_n 1, 1) := by decide +kernel
theorem dX11_season_44 : decode cX11_season 44 = .ok (.bipush 60, 2) := by decide +kernel
theorem dX11_season_46 : decode cX11_season 46 = .ok (.iload_n 2, 1) := by decide +kernel
theorem dX11_season_47 : decode cX11_season 47 = .ok (.invokevirtual 202, 3) := by decide +kernel
theorem dX11_season_50 : decode cX11_season 50 = .ok (.istore_n 3, 1) := by decide +kernel
theorem dX11_season_51 : decode cX11_season 51 = .ok (.iload_n 3, 1) := by decide +kernel
theorem dX11_season_52 : decode cX11_season 52 = .ok (.ifCond .ge 5, 3) := by decide +kernel
theorem dX11_season_55 : decode cX11_season 55 = .ok (.iload_n 3, 1) := by decide +kernel
theorem dX11_season_56 : decode cX11_season 56 = .ok (.ireturn, 1) := by decide +kernel
theorem dX11_season_57 : decode cX11_season 57 = .ok (.aload_n 0, 1) := by decide +kernel
theorem dX11_season_58 : decode cX11_season 58 = .ok (.invokevirtual 348, 3) := by decide +kernel
theorem dX11_season_61 : decode cX11_season 61 = .ok (.iconst 0, 1) := by decide +kernel
theorem dX11_season_62 : decode cX11_season 62 = .ok (.istore 4, 2) := by decide +kernel
theorem dX11_season_64 : decode cX11_season 64 = .ok (.iload 4, 2) := by decide +kernel
theorem dX11_season_66 : decode cX11_season 66 = .ok (.aload_n 0, 1) := by decide +kernel
theorem dX11_season_67 : decode cX11_season 67 = .ok (.getfield 376, 3) := by decide +kernel
theorem dX11_season_70 : decode cX11_season 70 = .ok (.if_icmp .ge 18, 3) := by decide +kernel
theorem dX11_season_73 : decode cX11_season 73 = .ok (.aload_n 0, 1) := by decide +kernel
theorem dX11_season_74 : decode cX11_season 74 = .ok (.iload 4, 2) := by decide +kernel
theorem dX11_season_76 : decode cX11_season 76 = .ok (.invokevirtual 384, 3) := by decide +kernel
theorem dX11_season_79 : decode cX11_season 79 = .ok (.ifCond .eq 9, 3) := by decide +kernel
theorem dX11_season_82 : decode cX11_season 82 = .ok (.iinc 4 1, 3) := by decide +kernel
theorem dX11_season_85 : decode cX11_season 85 = .ok (.goto (-21), 3) := by decide +kernel
theorem dX11_season_88 : decode cX11_season 88 = .ok (.aload_n 0, 1) := by decide +kernel
theorem dX11_season_89 : decode cX11_season 89 = .ok (.iconst 0, 1) := by decide +kernel
theorem dX11_season_90 : decode cX11_season 90 = .ok (.putfield 15, 3) := by decide +kernel
theorem dX11_season_93 : decode cX11_season 93 = .ok (.aload_n 0, 1) := by decide +kernel
theorem dX11_season_94 : decode cX11_season 94 = .ok (.iload 4, 2) := by decide +kernel
theorem dX11_season_96 : decode cX11_season 96 = .ok (.aload_n 0, 1) := by decide +kernel
theorem dX11_season_97 : decode cX11_season 97 = .ok (.getfield 376, 3) := by decide +kernel
theorem dX11_season_100 : decode cX11_season 100 = .ok (.if_icmp .ge 7, 3) := by decide +kernel
theorem dX11_season_103 : decode cX11_season 103 = .ok (.iconst 1, 1) := by decide +kernel
theorem dX11_season_104 : decode cX11_season 104 = .ok (.goto 4, 3) := by decide +kernel
theorem dX11_season_107 : decode cX11_season 107 = .ok (.iconst 0, 1) := by decide +kernel
theorem dX11_season_108 : decode cX11_season 108 = .ok (.invokestatic 155, 3) := by decide +kernel
theorem dX11_season_111 : decode cX11_season 111 = .ok (.i2l, 1) := by decide +kernel
theorem dX11_season_112 : decode cX11_season 112 = .ok (.invokevirtual 340, 3) := by decide +kernel
theorem dX11_season_115 : decode cX11_season 115 = .ok (.aload_n 0, 1) := by decide +kernel
theorem dX11_season_116 : decode cX11_season 116 = .ok (.aload_n 0, 1) := by decide +kernel
theorem dX11_season_117 : decode cX11_season 117 = .ok (.getfield 31, 3) := by decide +kernel
theorem dX11_season_120 : decode cX11_season 120 = .ok (.bipush 38, 2) := by decide +kernel
theorem dX11_season_122 : decode cX11_season 122 = .ok (.iaload, 1) := by decide +kernel
theorem dX11_season_123 : decode cX11_season 123 = .ok (.i2l, 1) := by decide +kernel
theorem dX11_season_124 : decode cX11_season 124 = .ok (.invokevirtual 340, 3) := by decide +kernel
theorem dX11_season_127 : decode cX11_season 127 = .ok (.iload 4, 2) := by decide +kernel
theorem dX11_season_129 : decode cX11_season 129 = .ok (.ifCond .le 12, 3) := by decide +kernel
theorem dX11_season_132 : decode cX11_season 132 = .ok (.aload_n 0, 1) := by decide +kernel
theorem dX11_season_133 : decode cX11_season 133 = .ok (.iload 4, 2) := by decide +kernel
theorem dX11_season_135 : decode cX11_season 135 = .ok (.invokevirtual 320, 3) := by decide +kernel
theorem dX11_season_138 : decode cX11_season 138 = .ok (.goto 4, 3) := by decide +kernel
theorem dX11_season_141 : decode cX11_season 141 = .ok (.iconst 0, 1) := by decide +kernel
theorem dX11_season_142 : decode cX11_season 142 = .ok (.ireturn, 1) := by decide +kernel
theorem dX11_copies_0 : decode cX11_copies 0 = .ok (.iconst 0, 1) := by decide +kernel
theorem dX11_copies_1 : decode cX11_copies 1 = .ok (.istore_n 1, 1) := by decide +kernel
theorem dX11_copies_2 : decode cX11_copies 2 = .ok (.iload_n 1, 1) := by decide +kernel
theorem dX11_copies_3 : decode cX11_copies 3 = .ok (.bipush 39, 2) := by decide +kernel
theorem dX11_copies_5 : decode cX11_copies 5 = .ok (.if_icmp .ge 21, 3) := by decide +kernel
theorem dX11_copies_8 : decode cX11_copies 8 = .ok (.aload_n 0, 1) := by decide +kernel
theorem dX11_copies_9 : decode cX11_copies 9 = .ok (.getfield 34, 3) := by decide +kernel
theorem dX11_copies_12 : decode cX11_copies 12 = .ok (.iload_n 1, 1) := by decide +kernel
theorem dX11_copies_13 : decode cX11_copies 13 = .ok (.aload_n 0, 1) := by decide +kernel
theorem dX11_copies_14 : decode cX11_copies 14 = .ok (.getfield 31, 3) := by decide +kernel
theorem dX11_copies_17 : decode cX11_copies 17 = .ok (.iload_n 1, 1) := by decide +kernel
theorem dX11_copies_18 : decode cX11_copies 18 = .ok (.iaload, 1) := by decide +kernel
theorem dX11_copies_19 : decode cX11_copies 19 = .ok (.iastore, 1) := by decide +kernel
theorem dX11_copies_20 : decode cX11_copies 20 = .ok (.iinc 1 1, 3) := by decide +kernel
theorem dX11_copies_23 : decode cX11_copies 23 = .ok (.goto (-21), 3) := by decide +kernel
theorem dX11_copies_26 : decode cX11_copies 26 = .ok (.return_, 1) := by decide +kernel
theorem dX11_route_0 : decode cX11_route 0 = .ok (.aload_n 0, 1) := by decide +kernel
theorem dX11_route_1 : decode cX11_route 1 = .ok (.iconst 0, 1) := by decide +kernel
theorem dX11_route_2 : decode cX11_route 2 = .ok (.putfield 3, 3) := by decide +kernel
theorem dX11_route_5 : decode cX11_route 5 = .ok (.aload_n 0, 1) := by decide +kernel
theorem dX11_route_6 : decode cX11_route 6 = .ok (.aload_n 0, 1) := by decide +kernel
theorem dX11_route_7 : decode cX11_route 7 = .ok (.getfield 31, 3) := by decide +kernel
theorem dX11_route_10 : decode cX11_route 10 = .ok (.iload_n 1, 1) := by decide +kernel
theorem dX11_route_11 : decode cX11_route 11 = .ok (.iload_n 2, 1) := by decide +kernel
theorem dX11_route_12 : decode cX11_route 12 = .ok (.invokevirtual 326, 3) := by decide +kernel
theorem dX11_route_15 : decode cX11_route 15 = .ok (.ifCond .ne 5, 3) := by decide +kernel
theorem dX11_route_18 : decode cX11_route 18 = .ok (.iconst (-1), 1) := by decide +kernel
theorem dX11_route_19 : decode cX11_route 19 = .ok (.ireturn, 1) := by decide +kernel
theorem dX11_route_20 : decode cX11_route 20 = .ok (.aload_n 0, 1) := by decide +kernel
theorem dX11_route_21 : decode cX11_route 21 = .ok (.aload_n 0, 1) := by decide +kernel
theorem dX11_route_22 : decode cX11_route 22 = .ok (.getfield 31, 3) := by decide +kernel
theorem dX11_route_25 : decode cX11_route 25 = .ok (.iload_n 1, 1) := by decide +kernel
theorem dX11_route_26 : decode cX11_route 26 = .ok (.iload_n 2, 1) := by decide +kernel
theorem dX11_route_27 : decode cX11_route 27 = .ok (.invokevirtual 336, 3) := by decide +kernel
theorem dX11_route_30 : decode cX11_route 30 = .ok (.aload_n 0, 1) := by decide +kernel
theorem dX11_route_31 : decode cX11_route 31 = .ok (.iconst 0, 1) := by decide +kernel
theorem dX11_route_32 : decode cX11_route 32 = .ok (.putfield 15, 3) := by decide +kernel
theorem dX11_route_35 : decode cX11_route 35 = .ok (.aload_n 0, 1) := by decide +kernel
theorem dX11_route_36 : decode cX11_route 36 = .ok (.aload_n 0, 1) := by decide +kernel
theorem dX11_route_37 : decode cX11_route 37 = .ok (.getfield 275, 3) := by decide +kernel
theorem dX11_route_40 : decode cX11_route 40 = .ok (.i2l, 1) := by decide +kernel
theorem dX11_route_41 : decode cX11_route 41 = .ok (.invokevirtual 340, 3) := by decide +kernel
theorem dX11_route_44 : decode cX11_route 44 = .ok (.iconst 0, 1) := by decide +kernel
theorem dX11_route_45 : decode cX11_route 45 = .ok (.istore_n 3, 1) := by decide +kernel
theorem dX11_route_46 : decode cX11_route 46 = .ok (.iload_n 3, 1) := by decide +kernel
theorem dX11_route_47 : decode cX11_route 47 = .ok (.aload_n 0, 1) := by decide +kernel
theorem dX11_route_48 : decode cX11_route 48 = .ok (.getfield 269, 3) := by decide +kernel
theorem dX11_route_51 : decode cX11_route 51 = .ok (.if_icmp .ge 20, 3) := by decide +kernel
theorem dX11_route_54 : decode cX11_route 54 = .ok (.aload_n 0, 1) := by decide +kernel
theorem dX11_route_55 : decode cX11_route 55 = .ok (.aload_n 0, 1) := by decide +kernel
theorem dX11_route_56 : decode cX11_route 56 = .ok (.getfield 55, 3) := by decide +kernel
theorem dX11_route_59 : decode cX11_route 59 = .ok (.iload_n 3, 1) := by decide +kernel
theorem dX11_route_60 : decode cX11_route 60 = .ok (.iaload, 1) := by decide +kernel
theorem dX11_route_61 : decode cX11_route 61 = .ok (.i2l, 1) := by decide +kernel
theorem dX11_route_62 : decode cX11_route 62 = .ok (.invokevirtual 340, 3) := by decide +kernel
theorem dX11_route_65 : decode cX11_route 65 = .ok (.iinc 3 1, 3) := by decide +kernel
theorem dX11_route_68 : decode cX11_route 68 = .ok (.goto (-22), 3) := by decide +kernel
theorem dX11_route_71 : decode cX11_route 71 = .ok (.aload_n 0, 1) := by decide +kernel
theorem dX11_route_72 : decode cX11_route 72 = .ok (.getfield 272, 3) := by decide +kernel
theorem dX11_route_75 : decode cX11_route 75 = .ok (.ireturn, 1) := by decide +kernel
theorem dX11_hears_0 : decode cX11_hears 0 = .ok (.aload_n 0, 1) := by decide +kernel
theorem dX11_hears_1 : decode cX11_hears 1 = .ok (.iconst 0, 1) := by decide +kernel
theorem dX11_hears_2 : decode cX11_hears 2 = .ok (.putfield 3, 3) := by decide +kernel
theorem dX11_hears_5 : decode cX11_hears 5 = .ok (.aload_n 0, 1) := by decide +kernel
theorem dX11_hears_6 : decode cX11_hears 6 = .ok (.iload_n 1, 1) := by decide +kernel
theorem dX11_hears_7 : decode cX11_hears 7 = .ok (.iload_n 2, 1) := by decide +kernel
theorem dX11_hears_8 : decode cX11_hears 8 = .ok (.invokevirtual 333, 3) := by decide +kernel
theorem dX11_hears_11 : decode cX11_hears 11 = .ok (.istore_n 3, 1) := by decide +kernel
theorem dX11_hears_12 : decode cX11_hears 12 = .ok (.iload_n 3, 1) := by decide +kernel
theorem dX11_hears_13 : decode cX11_hears 13 = .ok (.ifCond .ge 5, 3) := by decide +kernel
theorem dX11_hears_16 : decode cX11_hears 16 = .ok (.iload_n 3, 1) := by decide +kernel
theorem dX11_hears_17 : decode cX11_hears 17 = .ok (.ireturn, 1) := by decide +kernel
theorem dX11_hears_18 : decode cX11_hears 18 = .ok (.aload_n 0, 1) := by decide +kernel
theorem dX11_hears_19 : decode cX11_hears 19 = .ok (.aload_n 0, 1) := by decide +kernel
theorem dX11_hears_20 : decode cX11_hears 20 = .ok (.getfield 31, 3) := by decide +kernel
theorem dX11_hears_23 : decode cX11_hears 23 = .ok (.iload_n 1, 1) := by decide +kernel
theorem dX11_hears_24 : decode cX11_hears 24 = .ok (.iload_n 2, 1) := by decide +kernel
theorem dX11_hears_25 : decode cX11_hears 25 = .ok (.invokevirtual 336, 3) := by decide +kernel
theorem dX11_hears_28 : decode cX11_hears 28 = .ok (.iconst 0, 1) := by decide +kernel
theorem dX11_hears_29 : decode cX11_hears 29 = .ok (.istore 4, 2) := by decide +kernel
theorem dX11_hears_31 : decode cX11_hears 31 = .ok (.aload_n 0, 1) := by decide +kernel
theorem dX11_hears_32 : decode cX11_hears 32 = .ok (.iconst 0, 1) := by decide +kernel
theorem dX11_hears_33 : decode cX11_hears 33 = .ok (.putfield 15, 3) := by decide +kernel
theorem dX11_hears_36 : decode cX11_hears 36 = .ok (.iconst 0, 1) := by decide +kernel
theorem dX11_hears_37 : decode cX11_hears 37 = .ok (.istore 5, 2) := by decide +kernel
theorem dX11_hears_39 : decode cX11_hears 39 = .ok (.iload 5, 2) := by decide +kernel
theorem dX11_hears_41 : decode cX11_hears 41 = .ok (.iload_n 3, 1) := by decide +kernel
theorem dX11_hears_42 : decode cX11_hears 42 = .ok (.if_icmp .ge 60, 3) := by decide +kernel
theorem dX11_hears_45 : decode cX11_hears 45 = .ok (.aload_n 0, 1) := by decide +kernel
theorem dX11_hears_46 : decode cX11_hears 46 = .ok (.aload_n 0, 1) := by decide +kernel
theorem dX11_hears_47 : decode cX11_hears 47 = .ok (.getfield 31, 3) := by decide +kernel
theorem dX11_hears_50 : decode cX11_hears 50 = .ok (.aload_n 0, 1) := by decide +kernel
theorem dX11_hears_51 : decode cX11_hears 51 = .ok (.getfield 68, 3) := by decide +kernel
theorem dX11_hears_54 : decode cX11_hears 54 = .ok (.iload 5, 2) := by decide +kernel
theorem dX11_hears_56 : decode cX11_hears 56 = .ok (.iaload, 1) := by decide +kernel
theorem dX11_hears_57 : decode cX11_hears 57 = .ok (.iload 5, 2) := by decide +kernel
theorem dX11_hears_59 : decode cX11_hears 59 = .ok (.invokevirtual 344, 3) := by decide +kernel
theorem dX11_hears_62 : decode cX11_hears 62 = .ok (.istore 6, 2) := by decide +kernel
theorem dX11_hears_64 : decode cX11_hears 64 = .ok (.iload 4, 2) := by decide +kernel
theorem dX11_hears_66 : decode cX11_hears 66 = .ok (.iload 6, 2) := by decide +kernel
theorem dX11_hears_68 : decode cX11_hears 68 = .ok (.aload_n 0, 1) := by decide +kernel
theorem dX11_hears_69 : decode cX11_hears 69 = .ok (.getfield 68, 3) := by decide +kernel
theorem dX11_hears_72 : decode cX11_hears 72 = .ok (.iload 5, 2) := by decide +kernel
theorem dX11_hears_74 : decode cX11_hears 74 = .ok (.iaload, 1) := by decide +kernel
theorem dX11_hears_75 : decode cX11_hears 75 = .ok (.if_icmp .ne 7, 3) := by decide +kernel
theorem dX11_hears_78 : decode cX11_hears 78 = .ok (.iconst 1, 1) := by decide +kernel
theorem dX11_hears_79 : decode cX11_hears 79 = .ok (.goto 4, 3) := by decide +kernel
theorem dX11_hears_82 : decode cX11_hears 82 = .ok (.iconst 0, 1) := by decide +kernel
theorem dX11_hears_83 : decode cX11_hears 83 = .ok (.invokestatic 155, 3) := by decide +kernel
theorem dX11_hears_86 : decode cX11_hears 86 = .ok (.iadd, 1) := by decide +kernel
theorem dX11_hears_87 : decode cX11_hears 87 = .ok (.istore 4, 2) := by decide +kernel
theorem dX11_hears_89 : decode cX11_hears 89 = .ok (.aload_n 0, 1) := by decide +kernel
theorem dX11_hears_90 : decode cX11_hears 90 = .ok (.iload 6, 2) := by decide +kernel
theorem dX11_hears_92 : decode cX11_hears 92 = .ok (.i2l, 1) := by decide +kernel
theorem dX11_hears_93 : decode cX11_hears 93 = .ok (.invokevirtual 340, 3) := by decide +kernel
theorem dX11_hears_96 : decode cX11_hears 96 = .ok (.iinc 5 1, 3) := by decide +kernel
theorem dX11_hears_99 : decode cX11_hears 99 = .ok (.goto (-60), 3) := by decide +kernel
theorem dX11_hears_102 : decode cX11_hears 102 = .ok (.iload 4, 2) := by decide +kernel
theorem dX11_hears_104 : decode cX11_hears 104 = .ok (.ireturn, 1) := by decide +kernel
theorem dX11_asks_0 : decode cX11_asks 0 = .ok (.aload_n 0, 1) := by decide +kernel
theorem dX11_asks_1 : decode cX11_asks 1 = .ok (.iconst 0, 1) := by decide +kernel
theorem dX11_asks_2 : decode cX11_asks 2 = .ok (.putfield 3, 3) := by decide +kernel
theorem dX11_asks_5 : decode cX11_asks 5 = .ok (.aload_n 0, 1) := by decide +kernel
theorem dX11_asks_6 : decode cX11_asks 6 = .ok (.iload_n 1, 1) := by decide +kernel
theorem dX11_asks_7 : decode cX11_asks 7 = .ok (.iload_n 2, 1) := by decide +kernel
theorem dX11_asks_8 : decode cX11_asks 8 = .ok (.invokevirtual 333, 3) := by decide +kernel
theorem dX11_asks_11 : decode cX11_asks 11 = .ok (.istore_n 3, 1) := by decide +kernel
theorem dX11_asks_12 : decode cX11_asks 12 = .ok (.iload_n 3, 1) := by decide +kernel
theorem dX11_asks_13 : decode cX11_asks 13 = .ok (.ifCond .ge 5, 3) := by decide +kernel
theorem dX11_asks_16 : decode cX11_asks 16 = .ok (.iload_n 3, 1) := by decide +kernel
theorem dX11_asks_17 : decode cX11_asks 17 = .ok (.ireturn, 1) := by decide +kernel
theorem dX11_asks_18 : decode cX11_asks 18 = .ok (.aload_n 0, 1) := by decide +kernel
theorem dX11_asks_19 : decode cX11_asks 19 = .ok (.aload_n 0, 1) := by decide +kernel
theorem dX11_asks_20 : decode cX11_asks 20 = .ok (.getfield 31, 3) := by decide +kernel
theorem dX11_asks_23 : decode cX11_asks 23 = .ok (.iload_n 1, 1) := by decide +kernel
theorem dX11_asks_24 : decode cX11_asks 24 = .ok (.iload_n 2, 1) := by decide +kernel
theorem dX11_asks_25 : decode cX11_asks 25 = .ok (.invokevirtual 336, 3) := by decide +kernel
theorem dX11_asks_28 : decode cX11_asks 28 = .ok (.iconst 1, 1) := by decide +kernel
theorem dX11_asks_29 : decode cX11_asks 29 = .ok (.istore 4, 2) := by decide +kernel
theorem dX11_asks_31 : decode cX11_asks 31 = .ok (.aload_n 0, 1) := by decide +kernel
theorem dX11_asks_32 : decode cX11_asks 32 = .ok (.iconst 0, 1) := by decide +kernel
theorem dX11_asks_33 : decode cX11_asks 33 = .ok (.putfield 15, 3) := by decide +kernel
theorem dX11_asks_36 : decode cX11_asks 36 = .ok (.iconst 0, 1) := by decide +kernel
theorem dX11_asks_37 : decode cX11_asks 37 = .ok (.istore 5, 2) := by decide +kernel
theorem dX11_asks_39 : decode cX11_asks 39 = .ok (.iload 5, 2) := by decide +kernel
theorem dX11_asks_41 : decode cX11_asks 41 = .ok (.iload_n 3, 1) := by decide +kernel
theorem dX11_asks_42 : decode cX11_asks 42 = .ok (.if_icmp .ge 97, 3) := by decide +kernel
theorem dX11_asks_45 : decode cX11_asks 45 = .ok (.iconst 0, 1) := by decide +kernel
theorem dX11_asks_46 : decode cX11_asks 46 = .ok (.istore 6, 2) := by decide +kernel
theorem dX11_asks_48 : decode cX11_asks 48 = .ok (.iconst (-1), 1) := by decide +kernel
theorem dX11_asks_49 : decode cX11_asks 49 = .ok (.istore 7, 2) := by decide +kernel
theorem dX11_asks_51 : decode cX11_asks 51 = .ok (.bipush 7, 2) := by decide +kernel
theorem dX11_asks_53 : decode cX11_asks 53 = .ok (.istore 8, 2) := by decide +kernel
theorem dX11_asks_55 : decode cX11_asks 55 = .ok (.iload 8, 2) := by decide +kernel
theorem dX11_asks_57 : decode cX11_asks 57 = .ok (.ifCond .lt 62, 3) := by decide +kernel
theorem dX11_asks_60 : decode cX11_asks 60 = .ok (.aload_n 0, 1) := by decide +kernel
theorem dX11_asks_61 : decode cX11_asks 61 = .ok (.aload_n 0, 1) := by decide +kernel
theorem dX11_asks_62 : decode cX11_asks 62 = .ok (.getfield 31, 3) := by decide +kernel
theorem dX11_asks_65 : decode cX11_asks 65 = .ok (.iload 8, 2) := by decide +kernel
theorem dX11_asks_67 : decode cX11_asks 67 = .ok (.iload 5, 2) := by decide +kernel
theorem dX11_asks_69 : decode cX11_asks 69 = .ok (.invokevirtual 344, 3) := by decide +kernel
theorem dX11_asks_72 : decode cX11_asks 72 = .ok (.aload_n 0, 1) := by decide +kernel
theorem dX11_asks_73 : decode cX11_asks 73 = .ok (.getfield 68, 3) := by decide +kernel
theorem dX11_asks_76 : decode cX11_asks 76 = .ok (.iload 5, 2) := by decide +kernel
theorem dX11_asks_78 : decode cX11_asks 78 = .ok (.iaload, 1) := by decide +kernel
theorem dX11_asks_79 : decode cX11_asks 79 = .ok (.if_icmp .ne 7, 3) := by decide +kernel
theorem dX11_asks_82 : decode cX11_asks 82 = .ok (.iconst 1, 1) := by decide +kernel
theorem dX11_asks_83 : decode cX11_asks 83 = .ok (.goto 4, 3) := by decide +kernel
theorem dX11_asks_86 : decode cX11_asks 86 = .ok (.iconst 0, 1) := by decide +kernel
theorem dX11_asks_87 : decode cX11_asks 87 = .ok (.istore 9, 2) := by decide +kernel
theorem dX11_asks_89 : decode cX11_asks 89 = .ok (.iload 9, 2) := by decide +kernel
theorem dX11_asks_91 : decode cX11_asks 91 = .ok (.ifCond .eq 8, 3) := by decide +kernel
theorem dX11_asks_94 : decode cX11_asks 94 = .ok (.iload 8, 2) := by decide +kernel
theorem dX11_asks_96 : decode cX11_asks 96 = .ok (.goto 5, 3) := by decide +kernel
theorem dX11_asks_99 : decode cX11_asks 99 = .ok (.iload 7, 2) := by decide +kernel
theorem dX11_asks_101 : decode cX11_asks 101 = .ok (.istore 7, 2) := by decide +kernel
theorem dX11_asks_103 : decode cX11_asks 103 = .ok (.iload 6, 2) := by decide +kernel
theorem dX11_asks_105 : decode cX11_asks 105 = .ok (.iload 9, 2) := by decide +kernel
theorem dX11_asks_107 : decode cX11_asks 107 = .ok (.invokestatic 155, 3) := by decide +kernel
theorem dX11_asks_110 : decode cX11_asks 110 = .ok (.iadd, 1) := by decide +kernel
theorem dX11_asks_111 : decode cX11_asks 111 = .ok (.istore 6, 2) := by decide +kernel
theorem dX11_asks_113 : decode cX11_asks 113 = .ok (.iinc 8 (-1), 3) := by decide +kernel
theorem dX11_asks_116 : decode cX11_asks 116 = .ok (.goto (-61), 3) := by decide +kernel
theorem dX11_asks_119 : decode cX11_asks 119 = .ok (.iload 4, 2) := by decide +kernel
theorem dX11_asks_121 : decode cX11_asks 121 = .ok (.iload 6, 2) := by decide +kernel
theorem dX11_asks_123 : decode cX11_asks 123 = .ok (.imul, 1) := by decide +kernel
theorem dX11_asks_124 : decode cX11_asks 124 = .ok (.istore 4, 2) := by decide +kernel
theorem dX11_asks_126 : decode cX11_asks 126 = .ok (.aload_n 0, 1) := by decide +kernel
theorem dX11_asks_127 : decode cX11_asks 127 = .ok (.iload 7, 2) := by decide +kernel
theorem dX11_asks_129 : decode cX11_asks 129 = .ok (.i2l, 1) := by decide +kernel
theorem dX11_asks_130 : decode cX11_asks 130 = .ok (.invokevirtual 340, 3) := by decide +kernel
theorem dX11_asks_133 : decode cX11_asks 133 = .ok (.iinc 5 1, 3) := by decide +kernel
theorem dX11_asks_136 : decode cX11_asks 136 = .ok (.goto (-97), 3) := by decide +kernel
theorem dX11_asks_139 : decode cX11_asks 139 = .ok (.aload_n 0, 1) := by decide +kernel
theorem dX11_asks_140 : decode cX11_asks 140 = .ok (.iload 4, 2) := by decide +kernel
theorem dX11_asks_142 : decode cX11_asks 142 = .ok (.ifCond .ne 7, 3) := by decide +kernel
theorem dX11_asks_145 : decode cX11_asks 145 = .ok (.iconst 0, 1) := by decide +kernel
theorem dX11_asks_146 : decode cX11_asks 146 = .ok (.goto 7, 3) := by decide +kernel
theorem dX11_asks_149 : decode cX11_asks 149 = .ok (.aload_n 0, 1) := by decide +kernel
theorem dX11_asks_150 : decode cX11_asks 150 = .ok (.getfield 15, 3) := by decide +kernel
theorem dX11_asks_153 : decode cX11_asks 153 = .ok (.putfield 15, 3) := by decide +kernel
theorem dX11_asks_156 : decode cX11_asks 156 = .ok (.iload 4, 2) := by decide +kernel
theorem dX11_asks_158 : decode cX11_asks 158 = .ok (.ireturn, 1) := by decide +kernel
theorem dX11_becomes_0 : decode cX11_becomes 0 = .ok (.aload_n 0, 1) := by decide +kernel
theorem dX11_becomes_1 : decode cX11_becomes 1 = .ok (.iconst 0, 1) := by decide +kernel
theorem dX11_becomes_2 : decode cX11_becomes 2 = .ok (.putfield 3, 3) := by decide +kernel
theorem dX11_becomes_5 : decode cX11_becomes 5 = .ok (.aload_n 0, 1) := by decide +kernel
theorem dX11_becomes_6 : decode cX11_becomes 6 = .ok (.bipush 80, 2) := by decide +kernel
theorem dX11_becomes_8 : decode cX11_becomes 8 = .ok (.invokevirtual 192, 3) := by decide +kernel
theorem dX11_becomes_11 : decode cX11_becomes 11 = .ok (.pop, 1) := by decide +kernel
theorem dX11_becomes_12 : decode cX11_becomes 12 = .ok (.aload_n 0, 1) := by decide +kernel
theorem dX11_becomes_13 : decode cX11_becomes 13 = .ok (.invokevirtual 330, 3) := by decide +kernel
theorem dX11_becomes_16 : decode cX11_becomes 16 = .ok (.istore_n 1, 1) := by decide +kernel
theorem dX11_becomes_17 : decode cX11_becomes 17 = .ok (.iload_n 1, 1) := by decide +kernel
theorem dX11_becomes_18 : decode cX11_becomes 18 = .ok (.ifCond .le 16, 3) := by decide +kernel
theorem dX11_becomes_21 : decode cX11_becomes 21 = .ok (.aload_n 0, 1) := by decide +kernel
theorem dX11_becomes_22 : decode cX11_becomes 22 = .ok (.bipush 59, 2) := by decide +kernel
theorem dX11_becomes_24 : decode cX11_becomes 24 = .ok (.invokevirtual 198, 3) := by decide +kernel
theorem dX11_becomes_27 : decode cX11_becomes 27 = .ok (.ifCond .eq 7, 3) := by decide +kernel
theorem dX11_becomes_30 : decode cX11_becomes 30 = .ok (.iconst 1, 1) := by decide +kernel
theorem dX11_becomes_31 : decode cX11_becomes 31 = .ok (.goto 4, 3) := by decide +kernel
theorem dX11_becomes_34 : decode cX11_becomes 34 = .ok (.iconst 0, 1) := by decide +kernel
theorem dX11_becomes_35 : decode cX11_becomes 35 = .ok (.istore_n 2, 1) := by decide +kernel
theorem dX11_becomes_36 : decode cX11_becomes 36 = .ok (.iconst 0, 1) := by decide +kernel
theorem dX11_becomes_37 : decode cX11_becomes 37 = .ok (.istore_n 3, 1) := by decide +kernel
theorem dX11_becomes_38 : decode cX11_becomes 38 = .ok (.iload_n 3, 1) := by decide +kernel
theorem dX11_becomes_39 : decode cX11_becomes 39 = .ok (.iload_n 1, 1) := by decide +kernel
theorem dX11_becomes_40 : decode cX11_becomes 40 = .ok (.if_icmp .ge 57, 3) := by decide +kernel
theorem dX11_becomes_43 : decode cX11_becomes 43 = .ok (.iload_n 2, 1) := by decide +kernel
theorem dX11_becomes_44 : decode cX11_becomes 44 = .ok (.ifCond .eq 53, 3) := by decide +kernel
theorem dX11_becomes_47 : decode cX11_becomes 47 = .ok (.aload_n 0, 1) := by decide +kernel
theorem dX11_becomes_48 : decode cX11_becomes 48 = .ok (.invokevirtual 323, 3) := by decide +kernel
theorem dX11_becomes_51 : decode cX11_becomes 51 = .ok (.istore_n 2, 1) := by decide +kernel
theorem dX11_becomes_52 : decode cX11_becomes 52 = .ok (.aload_n 0, 1) := by decide +kernel
theorem dX11_becomes_53 : decode cX11_becomes 53 = .ok (.getfield 83, 3) := by decide +kernel
theorem dX11_becomes_56 : decode cX11_becomes 56 = .ok (.iload_n 3, 1) := by decide +kernel
theorem dX11_becomes_57 : decode cX11_becomes 57 = .ok (.iload_n 2, 1) := by decide +kernel
theorem dX11_becomes_58 : decode cX11_becomes 58 = .ok (.ifCond .eq 18, 3) := by decide +kernel
theorem dX11_becomes_61 : decode cX11_becomes 61 = .ok (.aload_n 0, 1) := by decide +kernel
theorem dX11_becomes_62 : decode cX11_becomes 62 = .ok (.getfield 37, 3) := by decide +kernel
theorem dX11_becomes_65 : decode cX11_becomes 65 = .ok (.aload_n 0, 1) := by decide +kernel
theorem dX11_becomes_66 : decode cX11_becomes 66 = .ok (.getfield 140, 3) := by decide +kernel
theorem dX11_becomes_69 : decode cX11_becomes 69 = .ok (.iaload, 1) := by decide +kernel
theorem dX11_becomes_70 : decode cX11_becomes 70 = .ok (.bipush 97, 2) := by decide +kernel
theorem dX11_becomes_72 : decode cX11_becomes 72 = .ok (.isub, 1) := by decide +kernel
theorem dX11_becomes_73 : decode cX11_becomes 73 = .ok (.goto 4, 3) := by decide +kernel
theorem dX11_becomes_76 : decode cX11_becomes 76 = .ok (.iconst (-1), 1) := by decide +kernel
theorem dX11_becomes_77 : decode cX11_becomes 77 = .ok (.iastore, 1) := by decide +kernel
theorem dX11_becomes_78 : decode cX11_becomes 78 = .ok (.aload_n 0, 1) := by decide +kernel
theorem dX11_becomes_79 : decode cX11_becomes 79 = .ok (.dup, 1) := by decide +kernel
theorem dX11_becomes_80 : decode cX11_becomes 80 = .ok (.getfield 140, 3) := by decide +kernel
theorem dX11_becomes_83 : decode cX11_becomes 83 = .ok (.iload_n 2, 1) := by decide +kernel
theorem dX11_becomes_84 : decode cX11_becomes 84 = .ok (.invokestatic 155, 3) := by decide +kernel
theorem dX11_becomes_87 : decode cX11_becomes 87 = .ok (.iadd, 1) := by decide +kernel
theorem dX11_becomes_88 : decode cX11_becomes 88 = .ok (.putfield 140, 3) := by decide +kernel
theorem dX11_becomes_91 : decode cX11_becomes 91 = .ok (.iinc 3 1, 3) := by decide +kernel
theorem dX11_becomes_94 : decode cX11_becomes 94 = .ok (.goto (-56), 3) := by decide +kernel
theorem dX11_becomes_97 : decode cX11_becomes 97 = .ok (.iload_n 2, 1) := by decide +kernel
theorem dX11_becomes_98 : decode cX11_becomes 98 = .ok (.ifCond .eq 14, 3) := by decide +kernel
theorem dX11_becomes_101 : decode cX11_becomes 101 = .ok (.aload_n 0, 1) := by decide +kernel
theorem dX11_becomes_102 : decode cX11_becomes 102 = .ok (.getfield 140, 3) := by decide +kernel
theorem dX11_becomes_105 : decode cX11_becomes 105 = .ok (.aload_n 0, 1) := by decide +kernel
theorem dX11_becomes_106 : decode cX11_becomes 106 = .ok (.getfield 152, 3) := by decide +kernel
theorem dX11_becomes_109 : decode cX11_becomes 109 = .ok (.if_icmp .ge 10, 3) := by decide +kernel
theorem dX11_becomes_112 : decode cX11_becomes 112 = .ok (.iconst (-1), 1) := by decide +kernel
theorem dX11_becomes_113 : decode cX11_becomes 113 = .ok (.aload_n 0, 1) := by decide +kernel
theorem dX11_becomes_114 : decode cX11_becomes 114 = .ok (.getfield 140, 3) := by decide +kernel
theorem dX11_becomes_117 : decode cX11_becomes 117 = .ok (.isub, 1) := by decide +kernel
theorem dX11_becomes_118 : decode cX11_becomes 118 = .ok (.ireturn, 1) := by decide +kernel
theorem dX11_becomes_119 : decode cX11_becomes 119 = .ok (.iconst 0, 1) := by decide +kernel
theorem dX11_becomes_120 : decode cX11_becomes 120 = .ok (.istore_n 3, 1) := by decide +kernel
theorem dX11_becomes_121 : decode cX11_becomes 121 = .ok (.aload_n 0, 1) := by decide +kernel
theorem dX11_becomes_122 : decode cX11_becomes 122 = .ok (.iconst 0, 1) := by decide +kernel
theorem dX11_becomes_123 : decode cX11_becomes 123 = .ok (.putfield 15, 3) := by decide +kernel
theorem dX11_becomes_126 : decode cX11_becomes 126 = .ok (.iconst 0, 1) := by decide +kernel
theorem dX11_becomes_127 : decode cX11_becomes 127 = .ok (.istore 4, 2) := by decide +kernel
theorem dX11_becomes_129 : decode cX11_becomes 129 = .ok (.iload 4, 2) := by decide +kernel
theorem dX11_becomes_131 : decode cX11_becomes 131 = .ok (.bipush 8, 2) := by decide +kernel
theorem dX11_becomes_133 : decode cX11_becomes 133 = .ok (.if_icmp .ge 142, 3) := by decide +kernel
theorem dX11_becomes_136 : decode cX11_becomes 136 = .ok (.iconst 0, 1) := by decide +kernel
theorem dX11_becomes_137 : decode cX11_becomes 137 = .ok (.istore 5, 2) := by decide +kernel
theorem dX11_becomes_139 : decode cX11_becomes 139 = .ok (.iload 5, 2) := by decide +kernel
theorem dX11_becomes_141 : decode cX11_becomes 141 = .ok (.aload_n 0, 1) := by decide +kernel
theorem dX11_becomes_142 : decode cX11_becomes 142 = .ok (.getfield 128, 3) := by decide +kernel
theorem dX11_becomes_145 : decode cX11_becomes 145 = .ok (.if_icmp .ge 124, 3) := by decide +kernel
theorem dX11_becomes_148 : decode cX11_becomes 148 = .ok (.aload_n 0, 1) := by decide +kernel
theorem dX11_becomes_149 : decode cX11_becomes 149 = .ok (.aload_n 0, 1) := by decide +kernel
theorem dX11_becomes_150 : decode cX11_becomes 150 = .ok (.getfield 31, 3) := by decide +kernel
theorem dX11_becomes_153 : decode cX11_becomes 153 = .ok (.iload 4, 2) := by decide +kernel
theorem dX11_becomes_155 : decode cX11_becomes 155 = .ok (.iload 5, 2) := by decide +kernel
theorem dX11_becomes_157 : decode cX11_becomes 157 = .ok (.invokevirtual 326, 3) := by decide +kernel
theorem dX11_becomes_160 : decode cX11_becomes 160 = .ok (.ifCond .eq 103, 3) := by decide +kernel
theorem dX11_becomes_163 : decode cX11_becomes 163 = .ok (.aload_n 0, 1) := by decide +kernel
theorem dX11_becomes_164 : decode cX11_becomes 164 = .ok (.aload_n 0, 1) := by decide +kernel
theorem dX11_becomes_165 : decode cX11_becomes 165 = .ok (.getfield 31, 3) := by decide +kernel
theorem dX11_becomes_168 : decode cX11_becomes 168 = .ok (.iload 4, 2) := by decide +kernel
theorem dX11_becomes_170 : decode cX11_becomes 170 = .ok (.iload 5, 2) := by decide +kernel
theorem dX11_becomes_172 : decode cX11_becomes 172 = .ok (.invokevirtual 336, 3) := by decide +kernel
theorem dX11_becomes_175 : decode cX11_becomes 175 = .ok (.iconst 1, 1) := by decide +kernel
theorem dX11_becomes_176 : decode cX11_becomes 176 = .ok (.istore 6, 2) := by decide +kernel
theorem dX11_becomes_178 : decode cX11_becomes 178 = .ok (.iconst 0, 1) := by decide +kernel
theorem dX11_becomes_179 : decode cX11_becomes 179 = .ok (.istore 7, 2) := by decide +kernel
theorem dX11_becomes_181 : decode cX11_becomes 181 = .ok (.iload 7, 2) := by decide +kernel
theorem dX11_becomes_183 : decode cX11_becomes 183 = .ok (.iload_n 1, 1) := by decide +kernel
theorem dX11_becomes_184 : decode cX11_becomes 184 = .ok (.if_icmp .ge 48, 3) := by decide +kernel
theorem dX11_becomes_187 : decode cX11_becomes 187 = .ok (.iload 6, 2) := by decide +kernel
theorem dX11_becomes_189 : decode cX11_becomes 189 = .ok (.ifCond .eq 34, 3) := by decide +kernel
theorem dX11_becomes_192 : decode cX11_becomes 192 = .ok (.aload_n 0, 1) := by decide +kernel
theorem dX11_becomes_193 : decode cX11_becomes 193 = .ok (.aload_n 0, 1) := by decide +kernel
theorem dX11_becomes_194 : decode cX11_becomes 194 = .ok (.getfield 31, 3) := by decide +kernel
theorem dX11_becomes_197 : decode cX11_becomes 197 = .ok (.aload_n 0, 1) := by decide +kernel
theorem dX11_becomes_198 : decode cX11_becomes 198 = .ok (.getfield 68, 3) := by decide +kernel
theorem dX11_becomes_201 : decode cX11_becomes 201 = .ok (.iload 7, 2) := by decide +kernel
theorem dX11_becomes_203 : decode cX11_becomes 203 = .ok (.iaload, 1) := by decide +kernel
theorem dX11_becomes_204 : decode cX11_becomes 204 = .ok (.iload 7, 2) := by decide +kernel
theorem dX11_becomes_206 : decode cX11_becomes 206 = .ok (.invokevirtual 344, 3) := by decide +kernel
theorem dX11_becomes_209 : decode cX11_becomes 209 = .ok (.aload_n 0, 1) := by decide +kernel
theorem dX11_becomes_210 : decode cX11_becomes 210 = .ok (.getfield 83, 3) := by decide +kernel
theorem dX11_becomes_213 : decode cX11_becomes 213 = .ok (.iload 7, 2) := by decide +kernel
theorem dX11_becomes_215 : decode cX11_becomes 215 = .ok (.iaload, 1) := by decide +kernel
theorem dX11_becomes_216 : decode cX11_becomes 216 = .ok (.if_icmp .ne 7, 3) := by decide +kernel
theorem dX11_becomes_219 : decode cX11_becomes 219 = .ok (.iconst 1, 1) := by decide +kernel
theorem dX11_becomes_220 : decode cX11_becomes 220 = .ok (.goto 4, 3) := by decide +kernel
theorem dX11_becomes_223 : decode cX11_becomes 223 = .ok (.iconst 0, 1) := by decide +kernel
theorem dX11_becomes_224 : decode cX11_becomes 224 = .ok (.istore 6, 2) := by decide +kernel
theorem dX11_becomes_226 : decode cX11_becomes 226 = .ok (.iinc 7 1, 3) := by decide +kernel
theorem dX11_becomes_229 : decode cX11_becomes 229 = .ok (.goto (-48), 3) := by decide +kernel
theorem dX11_becomes_232 : decode cX11_becomes 232 = .ok (.iload 6, 2) := by decide +kernel
theorem dX11_becomes_234 : decode cX11_becomes 234 = .ok (.ifCond .eq 21, 3) := by decide +kernel
theorem dX11_becomes_237 : decode cX11_becomes 237 = .ok (.iload_n 3, 1) := by decide +kernel
theorem dX11_becomes_238 : decode cX11_becomes 238 = .ok (.ifCond .ne 17, 3) := by decide +kernel
theorem dX11_becomes_241 : decode cX11_becomes 241 = .ok (.aload_n 0, 1) := by decide +kernel
theorem dX11_becomes_242 : decode cX11_becomes 242 = .ok (.iload 4, 2) := by decide +kernel
theorem dX11_becomes_244 : decode cX11_becomes 244 = .ok (.i2l, 1) := by decide +kernel
theorem dX11_becomes_245 : decode cX11_becomes 245 = .ok (.invokevirtual 340, 3) := by decide +kernel
theorem dX11_becomes_248 : decode cX11_becomes 248 = .ok (.aload_n 0, 1) := by decide +kernel
theorem dX11_becomes_249 : decode cX11_becomes 249 = .ok (.iload 5, 2) := by decide +kernel
theorem dX11_becomes_251 : decode cX11_becomes 251 = .ok (.i2l, 1) := by decide +kernel
theorem dX11_becomes_252 : decode cX11_becomes 252 = .ok (.invokevirtual 340, 3) := by decide +kernel
theorem dX11_becomes_255 : decode cX11_becomes 255 = .ok (.iload_n 3, 1) := by decide +kernel
theorem dX11_becomes_256 : decode cX11_becomes 256 = .ok (.iload 6, 2) := by decide +kernel
theorem dX11_becomes_258 : decode cX11_becomes 258 = .ok (.invokestatic 155, 3) := by decide +kernel
theorem dX11_becomes_261 : decode cX11_becomes 261 = .ok (.iadd, 1) := by decide +kernel
theorem dX11_becomes_262 : decode cX11_becomes 262 = .ok (.istore_n 3, 1) := by decide +kernel
theorem dX11_becomes_263 : decode cX11_becomes 263 = .ok (.iinc 5 1, 3) := by decide +kernel
theorem dX11_becomes_266 : decode cX11_becomes 266 = .ok (.goto (-127), 3) := by decide +kernel
theorem dX11_becomes_269 : decode cX11_becomes 269 = .ok (.iinc 4 1, 3) := by decide +kernel
theorem dX11_becomes_272 : decode cX11_becomes 272 = .ok (.goto (-143), 3) := by decide +kernel
theorem dX11_becomes_275 : decode cX11_becomes 275 = .ok (.iload_n 3, 1) := by decide +kernel
theorem dX11_becomes_276 : decode cX11_becomes 276 = .ok (.ireturn, 1) := by decide +kernel
theorem dX11_kept_0 : decode cX11_kept 0 = .ok (.iconst 0, 1) := by decide +kernel
theorem dX11_kept_1 : decode cX11_kept 1 = .ok (.istore_n 2, 1) := by decide +kernel
theorem dX11_kept_2 : decode cX11_kept 2 = .ok (.iconst 0, 1) := by decide +kernel
theorem dX11_kept_3 : decode cX11_kept 3 = .ok (.istore_n 3, 1) := by decide +kernel
theorem dX11_kept_4 : decode cX11_kept 4 = .ok (.iload_n 3, 1) := by decide +kernel
theorem dX11_kept_5 : decode cX11_kept 5 = .ok (.bipush 8, 2) := by decide +kernel
theorem dX11_kept_7 : decode cX11_kept 7 = .ok (.if_icmp .ge 34, 3) := by decide +kernel
theorem dX11_kept_10 : decode cX11_kept 10 = .ok (.iload_n 2, 1) := by decide +kernel
theorem dX11_kept_11 : decode cX11_kept 11 = .ok (.aload_n 0, 1) := by decide +kernel
theorem dX11_kept_12 : decode cX11_kept 12 = .ok (.aload_n 0, 1) := by decide +kernel
theorem dX11_kept_13 : decode cX11_kept 13 = .ok (.getfield 31, 3) := by decide +kernel
theorem dX11_kept_16 : decode cX11_kept 16 = .ok (.iload_n 3, 1) := by decide +kernel
theorem dX11_kept_17 : decode cX11_kept 17 = .ok (.iload_n 1, 1) := by decide +kernel
theorem dX11_kept_18 : decode cX11_kept 18 = .ok (.invokevirtual 344, 3) := by decide +kernel
theorem dX11_kept_21 : decode cX11_kept 21 = .ok (.iload_n 3, 1) := by decide +kernel
theorem dX11_kept_22 : decode cX11_kept 22 = .ok (.if_icmp .ne 7, 3) := by decide +kernel
theorem dX11_kept_25 : decode cX11_kept 25 = .ok (.iconst 1, 1) := by decide +kernel
theorem dX11_kept_26 : decode cX11_kept 26 = .ok (.goto 4, 3) := by decide +kernel
theorem dX11_kept_29 : decode cX11_kept 29 = .ok (.iconst 0, 1) := by decide +kernel
theorem dX11_kept_30 : decode cX11_kept 30 = .ok (.invokestatic 155, 3) := by decide +kernel
theorem dX11_kept_33 : decode cX11_kept 33 = .ok (.iadd, 1) := by decide +kernel
theorem dX11_kept_34 : decode cX11_kept 34 = .ok (.istore_n 2, 1) := by decide +kernel
theorem dX11_kept_35 : decode cX11_kept 35 = .ok (.iinc 3 1, 3) := by decide +kernel
theorem dX11_kept_38 : decode cX11_kept 38 = .ok (.goto (-34), 3) := by decide +kernel
theorem dX11_kept_41 : decode cX11_kept 41 = .ok (.iload_n 2, 1) := by decide +kernel
theorem dX11_kept_42 : decode cX11_kept 42 = .ok (.ireturn, 1) := by decide +kernel
theorem dX11_keeps_0 : decode cX11_keeps 0 = .ok (.aload_n 0, 1) := by decide +kernel
theorem dX11_keeps_1 : decode cX11_keeps 1 = .ok (.iconst 0, 1) := by decide +kernel
theorem dX11_keeps_2 : decode cX11_keeps 2 = .ok (.putfield 3, 3) := by decide +kernel
theorem dX11_keeps_5 : decode cX11_keeps 5 = .ok (.aload_n 0, 1) := by decide +kernel
theorem dX11_keeps_6 : decode cX11_keeps 6 = .ok (.aload_n 0, 1) := by decide +kernel
theorem dX11_keeps_7 : decode cX11_keeps 7 = .ok (.getfield 31, 3) := by decide +kernel
theorem dX11_keeps_10 : decode cX11_keeps 10 = .ok (.iload_n 1, 1) := by decide +kernel
theorem dX11_keeps_11 : decode cX11_keeps 11 = .ok (.iload_n 2, 1) := by decide +kernel
theorem dX11_keeps_12 : decode cX11_keeps 12 = .ok (.invokevirtual 326, 3) := by decide +kernel
theorem dX11_keeps_15 : decode cX11_keeps 15 = .ok (.ifCond .ne 5, 3) := by decide +kernel
theorem dX11_keeps_18 : decode cX11_keeps 18 = .ok (.iconst (-1), 1) := by decide +kernel
theorem dX11_keeps_19 : decode cX11_keeps 19 = .ok (.ireturn, 1) := by decide +kernel
theorem dX11_keeps_20 : decode cX11_keeps 20 = .ok (.aload_n 0, 1) := by decide +kernel
theorem dX11_keeps_21 : decode cX11_keeps 21 = .ok (.aload_n 0, 1) := by decide +kernel
theorem dX11_keeps_22 : decode cX11_keeps 22 = .ok (.getfield 31, 3) := by decide +kernel
theorem dX11_keeps_25 : decode cX11_keeps 25 = .ok (.iload_n 1, 1) := by decide +kernel
theorem dX11_keeps_26 : decode cX11_keeps 26 = .ok (.iload_n 2, 1) := by decide +kernel
theorem dX11_keeps_27 : decode cX11_keeps 27 = .ok (.invokevirtual 336, 3) := by decide +kernel
theorem dX11_keeps_30 : decode cX11_keeps 30 = .ok (.iconst 0, 1) := by decide +kernel
theorem dX11_keeps_31 : decode cX11_keeps 31 = .ok (.istore_n 3, 1) := by decide +kernel
theorem dX11_keeps_32 : decode cX11_keeps 32 = .ok (.aload_n 0, 1) := by decide +kernel
theorem dX11_keeps_33 : decode cX11_keeps 33 = .ok (.iconst 0, 1) := by decide +kernel
theorem dX11_keeps_34 : decode cX11_keeps 34 = .ok (.putfield 15, 3) := by decide +kernel
theorem dX11_keeps_37 : decode cX11_keeps 37 = .ok (.iconst 0, 1) := by decide +kernel
theorem dX11_keeps_38 : decode cX11_keeps 38 = .ok (.istore 4, 2) := by decide +kernel
theorem dX11_keeps_40 : decode cX11_keeps 40 = .ok (.iload 4, 2) := by decide +kernel
theorem dX11_keeps_42 : decode cX11_keeps 42 = .ok (.bipush 6, 2) := by decide +kernel
theorem dX11_keeps_44 : decode cX11_keeps 44 = .ok (.if_icmp .ge 29, 3) := by decide +kernel
theorem dX11_keeps_47 : decode cX11_keeps 47 = .ok (.iload_n 3, 1) := by decide +kernel
theorem dX11_keeps_48 : decode cX11_keeps 48 = .ok (.aload_n 0, 1) := by decide +kernel
theorem dX11_keeps_49 : decode cX11_keeps 49 = .ok (.iload 4, 2) := by decide +kernel
theorem dX11_keeps_51 : decode cX11_keeps 51 = .ok (.invokevirtual 387, 3) := by decide +kernel
theorem dX11_keeps_54 : decode cX11_keeps 54 = .ok (.iadd, 1) := by decide +kernel
theorem dX11_keeps_55 : decode cX11_keeps 55 = .ok (.istore_n 3, 1) := by decide +kernel
theorem dX11_keeps_56 : decode cX11_keeps 56 = .ok (.aload_n 0, 1) := by decide +kernel
theorem dX11_keeps_57 : decode cX11_keeps 57 = .ok (.aload_n 0, 1) := by decide +kernel
theorem dX11_keeps_58 : decode cX11_keeps 58 = .ok (.iload 4, 2) := by decide +kernel
theorem dX11_keeps_60 : decode cX11_keeps 60 = .ok (.invokevirtual 387, 3) := by decide +kernel
theorem dX11_keeps_63 : decode cX11_keeps 63 = .ok (.i2l, 1) := by decide +kernel
theorem dX11_keeps_64 : decode cX11_keeps 64 = .ok (.invokevirtual 340, 3) := by decide +kernel
theorem dX11_keeps_67 : decode cX11_keeps 67 = .ok (.iinc 4 1, 3) := by decide +kernel
theorem dX11_keeps_70 : decode cX11_keeps 70 = .ok (.goto (-30), 3) := by decide +kernel
theorem dX11_keeps_73 : decode cX11_keeps 73 = .ok (.iload_n 3, 1) := by decide +kernel
theorem dX11_keeps_74 : decode cX11_keeps 74 = .ok (.ireturn, 1) := by decide +kernel
theorem dX11_apart_0 : decode cX11_apart 0 = .ok (.aload_n 0, 1) := by decide +kernel
theorem dX11_apart_1 : decode cX11_apart 1 = .ok (.iconst 0, 1) := by decide +kernel
theorem dX11_apart_2 : decode cX11_apart 2 = .ok (.putfield 3, 3) := by decide +kernel
theorem dX11_apart_5 : decode cX11_apart 5 = .ok (.aload_n 0, 1) := by decide +kernel
theorem dX11_apart_6 : decode cX11_apart 6 = .ok (.aload_n 0, 1) := by decide +kernel
theorem dX11_apart_7 : decode cX11_apart 7 = .ok (.getfield 31, 3) := by decide +kernel
theorem dX11_apart_10 : decode cX11_apart 10 = .ok (.iload_n 1, 1) := by decide +kernel
theorem dX11_apart_11 : decode cX11_apart 11 = .ok (.iload_n 2, 1) := by decide +kernel
theorem dX11_apart_12 : decode cX11_apart 12 = .ok (.invokevirtual 326, 3) := by decide +kernel
theorem dX11_apart_15 : decode cX11_apart 15 = .ok (.ifCond .eq 15, 3) := by decide +kernel
theorem dX11_apart_18 : decode cX11_apart 18 = .ok (.iload_n 3, 1) := by decide +kernel
theorem dX11_apart_19 : decode cX11_apart 19 = .ok (.i2l, 1) := by decide +kernel
theorem dX11_apart_20 : decode cX11_apart 20 = .ok (.lconst 1, 1) := by decide +kernel
theorem dX11_apart_21 : decode cX11_apart 21 = .ok (.ldc2_w 390, 3) := by decide +kernel
theorem dX11_apart_24 : decode cX11_apart 24 = .ok (.invokestatic 131, 3) := by decide +kernel
theorem dX11_apart_27 : decode cX11_apart 27 = .ok (.ifCond .ne 5, 3) := by decide +kernel
theorem dX11_apart_30 : decode cX11_apart 30 = .ok (.iconst (-1), 1) := by decide +kernel
theorem dX11_apart_31 : decode cX11_apart 31 = .ok (.ireturn, 1) := by decide +kernel
theorem dX11_apart_32 : decode cX11_apart 32 = .ok (.aload_n 0, 1) := by decide +kernel
theorem dX11_apart_33 : decode cX11_apart 33 = .ok (.aload_n 0, 1) := by decide +kernel
theorem dX11_apart_34 : decode cX11_apart 34 = .ok (.getfield 31, 3) := by decide +kernel
theorem dX11_apart_37 : decode cX11_apart 37 = .ok (.iload_n 1, 1) := by decide +kernel
theorem dX11_apart_38 : decode cX11_apart 38 = .ok (.iload_n 2, 1) := by decide +kernel
theorem dX11_apart_39 : decode cX11_apart 39 = .ok (.invokevirtual 336, 3) := by decide +kernel
theorem dX11_apart_42 : decode cX11_apart 42 = .ok (.iconst 1, 1) := by decide +kernel
theorem dX11_apart_43 : decode cX11_apart 43 = .ok (.istore 4, 2) := by decide +kernel
theorem dX11_apart_45 : decode cX11_apart 45 = .ok (.iconst 1, 1) := by decide +kernel
theorem dX11_apart_46 : decode cX11_apart 46 = .ok (.istore 5, 2) := by decide +kernel
theorem dX11_apart_48 : decode cX11_apart 48 = .ok (.iconst 0, 1) := by decide +kernel
theorem dX11_apart_49 : decode cX11_apart 49 = .ok (.istore 6, 2) := by decide +kernel
theorem dX11_apart_51 : decode cX11_apart 51 = .ok (.iload 6, 2) := by decide +kernel
theorem dX11_apart_53 : decode cX11_apart 53 = .ok (.iload_n 3, 1) := by decide +kernel
theorem dX11_apart_54 : decode cX11_apart 54 = .ok (.if_icmp .ge 131, 3) := by decide +kernel
theorem dX11_apart_57 : decode cX11_apart 57 = .ok (.iconst 0, 1) := by decide +kernel
theorem dX11_apart_58 : decode cX11_apart 58 = .ok (.istore 7, 2) := by decide +kernel
theorem dX11_apart_60 : decode cX11_apart 60 = .ok (.iconst 0, 1) := by decide +kernel
theorem dX11_apart_61 : decode cX11_apart 61 = .ok (.istore 8, 2) := by decide +kernel
theorem dX11_apart_63 : decode cX11_apart 63 = .ok (.iconst 0, 1) := by decide +kernel
theorem dX11_apart_64 : decode cX11_apart 64 = .ok (.istore 9, 2) := by decide +kernel
theorem dX11_apart_66 : decode cX11_apart 66 = .ok (.iload 9, 2) := by decide +kernel
theorem dX11_apart_68 : decode cX11_apart 68 = .ok (.bipush 8, 2) := by decide +kernel
theorem dX11_apart_70 : decode cX11_apart 70 = .ok (.if_icmp .ge 17, 3) := by decide +kernel
theorem dX11_apart_73 : decode cX11_apart 73 = .ok (.aload_n 0, 1) := by decide +kernel
theorem dX11_apart_74 : decode cX11_apart 74 = .ok (.getfield 86, 3) := by decide +kernel
theorem dX11_apart_77 : decode cX11_apart 77 = .ok (.iload 9, 2) := by decide +kernel
theorem dX11_apart_79 : decode cX11_apart 79 = .ok (.iconst 0, 1) := by decide +kernel
theorem dX11_apart_80 : decode cX11_apart 80 = .ok (.iastore, 1) := by decide +kernel
theorem dX11_apart_81 : decode cX11_apart 81 = .ok (.iinc 9 1, 3) := by decide +kernel
theorem dX11_apart_84 : decode cX11_apart 84 = .ok (.goto (-18), 3) := by decide +kernel
theorem dX11_apart_87 : decode cX11_apart 87 = .ok (.iconst 0, 1) := by decide +kernel
theorem dX11_apart_88 : decode cX11_apart 88 = .ok (.istore 9, 2) := by decide +kernel
theorem dX11_apart_90 : decode cX11_apart 90 = .ok (.iload 9, 2) := by decide +kernel
theorem dX11_apart_92 : decode cX11_apart 92 = .ok (.bipush 8, 2) := by decide +kernel
theorem dX11_apart_94 : decode cX11_apart 94 = .ok (.if_icmp .ge 71, 3) := by decide +kernel
theorem dX11_apart_97 : decode cX11_apart 97 = .ok (.aload_n 0, 1) := by decide +kernel
theorem dX11_apart_98 : decode cX11_apart 98 = .ok (.aload_n 0, 1) := by decide +kernel
theorem dX11_apart_99 : decode cX11_apart 99 = .ok (.getfield 31, 3) := by decide +kernel
theorem dX11_apart_102 : decode cX11_apart 102 = .ok (.iload 9, 2) := by decide +kernel
theorem dX11_apart_104 : decode cX11_apart 104 = .ok (.iload 6, 2) := by decide +kernel
theorem dX11_apart_106 : decode cX11_apart 106 = .ok (.invokevirtual 344, 3) := by decide +kernel
theorem dX11_apart_109 : decode cX11_apart 109 = .ok (.istore 10, 2) := by decide +kernel
theorem dX11_apart_111 : decode cX11_apart 111 = .ok (.iload 7, 2) := by decide +kernel
theorem dX11_apart_113 : decode cX11_apart 113 = .ok (.aload_n 0, 1) := by decide +kernel
theorem dX11_apart_114 : decode cX11_apart 114 = .ok (.getfield 86, 3) := by decide +kernel
theorem dX11_apart_117 : decode cX11_apart 117 = .ok (.iload 10, 2) := by decide +kernel
theorem dX11_apart_119 : decode cX11_apart 119 = .ok (.iaload, 1) := by decide +kernel
theorem dX11_apart_120 : decode cX11_apart 120 = .ok (.ifCond .ne 7, 3) := by decide +kernel
theorem dX11_apart_123 : decode cX11_apart 123 = .ok (.iconst 1, 1) := by decide +kernel
theorem dX11_apart_124 : decode cX11_apart 124 = .ok (.goto 4, 3) := by decide +kernel
theorem dX11_apart_127 : decode cX11_apart 127 = .ok (.iconst 0, 1) := by decide +kernel
theorem dX11_apart_128 : decode cX11_apart 128 = .ok (.invokestatic 155, 3) := by decide +kernel
theorem dX11_apart_131 : decode cX11_apart 131 = .ok (.iadd, 1) := by decide +kernel
theorem dX11_apart_132 : decode cX11_apart 132 = .ok (.istore 7, 2) := by decide +kernel
theorem dX11_apart_134 : decode cX11_apart 134 = .ok (.aload_n 0, 1) := by decide +kernel
theorem dX11_apart_135 : decode cX11_apart 135 = .ok (.getfield 86, 3) := by decide +kernel
theorem dX11_apart_138 : decode cX11_apart 138 = .ok (.iload 10, 2) := by decide +kernel
theorem dX11_apart_140 : decode cX11_apart 140 = .ok (.dup2, 1) := by decide +kernel
theorem dX11_apart_141 : decode cX11_apart 141 = .ok (.iaload, 1) := by decide +kernel
theorem dX11_apart_142 : decode cX11_apart 142 = .ok (.iconst 1, 1) := by decide +kernel
theorem dX11_apart_143 : decode cX11_apart 143 = .ok (.iadd, 1) := by decide +kernel
theorem dX11_apart_144 : decode cX11_apart 144 = .ok (.iastore, 1) := by decide +kernel
theorem dX11_apart_145 : decode cX11_apart 145 = .ok (.iload 8, 2) := by decide +kernel
theorem dX11_apart_147 : decode cX11_apart 147 = .ok (.aload_n 0, 1) := by decide +kernel
theorem dX11_apart_148 : decode cX11_apart 148 = .ok (.getfield 86, 3) := by decide +kernel
theorem dX11_apart_151 : decode cX11_apart 151 = .ok (.iload 10, 2) := by decide +kernel
theorem dX11_apart_153 : decode cX11_apart 153 = .ok (.iaload, 1) := by decide +kernel
theorem dX11_apart_154 : decode cX11_apart 154 = .ok (.invokestatic 297, 3) := by decide +kernel
theorem dX11_apart_157 : decode cX11_apart 157 = .ok (.istore 8, 2) := by decide +kernel
theorem dX11_apart_159 : decode cX11_apart 159 = .ok (.iinc 9 1, 3) := by decide +kernel
theorem dX11_apart_162 : decode cX11_apart 162 = .ok (.goto (-72), 3) := by decide +kernel
theorem dX11_apart_165 : decode cX11_apart 165 = .ok (.iload 4, 2) := by decide +kernel
theorem dX11_apart_167 : decode cX11_apart 167 = .ok (.iload 7, 2) := by decide +kernel
theorem dX11_apart_169 : decode cX11_apart 169 = .ok (.imul, 1) := by decide +kernel
theorem dX11_apart_170 : decode cX11_apart 170 = .ok (.istore 4, 2) := by decide +kernel
theorem dX11_apart_172 : decode cX11_apart 172 = .ok (.iload 5, 2) := by decide +kernel
theorem dX11_apart_174 : decode cX11_apart 174 = .ok (.iload 8, 2) := by decide +kernel
theorem dX11_apart_176 : decode cX11_apart 176 = .ok (.imul, 1) := by decide +kernel
theorem dX11_apart_177 : decode cX11_apart 177 = .ok (.istore 5, 2) := by decide +kernel
theorem dX11_apart_179 : decode cX11_apart 179 = .ok (.iinc 6 1, 3) := by decide +kernel
theorem dX11_apart_182 : decode cX11_apart 182 = .ok (.goto (-131), 3) := by decide +kernel
theorem dX11_apart_185 : decode cX11_apart 185 = .ok (.aload_n 0, 1) := by decide +kernel
theorem dX11_apart_186 : decode cX11_apart 186 = .ok (.iconst 0, 1) := by decide +kernel
theorem dX11_apart_187 : decode cX11_apart 187 = .ok (.putfield 15, 3) := by decide +kernel
theorem dX11_apart_190 : decode cX11_apart 190 = .ok (.aload_n 0, 1) := by decide +kernel
theorem dX11_apart_191 : decode cX11_apart 191 = .ok (.iload 5, 2) := by decide +kernel
theorem dX11_apart_193 : decode cX11_apart 193 = .ok (.i2l, 1) := by decide +kernel
theorem dX11_apart_194 : decode cX11_apart 194 = .ok (.invokevirtual 340, 3) := by decide +kernel
theorem dX11_apart_197 : decode cX11_apart 197 = .ok (.iload 4, 2) := by decide +kernel
theorem dX11_apart_199 : decode cX11_apart 199 = .ok (.ireturn, 1) := by decide +kernel
theorem dX11_longest_0 : decode cX11_longest 0 = .ok (.aload_n 0, 1) := by decide +kernel
theorem dX11_longest_1 : decode cX11_longest 1 = .ok (.iconst 0, 1) := by decide +kernel
theorem dX11_longest_2 : decode cX11_longest 2 = .ok (.putfield 3, 3) := by decide +kernel
theorem dX11_longest_5 : decode cX11_longest 5 = .ok (.iload_n 1, 1) := by decide +kernel
theorem dX11_longest_6 : decode cX11_longest 6 = .ok (.invokestatic 256, 3) := by decide +kernel
theorem dX11_longest_9 : decode cX11_longest 9 = .ok (.ifCond .ne 5, 3) := by decide +kernel
theorem dX11_longest_12 : decode cX11_longest 12 = .ok (.iconst (-1), 1) := by decide +kernel
theorem dX11_longest_13 : decode cX11_longest 13 = .ok (.ireturn, 1) := by decide +kernel
theorem dX11_longest_14 : decode cX11_longest 14 = .ok (.bipush (-2), 2) := by decide +kernel
theorem dX11_longest_16 : decode cX11_longest 16 = .ok (.istore_n 2, 1) := by decide +kernel
theorem dX11_longest_17 : decode cX11_longest 17 = .ok (.iconst 0, 1) := by decide +kernel
theorem dX11_longest_18 : decode cX11_longest 18 = .ok (.istore_n 3, 1) := by decide +kernel
theorem dX11_longest_19 : decode cX11_longest 19 = .ok (.iconst 0, 1) := by decide +kernel
theorem dX11_longest_20 : decode cX11_longest 20 = .ok (.istore 4, 2) := by decide +kernel
theorem dX11_longest_22 : decode cX11_longest 22 = .ok (.iload 4, 2) := by decide +kernel
theorem dX11_longest_24 : decode cX11_longest 24 = .ok (.aload_n 0, 1) := by decide +kernel
theorem dX11_longest_25 : decode cX11_longest 25 = .ok (.getfield 128, 3) := by decide +kernel
theorem dX11_longest_28 : decode cX11_longest 28 = .ok (.if_icmp .ge 73, 3) := by decide +kernel
theorem dX11_longest_31 : decode cX11_longest 31 = .ok (.aload_n 0, 1) := by decide +kernel
theorem dX11_longest_32 : decode cX11_longest 32 = .ok (.aload_n 0, 1) := by decide +kernel
theorem dX11_longest_33 : decode cX11_longest 33 = .ok (.getfield 31, 3) := by decide +kernel
theorem dX11_longest_36 : decode cX11_longest 36 = .ok (.iload_n 1, 1) := by decide +kernel
theorem dX11_longest_37 : decode cX11_longest 37 = .ok (.iload 4, 2) := by decide +kernel
theorem dX11_longest_39 : decode cX11_longest 39 = .ok (.invokevirtual 326, 3) := by decide +kernel
theorem dX11_longest_42 : decode cX11_longest 42 = .ok (.ifCond .eq 53, 3) := by decide +kernel
theorem dX11_longest_45 : decode cX11_longest 45 = .ok (.aload_n 0, 1) := by decide +kernel
theorem dX11_longest_46 : decode cX11_longest 46 = .ok (.aload_n 0, 1) := by decide +kernel
theorem dX11_longest_47 : decode cX11_longest 47 = .ok (.getfield 31, 3) := by decide +kernel
theorem dX11_longest_50 : decode cX11_longest 50 = .ok (.iload_n 1, 1) := by decide +kernel
theorem dX11_longest_51 : decode cX11_longest 51 = .ok (.iload 4, 2) := by decide +kernel
theorem dX11_longest_53 : decode cX11_longest 53 = .ok (.invokevirtual 336, 3) := by decide +kernel
theorem dX11_longest_56 : decode cX11_longest 56 = .ok (.aload_n 0, 1) := by decide +kernel
theorem dX11_longest_57 : decode cX11_longest 57 = .ok (.getfield 275, 3) := by decide +kernel
theorem dX11_longest_60 : decode cX11_longest 60 = .ok (.iload_n 3, 1) := by decide +kernel
theorem dX11_longest_61 : decode cX11_longest 61 = .ok (.if_icmp .le 34, 3) := by decide +kernel
theorem dX11_longest_64 : decode cX11_longest 64 = .ok (.iload 4, 2) := by decide +kernel
theorem dX11_longest_66 : decode cX11_longest 66 = .ok (.istore_n 2, 1) := by decide +kernel
theorem dX11_longest_67 : decode cX11_longest 67 = .ok (.aload_n 0, 1) := by decide +kernel
theorem dX11_longest_68 : decode cX11_longest 68 = .ok (.getfield 275, 3) := by decide +kernel
theorem dX11_longest_71 : decode cX11_longest 71 = .ok (.istore_n 3, 1) := by decide +kernel
theorem dX11_longest_72 : decode cX11_longest 72 = .ok (.aload_n 0, 1) := by decide +kernel
theorem dX11_longest_73 : decode cX11_longest 73 = .ok (.iconst 0, 1) := by decide +kernel
theorem dX11_longest_74 : decode cX11_longest 74 = .ok (.putfield 15, 3) := by decide +kernel
theorem dX11_longest_77 : decode cX11_longest 77 = .ok (.aload_n 0, 1) := by decide +kernel
theorem dX11_longest_78 : decode cX11_longest 78 = .ok (.aload_n 0, 1) := by decide +kernel
theorem dX11_longest_79 : decode cX11_longest 79 = .ok (.getfield 275, 3) := by decide +kernel
theorem dX11_longest_82 : decode cX11_longest 82 = .ok (.i2l, 1) := by decide +kernel
theorem dX11_longest_83 : decode cX11_longest 83 = .ok (.invokevirtual 340, 3) := by decide +kernel
theorem dX11_longest_86 : decode cX11_longest 86 = .ok (.aload_n 0, 1) := by decide +kernel
theorem dX11_longest_87 : decode cX11_longest 87 = .ok (.aload_n 0, 1) := by decide +kernel
theorem dX11_longest_88 : decode cX11_longest 88 = .ok (.getfield 272, 3) := by decide +kernel
theorem dX11_longest_91 : decode cX11_longest 91 = .ok (.i2l, 1) := by decide +kernel
theorem dX11_longest_92 : decode cX11_longest 92 = .ok (.invokevirtual 340, 3) := by decide +kernel
theorem dX11_longest_95 : decode cX11_longest 95 = .ok (.iinc 4 1, 3) := by decide +kernel
theorem dX11_longest_98 : decode cX11_longest 98 = .ok (.goto (-76), 3) := by decide +kernel
theorem dX11_longest_101 : decode cX11_longest 101 = .ok (.iload_n 2, 1) := by decide +kernel
theorem dX11_longest_102 : decode cX11_longest 102 = .ok (.ireturn, 1) := by decide +kernel
theorem dX11_rounds_0 : decode cX11_rounds 0 = .ok (.aload_n 0, 1) := by decide +kernel
theorem dX11_rounds_1 : decode cX11_rounds 1 = .ok (.iconst 0, 1) := by decide +kernel
theorem dX11_rounds_2 : decode cX11_rounds 2 = .ok (.putfield 3, 3) := by decide +kernel
theorem dX11_rounds_5 : decode cX11_rounds 5 = .ok (.iconst 0, 1) := by decide +kernel
theorem dX11_rounds_6 : decode cX11_rounds 6 = .ok (.istore_n 1, 1) := by decide +kernel
theorem dX11_rounds_7 : decode cX11_rounds 7 = .ok (.iconst 0, 1) := by decide +kernel
theorem dX11_rounds_8 : decode cX11_rounds 8 = .ok (.istore_n 2, 1) := by decide +kernel
theorem dX11_rounds_9 : decode cX11_rounds 9 = .ok (.iconst 0, 1) := by decide +kernel
theorem dX11_rounds_10 : decode cX11_rounds 10 = .ok (.istore_n 3, 1) := by decide +kernel
theorem dX11_rounds_11 : decode cX11_rounds 11 = .ok (.iconst 0, 1) := by decide +kernel
theorem dX11_rounds_12 : decode cX11_rounds 12 = .ok (.istore 4, 2) := by decide +kernel
theorem dX11_rounds_14 : decode cX11_rounds 14 = .ok (.iload 4, 2) := by decide +kernel
theorem dX11_rounds_16 : decode cX11_rounds 16 = .ok (.bipush 8, 2) := by decide +kernel
theorem dX11_rounds_18 : decode cX11_rounds 18 = .ok (.if_icmp .ge 97, 3) := by decide +kernel
theorem dX11_rounds_21 : decode cX11_rounds 21 = .ok (.iconst 0, 1) := by decide +kernel
theorem dX11_rounds_22 : decode cX11_rounds 22 = .ok (.istore 5, 2) := by decide +kernel
theorem dX11_rounds_24 : decode cX11_rounds 24 = .ok (.iload 5, 2) := by decide +kernel
theorem dX11_rounds_26 : decode cX11_rounds 26 = .ok (.aload_n 0, 1) := by decide +kernel
theorem dX11_rounds_27 : decode cX11_rounds 27 = .ok (.getfield 128, 3) := by decide +kernel
theorem dX11_rounds_30 : decode cX11_rounds 30 = .ok (.if_icmp .ge 79, 3) := by decide +kernel
theorem dX11_rounds_33 : decode cX11_rounds 33 = .ok (.aload_n 0, 1) := by decide +kernel
theorem dX11_rounds_34 : decode cX11_rounds 34 = .ok (.aload_n 0, 1) := by decide +kernel
theorem dX11_rounds_35 : decode cX11_rounds 35 = .ok (.getfield 31, 3) := by decide +kernel
theorem dX11_rounds_38 : decode cX11_rounds 38 = .ok (.iload 4, 2) := by decide +kernel
theorem dX11_rounds_40 : decode cX11_rounds 40 = .ok (.iload 5, 2) := by decide +kernel
theorem dX11_rounds_42 : decode cX11_rounds 42 = .ok (.invokevirtual 326, 3) := by decide +kernel
theorem dX11_rounds_45 : decode cX11_rounds 45 = .ok (.ifCond .eq 58, 3) := by decide +kernel
theorem dX11_rounds_48 : decode cX11_rounds 48 = .ok (.aload_n 0, 1) := by decide +kernel
theorem dX11_rounds_49 : decode cX11_rounds 49 = .ok (.aload_n 0, 1) := by decide +kernel
theorem dX11_rounds_50 : decode cX11_rounds 50 = .ok (.getfield 31, 3) := by decide +kernel
theorem dX11_rounds_53 : decode cX11_rounds 53 = .ok (.iload 4, 2) := by decide +kernel
theorem dX11_rounds_55 : decode cX11_rounds 55 = .ok (.iload 5, 2) := by decide +kernel
theorem dX11_rounds_57 : decode cX11_rounds 57 = .ok (.invokevirtual 336, 3) := by decide +kernel
theorem dX11_rounds_60 : decode cX11_rounds 60 = .ok (.iinc 2 1, 3) := by decide +kernel
theorem dX11_rounds_63 : decode cX11_rounds 63 = .ok (.iload_n 3, 1) := by decide +kernel
theorem dX11_rounds_64 : decode cX11_rounds 64 = .ok (.aload_n 0, 1) := by decide +kernel
theorem dX11_rounds_65 : decode cX11_rounds 65 = .ok (.getfield 272, 3) := by decide +kernel
theorem dX11_rounds_68 : decode cX11_rounds 68 = .ok (.iload 4, 2) := by decide +kernel
theorem dX11_rounds_70 : decode cX11_rounds 70 = .ok (.if_icmp .ne 7, 3) := by decide +kernel
theorem dX11_rounds_73 : decode cX11_rounds 73 = .ok (.iconst 1, 1) := by decide +kernel
theorem dX11_rounds_74 : decode cX11_rounds 74 = .ok (.goto 4, 3) := by decide +kernel
theorem dX11_rounds_77 : decode cX11_rounds 77 = .ok (.iconst 0, 1) := by decide +kernel
theorem dX11_rounds_78 : decode cX11_rounds 78 = .ok (.invokestatic 155, 3) := by decide +kernel
theorem dX11_rounds_81 : decode cX11_rounds 81 = .ok (.iadd, 1) := by decide +kernel
theorem dX11_rounds_82 : decode cX11_rounds 82 = .ok (.istore_n 3, 1) := by decide +kernel
theorem dX11_rounds_83 : decode cX11_rounds 83 = .ok (.iload_n 1, 1) := by decide +kernel
theorem dX11_rounds_84 : decode cX11_rounds 84 = .ok (.aload_n 0, 1) := by decide +kernel
theorem dX11_rounds_85 : decode cX11_rounds 85 = .ok (.getfield 272, 3) := by decide +kernel
theorem dX11_rounds_88 : decode cX11_rounds 88 = .ok (.iload 4, 2) := by decide +kernel
theorem dX11_rounds_90 : decode cX11_rounds 90 = .ok (.if_icmp .ne 10, 3) := by decide +kernel
theorem dX11_rounds_93 : decode cX11_rounds 93 = .ok (.iconst 1, 1) := by decide +kernel
theorem dX11_rounds_94 : decode cX11_rounds 94 = .ok (.iload 4, 2) := by decide +kernel
theorem dX11_rounds_96 : decode cX11_rounds 96 = .ok (.ishl, 1) := by decide +kernel
theorem dX11_rounds_97 : decode cX11_rounds 97 = .ok (.goto 4, 3) := by decide +kernel
theorem dX11_rounds_100 : decode cX11_rounds 100 = .ok (.iconst 0, 1) := by decide +kernel
theorem dX11_rounds_101 : decode cX11_rounds 101 = .ok (.ior, 1) := by decide +kernel
theorem dX11_rounds_102 : decode cX11_rounds 102 = .ok (.istore_n 1, 1) := by decide +kernel
theorem dX11_rounds_103 : decode cX11_rounds 103 = .ok (.iinc 5 1, 3) := by decide +kernel
theorem dX11_rounds_106 : decode cX11_rounds 106 = .ok (.goto (-82), 3) := by decide +kernel
theorem dX11_rounds_109 : decode cX11_rounds 109 = .ok (.iinc 4 1, 3) := by decide +kernel
theorem dX11_rounds_112 : decode cX11_rounds 112 = .ok (.goto (-98), 3) := by decide +kernel
theorem dX11_rounds_115 : decode cX11_rounds 115 = .ok (.aload_n 0, 1) := by decide +kernel
theorem dX11_rounds_116 : decode cX11_rounds 116 = .ok (.iconst 0, 1) := by decide +kernel
theorem dX11_rounds_117 : decode cX11_rounds 117 = .ok (.putfield 15, 3) := by decide +kernel
theorem dX11_rounds_120 : decode cX11_rounds 120 = .ok (.aload_n 0, 1) := by decide +kernel
theorem dX11_rounds_121 : decode cX11_rounds 121 = .ok (.iload_n 2, 1) := by decide +kernel
theorem dX11_rounds_122 : decode cX11_rounds 122 = .ok (.i2l, 1) := by decide +kernel
theorem dX11_rounds_123 : decode cX11_rounds 123 = .ok (.invokevirtual 340, 3) := by decide +kernel
theorem dX11_rounds_126 : decode cX11_rounds 126 = .ok (.aload_n 0, 1) := by decide +kernel
theorem dX11_rounds_127 : decode cX11_rounds 127 = .ok (.iload_n 3, 1) := by decide +kernel
theorem dX11_rounds_128 : decode cX11_rounds 128 = .ok (.i2l, 1) := by decide +kernel
theorem dX11_rounds_129 : decode cX11_rounds 129 = .ok (.invokevirtual 340, 3) := by decide +kernel
theorem dX11_rounds_132 : decode cX11_rounds 132 = .ok (.iload_n 1, 1) := by decide +kernel
theorem dX11_rounds_133 : decode cX11_rounds 133 = .ok (.ireturn, 1) := by decide +kernel
theorem dX11_way_0 : decode cX11_way 0 = .ok (.aload_n 0, 1) := by decide +kernel
theorem dX11_way_1 : decode cX11_way 1 = .ok (.iconst 0, 1) := by decide +kernel
theorem dX11_way_2 : decode cX11_way 2 = .ok (.putfield 3, 3) := by decide +kernel
theorem dX11_way_5 : decode cX11_way 5 = .ok (.iload_n 1, 1) := by decide +kernel
theorem dX11_way_6 : decode cX11_way 6 = .ok (.invokestatic 256, 3) := by decide +kernel
theorem dX11_way_9 : decode cX11_way 9 = .ok (.ifCond .eq 10, 3) := by decide +kernel
theorem dX11_way_12 : decode cX11_way 12 = .ok (.iload_n 2, 1) := by decide +kernel
theorem dX11_way_13 : decode cX11_way 13 = .ok (.invokestatic 256, 3) := by decide +kernel
theorem dX11_way_16 : decode cX11_way 16 = .ok (.ifCond .ne 5, 3) := by decide +kernel
theorem dX11_way_19 : decode cX11_way 19 = .ok (.iconst (-1), 1) := by decide +kernel
theorem dX11_way_20 : decode cX11_way 20 = .ok (.ireturn, 1) := by decide +kernel
theorem dX11_way_21 : decode cX11_way 21 = .ok (.aload_n 0, 1) := by decide +kernel
theorem dX11_way_22 : decode cX11_way 22 = .ok (.aload_n 0, 1) := by decide +kernel
theorem dX11_way_23 : decode cX11_way 23 = .ok (.getfield 31, 3) := by decide +kernel
theorem dX11_way_26 : decode cX11_way 26 = .ok (.bipush 36, 2) := by decide +kernel
theorem dX11_way_28 : decode cX11_way 28 = .ok (.iaload, 1) := by decide +kernel
theorem dX11_way_29 : decode cX11_way 29 = .ok (.invokevirtual 302, 3) := by decide +kernel
theorem dX11_way_32 : decode cX11_way 32 = .ok (.aload_n 0, 1) := by decide +kernel
theorem dX11_way_33 : decode cX11_way 33 = .ok (.iload_n 1, 1) := by decide +kernel
theorem dX11_way_34 : decode cX11_way 34 = .ok (.iload_n 2, 1) := by decide +kernel
theorem dX11_way_35 : decode cX11_way 35 = .ok (.invokevirtual 294, 3) := by decide +kernel
theorem dX11_way_38 : decode cX11_way 38 = .ok (.ifCond .ne 6, 3) := by decide +kernel
theorem dX11_way_41 : decode cX11_way 41 = .ok (.bipush (-2), 2) := by decide +kernel
theorem dX11_way_43 : decode cX11_way 43 = .ok (.ireturn, 1) := by decide +kernel
theorem dX11_way_44 : decode cX11_way 44 = .ok (.aload_n 0, 1) := by decide +kernel
theorem dX11_way_45 : decode cX11_way 45 = .ok (.iconst 0, 1) := by decide +kernel
theorem dX11_way_46 : decode cX11_way 46 = .ok (.putfield 15, 3) := by decide +kernel
theorem dX11_way_49 : decode cX11_way 49 = .ok (.iload_n 1, 1) := by decide +kernel
theorem dX11_way_50 : decode cX11_way 50 = .ok (.istore_n 3, 1) := by decide +kernel
theorem dX11_way_51 : decode cX11_way 51 = .ok (.iload_n 3, 1) := by decide +kernel
theorem dX11_way_52 : decode cX11_way 52 = .ok (.iload_n 2, 1) := by decide +kernel
theorem dX11_way_53 : decode cX11_way 53 = .ok (.if_icmp .eq 118, 3) := by decide +kernel
theorem dX11_way_56 : decode cX11_way 56 = .ok (.iconst (-1), 1) := by decide +kernel
theorem dX11_way_57 : decode cX11_way 57 = .ok (.istore 4, 2) := by decide +kernel
theorem dX11_way_59 : decode cX11_way 59 = .ok (.aload_n 0, 1) := by decide +kernel
theorem dX11_way_60 : decode cX11_way 60 = .ok (.getfield 128, 3) := by decide +kernel
theorem dX11_way_63 : decode cX11_way 63 = .ok (.iconst 1, 1) := by decide +kernel
theorem dX11_way_64 : decode cX11_way 64 = .ok (.isub, 1) := by decide +kernel
theorem dX11_way_65 : decode cX11_way 65 = .ok (.istore 5, 2) := by decide +kernel
theorem dX11_way_67 : decode cX11_way 67 = .ok (.iload 5, 2) := by decide +kernel
theorem dX11_way_69 : decode cX11_way 69 = .ok (.ifCond .lt 84, 3) := by decide +kernel
theorem dX11_way_72 : decode cX11_way 72 = .ok (.aload_n 0, 1) := by decide +kernel
theorem dX11_way_73 : decode cX11_way 73 = .ok (.getfield 31, 3) := by decide +kernel
theorem dX11_way_76 : decode cX11_way 76 = .ok (.bipush 36, 2) := by decide +kernel
theorem dX11_way_78 : decode cX11_way 78 = .ok (.iaload, 1) := by decide +kernel
theorem dX11_way_79 : decode cX11_way 79 = .ok (.iload 5, 2) := by decide +kernel
theorem dX11_way_81 : decode cX11_way 81 = .ok (.invokestatic 262, 3) := by decide +kernel
theorem dX11_way_84 : decode cX11_way 84 = .ok (.ifCond .eq 17, 3) := by decide +kernel
theorem dX11_way_87 : decode cX11_way 87 = .ok (.aload_n 0, 1) := by decide +kernel
theorem dX11_way_88 : decode cX11_way 88 = .ok (.iload 5, 2) := by decide +kernel
theorem dX11_way_90 : decode cX11_way 90 = .ok (.iload_n 3, 1) := by decide +kernel
theorem dX11_way_91 : decode cX11_way 91 = .ok (.invokevirtual 266, 3) := by decide +kernel
theorem dX11_way_94 : decode cX11_way 94 = .ok (.ifCond .eq 7, 3) := by decide +kernel
theorem dX11_way_97 : decode cX11_way 97 = .ok (.iconst 1, 1) := by decide +kernel
theorem dX11_way_98 : decode cX11_way 98 = .ok (.goto 4, 3) := by decide +kernel
theorem dX11_way_101 : decode cX11_way 101 = .ok (.iconst 0, 1) := by decide +kernel
theorem dX11_way_102 : decode cX11_way 102 = .ok (.istore 6, 2) := by decide +kernel
theorem dX11_way_104 : decode cX11_way 104 = .ok (.iload 6, 2) := by decide +kernel
theorem dX11_way_106 : decode cX11_way 106 = .ok (.ifCond .eq 37, 3) := by decide +kernel
theorem dX11_way_109 : decode cX11_way 109 = .ok (.aload_n 0, 1) := by decide +kernel
theorem dX11_way_110 : decode cX11_way 110 = .ok (.getfield 31, 3) := by decide +kernel
theorem dX11_way_113 : decode cX11_way 113 = .ok (.iload 5, 2) := by decide +kernel
theorem dX11_way_115 : decode cX11_way 115 = .ok (.iaload, 1) := by decide +kernel
theorem dX11_way_116 : decode cX11_way 116 = .ok (.aload_n 0, 1) := by decide +kernel
theorem dX11_way_117 : decode cX11_way 117 = .ok (.aload_n 0, 1) := by decide +kernel
theorem dX11_way_118 : decode cX11_way 118 = .ok (.iload 5, 2) := by decide +kernel
theorem dX11_way_120 : decode cX11_way 120 = .ok (.iload_n 3, 1) := by decide +kernel
theorem dX11_way_121 : decode cX11_way 121 = .ok (.invokevirtual 278, 3) := by decide +kernel
theorem dX11_way_124 : decode cX11_way 124 = .ok (.iload_n 2, 1) := by decide +kernel
theorem dX11_way_125 : decode cX11_way 125 = .ok (.invokevirtual 291, 3) := by decide +kernel
theorem dX11_way_128 : decode cX11_way 128 = .ok (.iadd, 1) := by decide +kernel
theorem dX11_way_129 : decode cX11_way 129 = .ok (.aload_n 0, 1) := by decide +kernel
theorem dX11_way_130 : decode cX11_way 130 = .ok (.iload_n 3, 1) := by decide +kernel
theorem dX11_way_131 : decode cX11_way 131 = .ok (.iload_n 2, 1) := by decide +kernel
theorem dX11_way_132 : decode cX11_way 132 = .ok (.invokevirtual 291, 3) := by decide +kernel
theorem dX11_way_135 : decode cX11_way 135 = .ok (.if_icmp .ne 8, 3) := by decide +kernel
theorem dX11_way_138 : decode cX11_way 138 = .ok (.iload 5, 2) := by decide +kernel
theorem dX11_way_140 : decode cX11_way 140 = .ok (.goto 5, 3) := by decide +kernel
theorem dX11_way_143 : decode cX11_way 143 = .ok (.iload 4, 2) := by decide +kernel
theorem dX11_way_145 : decode cX11_way 145 = .ok (.istore 4, 2) := by decide +kernel
theorem dX11_way_147 : decode cX11_way 147 = .ok (.iinc 5 (-1), 3) := by decide +kernel
theorem dX11_way_150 : decode cX11_way 150 = .ok (.goto (-83), 3) := by decide +kernel
theorem dX11_way_153 : decode cX11_way 153 = .ok (.aload_n 0, 1) := by decide +kernel
theorem dX11_way_154 : decode cX11_way 154 = .ok (.iload 4, 2) := by decide +kernel
theorem dX11_way_156 : decode cX11_way 156 = .ok (.i2l, 1) := by decide +kernel
theorem dX11_way_157 : decode cX11_way 157 = .ok (.invokevirtual 340, 3) := by decide +kernel
theorem dX11_way_160 : decode cX11_way 160 = .ok (.aload_n 0, 1) := by decide +kernel
theorem dX11_way_161 : decode cX11_way 161 = .ok (.iload 4, 2) := by decide +kernel
theorem dX11_way_163 : decode cX11_way 163 = .ok (.iload_n 3, 1) := by decide +kernel
theorem dX11_way_164 : decode cX11_way 164 = .ok (.invokevirtual 278, 3) := by decide +kernel
theorem dX11_way_167 : decode cX11_way 167 = .ok (.istore_n 3, 1) := by decide +kernel
theorem dX11_way_168 : decode cX11_way 168 = .ok (.goto (-117), 3) := by decide +kernel
theorem dX11_way_171 : decode cX11_way 171 = .ok (.aload_n 0, 1) := by decide +kernel
theorem dX11_way_172 : decode cX11_way 172 = .ok (.iload_n 1, 1) := by decide +kernel
theorem dX11_way_173 : decode cX11_way 173 = .ok (.iload_n 2, 1) := by decide +kernel
theorem dX11_way_174 : decode cX11_way 174 = .ok (.invokevirtual 291, 3) := by decide +kernel
theorem dX11_way_177 : decode cX11_way 177 = .ok (.ireturn, 1) := by decide +kernel
theorem dX11_meets_0 : decode cX11_meets 0 = .ok (.aload_n 0, 1) := by decide +kernel
theorem dX11_meets_1 : decode cX11_meets 1 = .ok (.iconst 0, 1) := by decide +kernel
theorem dX11_meets_2 : decode cX11_meets 2 = .ok (.putfield 3, 3) := by decide +kernel
theorem dX11_meets_5 : decode cX11_meets 5 = .ok (.iload_n 1, 1) := by decide +kernel
theorem dX11_meets_6 : decode cX11_meets 6 = .ok (.invokestatic 256, 3) := by decide +kernel
theorem dX11_meets_9 : decode cX11_meets 9 = .ok (.ifCond .eq 10, 3) := by decide +kernel
theorem dX11_meets_12 : decode cX11_meets 12 = .ok (.iload_n 2, 1) := by decide +kernel
theorem dX11_meets_13 : decode cX11_meets 13 = .ok (.invokestatic 256, 3) := by decide +kernel
theorem dX11_meets_16 : decode cX11_meets 16 = .ok (.ifCond .ne 5, 3) := by decide +kernel
theorem dX11_meets_19 : decode cX11_meets 19 = .ok (.iconst (-1), 1) := by decide +kernel
theorem dX11_meets_20 : decode cX11_meets 20 = .ok (.ireturn, 1) := by decide +kernel
theorem dX11_meets_21 : decode cX11_meets 21 = .ok (.aload_n 0, 1) := by decide +kernel
theorem dX11_meets_22 : decode cX11_meets 22 = .ok (.aload_n 0, 1) := by decide +kernel
theorem dX11_meets_23 : decode cX11_meets 23 = .ok (.getfield 31, 3) := by decide +kernel
theorem dX11_meets_26 : decode cX11_meets 26 = .ok (.bipush 36, 2) := by decide +kernel
theorem dX11_meets_28 : decode cX11_meets 28 = .ok (.iaload, 1) := by decide +kernel
theorem dX11_meets_29 : decode cX11_meets 29 = .ok (.invokevirtual 302, 3) := by decide +kernel
theorem dX11_meets_32 : decode cX11_meets 32 = .ok (.aload_n 0, 1) := by decide +kernel
theorem dX11_meets_33 : decode cX11_meets 33 = .ok (.iload_n 1, 1) := by decide +kernel
theorem dX11_meets_34 : decode cX11_meets 34 = .ok (.iload_n 2, 1) := by decide +kernel
theorem dX11_meets_35 : decode cX11_meets 35 = .ok (.invokevirtual 294, 3) := by decide +kernel
theorem dX11_meets_38 : decode cX11_meets 38 = .ok (.ifCond .ne 6, 3) := by decide +kernel
theorem dX11_meets_41 : decode cX11_meets 41 = .ok (.bipush (-2), 2) := by decide +kernel
theorem dX11_meets_43 : decode cX11_meets 43 = .ok (.ireturn, 1) := by decide +kernel
theorem dX11_meets_44 : decode cX11_meets 44 = .ok (.iconst (-1), 1) := by decide +kernel
theorem dX11_meets_45 : decode cX11_meets 45 = .ok (.istore_n 3, 1) := by decide +kernel
theorem dX11_meets_46 : decode cX11_meets 46 = .ok (.ldc_w 290, 3) := by decide +kernel
theorem dX11_meets_49 : decode cX11_meets 49 = .ok (.istore 4, 2) := by decide +kernel
theorem dX11_meets_51 : decode cX11_meets 51 = .ok (.iconst 0, 1) := by decide +kernel
theorem dX11_meets_52 : decode cX11_meets 52 = .ok (.istore 5, 2) := by decide +kernel
theorem dX11_meets_54 : decode cX11_meets 54 = .ok (.iload 5, 2) := by decide +kernel
theorem dX11_meets_56 : decode cX11_meets 56 = .ok (.bipush 8, 2) := by decide +kernel
theorem dX11_meets_58 : decode cX11_meets 58 = .ok (.if_icmp .ge 51, 3) := by decide +kernel
theorem dX11_meets_61 : decode cX11_meets 61 = .ok (.aload_n 0, 1) := by decide +kernel
theorem dX11_meets_62 : decode cX11_meets 62 = .ok (.iload_n 1, 1) := by decide +kernel
theorem dX11_meets_63 : decode cX11_meets 63 = .ok (.iload 5, 2) := by decide +kernel
theorem dX11_meets_65 : decode cX11_meets 65 = .ok (.invokevirtual 291, 3) := by decide +kernel
theorem dX11_meets_68 : decode cX11_meets 68 = .ok (.aload_n 0, 1) := by decide +kernel
theorem dX11_meets_69 : decode cX11_meets 69 = .ok (.iload_n 2, 1) := by decide +kernel
theorem dX11_meets_70 : decode cX11_meets 70 = .ok (.iload 5, 2) := by decide +kernel
theorem dX11_meets_72 : decode cX11_meets 72 = .ok (.invokevirtual 291, 3) := by decide +kernel
theorem dX11_meets_75 : decode cX11_meets 75 = .ok (.invokestatic 297, 3) := by decide +kernel
theorem dX11_meets_78 : decode cX11_meets 78 = .ok (.istore 6, 2) := by decide +kernel
theorem dX11_meets_80 : decode cX11_meets 80 = .ok (.iload 6, 2) := by decide +kernel
theorem dX11_meets_82 : decode cX11_meets 82 = .ok (.iload 4, 2) := by decide +kernel
theorem dX11_meets_84 : decode cX11_meets 84 = .ok (.if_icmp .ge 8, 3) := by decide +kernel
theorem dX11_meets_87 : decode cX11_meets 87 = .ok (.iload 5, 2) := by decide +kernel
theorem dX11_meets_89 : decode cX11_meets 89 = .ok (.goto 4, 3) := by decide +kernel
theorem dX11_meets_92 : decode cX11_meets 92 = .ok (.iload_n 3, 1) := by decide +kernel
theorem dX11_meets_93 : decode cX11_meets 93 = .ok (.istore_n 3, 1) := by decide +kernel
theorem dX11_meets_94 : decode cX11_meets 94 = .ok (.iload 4, 2) := by decide +kernel
theorem dX11_meets_96 : decode cX11_meets 96 = .ok (.iload 6, 2) := by decide +kernel
theorem dX11_meets_98 : decode cX11_meets 98 = .ok (.invokestatic 146, 3) := by decide +kernel
theorem dX11_meets_101 : decode cX11_meets 101 = .ok (.istore 4, 2) := by decide +kernel
theorem dX11_meets_103 : decode cX11_meets 103 = .ok (.iinc 5 1, 3) := by decide +kernel
theorem dX11_meets_106 : decode cX11_meets 106 = .ok (.goto (-52), 3) := by decide +kernel
theorem dX11_meets_109 : decode cX11_meets 109 = .ok (.aload_n 0, 1) := by decide +kernel
theorem dX11_meets_110 : decode cX11_meets 110 = .ok (.iconst 0, 1) := by decide +kernel
theorem dX11_meets_111 : decode cX11_meets 111 = .ok (.putfield 15, 3) := by decide +kernel
theorem dX11_meets_114 : decode cX11_meets 114 = .ok (.aload_n 0, 1) := by decide +kernel
theorem dX11_meets_115 : decode cX11_meets 115 = .ok (.aload_n 0, 1) := by decide +kernel
theorem dX11_meets_116 : decode cX11_meets 116 = .ok (.iload_n 1, 1) := by decide +kernel
theorem dX11_meets_117 : decode cX11_meets 117 = .ok (.iload_n 3, 1) := by decide +kernel
theorem dX11_meets_118 : decode cX11_meets 118 = .ok (.invokevirtual 291, 3) := by decide +kernel
theorem dX11_meets_121 : decode cX11_meets 121 = .ok (.i2l, 1) := by decide +kernel
theorem dX11_meets_122 : decode cX11_meets 122 = .ok (.invokevirtual 340, 3) := by decide +kernel
theorem dX11_meets_125 : decode cX11_meets 125 = .ok (.aload_n 0, 1) := by decide +kernel
theorem dX11_meets_126 : decode cX11_meets 126 = .ok (.aload_n 0, 1) := by decide +kernel
theorem dX11_meets_127 : decode cX11_meets 127 = .ok (.iload_n 2, 1) := by decide +kernel
theorem dX11_meets_128 : decode cX11_meets 128 = .ok (.iload_n 3, 1) := by decide +kernel
theorem dX11_meets_129 : decode cX11_meets 129 = .ok (.invokevirtual 291, 3) := by decide +kernel
theorem dX11_meets_132 : decode cX11_meets 132 = .ok (.i2l, 1) := by decide +kernel
theorem dX11_meets_133 : decode cX11_meets 133 = .ok (.invokevirtual 340, 3) := by decide +kernel
theorem dX11_meets_136 : decode cX11_meets 136 = .ok (.iload_n 3, 1) := by decide +kernel
theorem dX11_meets_137 : decode cX11_meets 137 = .ok (.ireturn, 1) := by decide +kernel
theorem dX11_heart_0 : decode cX11_heart 0 = .ok (.aload_n 0, 1) := by decide +kernel
theorem dX11_heart_1 : decode cX11_heart 1 = .ok (.iconst 0, 1) := by decide +kernel
theorem dX11_heart_2 : decode cX11_heart 2 = .ok (.putfield 3, 3) := by decide +kernel
theorem dX11_heart_5 : decode cX11_heart 5 = .ok (.aload_n 0, 1) := by decide +kernel
theorem dX11_heart_6 : decode cX11_heart 6 = .ok (.getfield 31, 3) := by decide +kernel
theorem dX11_heart_9 : decode cX11_heart 9 = .ok (.bipush 36, 2) := by decide +kernel
theorem dX11_heart_11 : decode cX11_heart 11 = .ok (.iaload, 1) := by decide +kernel
theorem dX11_heart_12 : decode cX11_heart 12 = .ok (.ifCond .ne 6, 3) := by decide +kernel
theorem dX11_heart_15 : decode cX11_heart 15 = .ok (.bipush (-2), 2) := by decide +kernel
theorem dX11_heart_17 : decode cX11_heart 17 = .ok (.ireturn, 1) := by decide +kernel
theorem dX11_heart_18 : decode cX11_heart 18 = .ok (.aload_n 0, 1) := by decide +kernel
theorem dX11_heart_19 : decode cX11_heart 19 = .ok (.aload_n 0, 1) := by decide +kernel
theorem dX11_heart_20 : decode cX11_heart 20 = .ok (.getfield 31, 3) := by decide +kernel
theorem dX11_heart_23 : decode cX11_heart 23 = .ok (.bipush 36, 2) := by decide +kernel
theorem dX11_heart_25 : decode cX11_heart 25 = .ok (.iaload, 1) := by decide +kernel
theorem dX11_heart_26 : decode cX11_heart 26 = .ok (.invokevirtual 302, 3) := by decide +kernel
theorem dX11_heart_29 : decode cX11_heart 29 = .ok (.iconst 0, 1) := by decide +kernel
theorem dX11_heart_30 : decode cX11_heart 30 = .ok (.istore_n 1, 1) := by decide +kernel
theorem dX11_heart_31 : decode cX11_heart 31 = .ok (.iconst 1, 1) := by decide +kernel
theorem dX11_heart_32 : decode cX11_heart 32 = .ok (.istore_n 2, 1) := by decide +kernel
theorem dX11_heart_33 : decode cX11_heart 33 = .ok (.iload_n 2, 1) := by decide +kernel
theorem dX11_heart_34 : decode cX11_heart 34 = .ok (.bipush 8, 2) := by decide +kernel
theorem dX11_heart_36 : decode cX11_heart 36 = .ok (.if_icmp .ge 54, 3) := by decide +kernel
theorem dX11_heart_39 : decode cX11_heart 39 = .ok (.aload_n 0, 1) := by decide +kernel
theorem dX11_heart_40 : decode cX11_heart 40 = .ok (.iload_n 2, 1) := by decide +kernel
theorem dX11_heart_41 : decode cX11_heart 41 = .ok (.invokevirtual 308, 3) := by decide +kernel
theorem dX11_heart_44 : decode cX11_heart 44 = .ok (.invokestatic 355, 3) := by decide +kernel
theorem dX11_heart_47 : decode cX11_heart 47 = .ok (.aload_n 0, 1) := by decide +kernel
theorem dX11_heart_48 : decode cX11_heart 48 = .ok (.iload_n 1, 1) := by decide +kernel
theorem dX11_heart_49 : decode cX11_heart 49 = .ok (.invokevirtual 308, 3) := by decide +kernel
theorem dX11_heart_52 : decode cX11_heart 52 = .ok (.invokestatic 355, 3) := by decide +kernel
theorem dX11_heart_55 : decode cX11_heart 55 = .ok (.isub, 1) := by decide +kernel
theorem dX11_heart_56 : decode cX11_heart 56 = .ok (.istore_n 3, 1) := by decide +kernel
theorem dX11_heart_57 : decode cX11_heart 57 = .ok (.iload_n 3, 1) := by decide +kernel
theorem dX11_heart_58 : decode cX11_heart 58 = .ok (.ifCond .gt 20, 3) := by decide +kernel
theorem dX11_heart_61 : decode cX11_heart 61 = .ok (.iload_n 3, 1) := by decide +kernel
theorem dX11_heart_62 : decode cX11_heart 62 = .ok (.ifCond .ne 20, 3) := by decide +kernel
theorem dX11_heart_65 : decode cX11_heart 65 = .ok (.aload_n 0, 1) := by decide +kernel
theorem dX11_heart_66 : decode cX11_heart 66 = .ok (.iload_n 2, 1) := by decide +kernel
theorem dX11_heart_67 : decode cX11_heart 67 = .ok (.invokevirtual 311, 3) := by decide +kernel
theorem dX11_heart_70 : decode cX11_heart 70 = .ok (.aload_n 0, 1) := by decide +kernel
theorem dX11_heart_71 : decode cX11_heart 71 = .ok (.iload_n 1, 1) := by decide +kernel
theorem dX11_heart_72 : decode cX11_heart 72 = .ok (.invokevirtual 311, 3) := by decide +kernel
theorem dX11_heart_75 : decode cX11_heart 75 = .ok (.if_icmp .ge 7, 3) := by decide +kernel
theorem dX11_heart_78 : decode cX11_heart 78 = .ok (.iload_n 2, 1) := by decide +kernel
theorem dX11_heart_79 : decode cX11_heart 79 = .ok (.goto 4, 3) := by decide +kernel
theorem dX11_heart_82 : decode cX11_heart 82 = .ok (.iload_n 1, 1) := by decide +kernel
theorem dX11_heart_83 : decode cX11_heart 83 = .ok (.istore_n 1, 1) := by decide +kernel
theorem dX11_heart_84 : decode cX11_heart 84 = .ok (.iinc 2 1, 3) := by decide +kernel
theorem dX11_heart_87 : decode cX11_heart 87 = .ok (.goto (-54), 3) := by decide +kernel
theorem dX11_heart_90 : decode cX11_heart 90 = .ok (.aload_n 0, 1) := by decide +kernel
theorem dX11_heart_91 : decode cX11_heart 91 = .ok (.iconst 0, 1) := by decide +kernel
theorem dX11_heart_92 : decode cX11_heart 92 = .ok (.putfield 15, 3) := by decide +kernel
theorem dX11_heart_95 : decode cX11_heart 95 = .ok (.aload_n 0, 1) := by decide +kernel
theorem dX11_heart_96 : decode cX11_heart 96 = .ok (.aload_n 0, 1) := by decide +kernel
theorem dX11_heart_97 : decode cX11_heart 97 = .ok (.iload_n 1, 1) := by decide +kernel
theorem dX11_heart_98 : decode cX11_heart 98 = .ok (.invokevirtual 311, 3) := by decide +kernel
theorem dX11_heart_101 : decode cX11_heart 101 = .ok (.i2l, 1) := by decide +kernel
theorem dX11_heart_102 : decode cX11_heart 102 = .ok (.invokevirtual 340, 3) := by decide +kernel
theorem dX11_heart_105 : decode cX11_heart 105 = .ok (.aload_n 0, 1) := by decide +kernel
theorem dX11_heart_106 : decode cX11_heart 106 = .ok (.aload_n 0, 1) := by decide +kernel
theorem dX11_heart_107 : decode cX11_heart 107 = .ok (.iload_n 1, 1) := by decide +kernel
theorem dX11_heart_108 : decode cX11_heart 108 = .ok (.invokevirtual 308, 3) := by decide +kernel
theorem dX11_heart_111 : decode cX11_heart 111 = .ok (.invokestatic 355, 3) := by decide +kernel
theorem dX11_heart_114 : decode cX11_heart 114 = .ok (.i2l, 1) := by decide +kernel
theorem dX11_heart_115 : decode cX11_heart 115 = .ok (.invokevirtual 340, 3) := by decide +kernel
theorem dX11_heart_118 : decode cX11_heart 118 = .ok (.iload_n 1, 1) := by decide +kernel
theorem dX11_heart_119 : decode cX11_heart 119 = .ok (.ireturn, 1) := by decide +kernel
theorem dX11_ropes_0 : decode cX11_ropes 0 = .ok (.aload_n 0, 1) := by decide +kernel
theorem dX11_ropes_1 : decode cX11_ropes 1 = .ok (.iconst 0, 1) := by decide +kernel
theorem dX11_ropes_2 : decode cX11_ropes 2 = .ok (.putfield 3, 3) := by decide +kernel
theorem dX11_ropes_5 : decode cX11_ropes 5 = .ok (.iconst 0, 1) := by decide +kernel
theorem dX11_ropes_6 : decode cX11_ropes 6 = .ok (.istore_n 1, 1) := by decide +kernel
theorem dX11_ropes_7 : decode cX11_ropes 7 = .ok (.iconst 0, 1) := by decide +kernel
theorem dX11_ropes_8 : decode cX11_ropes 8 = .ok (.istore_n 2, 1) := by decide +kernel
theorem dX11_ropes_9 : decode cX11_ropes 9 = .ok (.iconst 1, 1) := by decide +kernel
theorem dX11_ropes_10 : decode cX11_ropes 10 = .ok (.istore_n 3, 1) := by decide +kernel
theorem dX11_ropes_11 : decode cX11_ropes 11 = .ok (.iload_n 3, 1) := by decide +kernel
theorem dX11_ropes_12 : decode cX11_ropes 12 = .ok (.bipush 9, 2) := by decide +kernel
theorem dX11_ropes_14 : decode cX11_ropes 14 = .ok (.if_icmp .gt 115, 3) := by decide +kernel
theorem dX11_ropes_17 : decode cX11_ropes 17 = .ok (.iconst 0, 1) := by decide +kernel
theorem dX11_ropes_18 : decode cX11_ropes 18 = .ok (.istore 4, 2) := by decide +kernel
theorem dX11_ropes_20 : decode cX11_ropes 20 = .ok (.iload 4, 2) := by decide +kernel
theorem dX11_ropes_22 : decode cX11_ropes 22 = .ok (.aload_n 0, 1) := by decide +kernel
theorem dX11_ropes_23 : decode cX11_ropes 23 = .ok (.getfield 128, 3) := by decide +kernel
theorem dX11_ropes_26 : decode cX11_ropes 26 = .ok (.if_icmp .ge 97, 3) := by decide +kernel
theorem dX11_ropes_29 : decode cX11_ropes 29 = .ok (.aload_n 0, 1) := by decide +kernel
theorem dX11_ropes_30 : decode cX11_ropes 30 = .ok (.getfield 31, 3) := by decide +kernel
theorem dX11_ropes_33 : decode cX11_ropes 33 = .ok (.bipush 36, 2) := by decide +kernel
theorem dX11_ropes_35 : decode cX11_ropes 35 = .ok (.iaload, 1) := by decide +kernel
theorem dX11_ropes_36 : decode cX11_ropes 36 = .ok (.iload 4, 2) := by decide +kernel
theorem dX11_ropes_38 : decode cX11_ropes 38 = .ok (.invokestatic 262, 3) := by decide +kernel
theorem dX11_ropes_41 : decode cX11_ropes 41 = .ok (.ifCond .eq 76, 3) := by decide +kernel
theorem dX11_ropes_44 : decode cX11_ropes 44 = .ok (.aload_n 0, 1) := by decide +kernel
theorem dX11_ropes_45 : decode cX11_ropes 45 = .ok (.getfield 31, 3) := by decide +kernel
theorem dX11_ropes_48 : decode cX11_ropes 48 = .ok (.iload 4, 2) := by decide +kernel
theorem dX11_ropes_50 : decode cX11_ropes 50 = .ok (.iaload, 1) := by decide +kernel
theorem dX11_ropes_51 : decode cX11_ropes 51 = .ok (.iload_n 3, 1) := by decide +kernel
theorem dX11_ropes_52 : decode cX11_ropes 52 = .ok (.if_icmp .ne 65, 3) := by decide +kernel
theorem dX11_ropes_55 : decode cX11_ropes 55 = .ok (.aload_n 0, 1) := by decide +kernel
theorem dX11_ropes_56 : decode cX11_ropes 56 = .ok (.iload_n 1, 1) := by decide +kernel
theorem dX11_ropes_57 : decode cX11_ropes 57 = .ok (.invokevirtual 302, 3) := by decide +kernel
theorem dX11_ropes_60 : decode cX11_ropes 60 = .ok (.aload_n 0, 1) := by decide +kernel
theorem dX11_ropes_61 : decode cX11_ropes 61 = .ok (.aload_n 0, 1) := by decide +kernel
theorem dX11_ropes_62 : decode cX11_ropes 62 = .ok (.getfield 24, 3) := by decide +kernel
theorem dX11_ropes_65 : decode cX11_ropes 65 = .ok (.iload 4, 2) := by decide +kernel
theorem dX11_ropes_67 : decode cX11_ropes 67 = .ok (.iaload, 1) := by decide +kernel
theorem dX11_ropes_68 : decode cX11_ropes 68 = .ok (.aload_n 0, 1) := by decide +kernel
theorem dX11_ropes_69 : decode cX11_ropes 69 = .ok (.getfield 28, 3) := by decide +kernel
theorem dX11_ropes_72 : decode cX11_ropes 72 = .ok (.iload 4, 2) := by decide +kernel
theorem dX11_ropes_74 : decode cX11_ropes 74 = .ok (.iaload, 1) := by decide +kernel
theorem dX11_ropes_75 : decode cX11_ropes 75 = .ok (.invokevirtual 294, 3) := by decide +kernel
theorem dX11_ropes_78 : decode cX11_ropes 78 = .ok (.ifCond .ne 7, 3) := by decide +kernel
theorem dX11_ropes_81 : decode cX11_ropes 81 = .ok (.iconst 1, 1) := by decide +kernel
theorem dX11_ropes_82 : decode cX11_ropes 82 = .ok (.goto 4, 3) := by decide +kernel
theorem dX11_ropes_85 : decode cX11_ropes 85 = .ok (.iconst 0, 1) := by decide +kernel
theorem dX11_ropes_86 : decode cX11_ropes 86 = .ok (.istore 5, 2) := by decide +kernel
theorem dX11_ropes_88 : decode cX11_ropes 88 = .ok (.iload_n 1, 1) := by decide +kernel
theorem dX11_ropes_89 : decode cX11_ropes 89 = .ok (.iload 5, 2) := by decide +kernel
theorem dX11_ropes_91 : decode cX11_ropes 91 = .ok (.ifCond .eq 10, 3) := by decide +kernel
theorem dX11_ropes_94 : decode cX11_ropes 94 = .ok (.iconst 1, 1) := by decide +kernel
theorem dX11_ropes_95 : decode cX11_ropes 95 = .ok (.iload 4, 2) := by decide +kernel
theorem dX11_ropes_97 : decode cX11_ropes 97 = .ok (.ishl, 1) := by decide +kernel
theorem dX11_ropes_98 : decode cX11_ropes 98 = .ok (.goto 4, 3) := by decide +kernel
theorem dX11_ropes_101 : decode cX11_ropes 101 = .ok (.iconst 0, 1) := by decide +kernel
theorem dX11_ropes_102 : decode cX11_ropes 102 = .ok (.ior, 1) := by decide +kernel
theorem dX11_ropes_103 : decode cX11_ropes 103 = .ok (.istore_n 1, 1) := by decide +kernel
theorem dX11_ropes_104 : decode cX11_ropes 104 = .ok (.iload_n 2, 1) := by decide +kernel
theorem dX11_ropes_105 : decode cX11_ropes 105 = .ok (.iload 5, 2) := by decide +kernel
theorem dX11_ropes_107 : decode cX11_ropes 107 = .ok (.ifCond .eq 7, 3) := by decide +kernel
theorem dX11_ropes_110 : decode cX11_ropes 110 = .ok (.iload_n 3, 1) := by decide +kernel
theorem dX11_ropes_111 : decode cX11_ropes 111 = .ok (.goto 4, 3) := by decide +kernel
theorem dX11_ropes_114 : decode cX11_ropes 114 = .ok (.iconst 0, 1) := by decide +kernel
theorem dX11_ropes_115 : decode cX11_ropes 115 = .ok (.iadd, 1) := by decide +kernel
theorem dX11_ropes_116 : decode cX11_ropes 116 = .ok (.istore_n 2, 1) := by decide +kernel
theorem dX11_ropes_117 : decode cX11_ropes 117 = .ok (.iinc 4 1, 3) := by decide +kernel
theorem dX11_ropes_120 : decode cX11_ropes 120 = .ok (.goto (-100), 3) := by decide +kernel
theorem dX11_ropes_123 : decode cX11_ropes 123 = .ok (.iinc 3 1, 3) := by decide +kernel
theorem dX11_ropes_126 : decode cX11_ropes 126 = .ok (.goto (-115), 3) := by decide +kernel
theorem dX11_ropes_129 : decode cX11_ropes 129 = .ok (.aload_n 0, 1) := by decide +kernel
theorem dX11_ropes_130 : decode cX11_ropes 130 = .ok (.iconst 0, 1) := by decide +kernel
theorem dX11_ropes_131 : decode cX11_ropes 131 = .ok (.putfield 15, 3) := by decide +kernel
theorem dX11_ropes_134 : decode cX11_ropes 134 = .ok (.aload_n 0, 1) := by decide +kernel
theorem dX11_ropes_135 : decode cX11_ropes 135 = .ok (.iload_n 1, 1) := by decide +kernel
theorem dX11_ropes_136 : decode cX11_ropes 136 = .ok (.i2l, 1) := by decide +kernel
theorem dX11_ropes_137 : decode cX11_ropes 137 = .ok (.invokevirtual 340, 3) := by decide +kernel
theorem dX11_ropes_140 : decode cX11_ropes 140 = .ok (.aload_n 0, 1) := by decide +kernel
theorem dX11_ropes_141 : decode cX11_ropes 141 = .ok (.iload_n 1, 1) := by decide +kernel
theorem dX11_ropes_142 : decode cX11_ropes 142 = .ok (.invokestatic 355, 3) := by decide +kernel
theorem dX11_ropes_145 : decode cX11_ropes 145 = .ok (.i2l, 1) := by decide +kernel
theorem dX11_ropes_146 : decode cX11_ropes 146 = .ok (.invokevirtual 340, 3) := by decide +kernel
theorem dX11_ropes_149 : decode cX11_ropes 149 = .ok (.iload_n 2, 1) := by decide +kernel
theorem dX11_ropes_150 : decode cX11_ropes 150 = .ok (.ireturn, 1) := by decide +kernel
theorem dX11_withPassages_0 : decode cX11_withPassages 0 = .ok (.iconst 0, 1) := by decide +kernel
theorem dX11_withPassages_1 : decode cX11_withPassages 1 = .ok (.istore_n 1, 1) := by decide +kernel
theorem dX11_withPassages_2 : decode cX11_withPassages 2 = .ok (.iconst 0, 1) := by decide +kernel
theorem dX11_withPassages_3 : decode cX11_withPassages 3 = .ok (.istore_n 2, 1) := by decide +kernel
theorem dX11_withPassages_4 : decode cX11_withPassages 4 = .ok (.iload_n 2, 1) := by decide +kernel
theorem dX11_withPassages_5 : decode cX11_withPassages 5 = .ok (.bipush 8, 2) := by decide +kernel
theorem dX11_withPassages_7 : decode cX11_withPassages 7 = .ok (.if_icmp .ge 27, 3) := by decide +kernel
theorem dX11_withPassages_10 : decode cX11_withPassages 10 = .ok (.iload_n 1, 1) := by decide +kernel
theorem dX11_withPassages_11 : decode cX11_withPassages 11 = .ok (.aload_n 0, 1) := by decide +kernel
theorem dX11_withPassages_12 : decode cX11_withPassages 12 = .ok (.iload_n 2, 1) := by decide +kernel
theorem dX11_withPassages_13 : decode cX11_withPassages 13 = .ok (.invokevirtual 305, 3) := by decide +kernel
theorem dX11_withPassages_16 : decode cX11_withPassages 16 = .ok (.ifCond .eq 9, 3) := by decide +kernel
theorem dX11_withPassages_19 : decode cX11_withPassages 19 = .ok (.iconst 1, 1) := by decide +kernel
theorem dX11_withPassages_20 : decode cX11_withPassages 20 = .ok (.iload_n 2, 1) := by decide +kernel
theorem dX11_withPassages_21 : decode cX11_withPassages 21 = .ok (.ishl, 1) := by decide +kernel
theorem dX11_withPassages_22 : decode cX11_withPassages 22 = .ok (.goto 4, 3) := by decide +kernel
theorem dX11_withPassages_25 : decode cX11_withPassages 25 = .ok (.iconst 0, 1) := by decide +kernel
theorem dX11_withPassages_26 : decode cX11_withPassages 26 = .ok (.ior, 1) := by decide +kernel
theorem dX11_withPassages_27 : decode cX11_withPassages 27 = .ok (.istore_n 1, 1) := by decide +kernel
theorem dX11_withPassages_28 : decode cX11_withPassages 28 = .ok (.iinc 2 1, 3) := by decide +kernel
theorem dX11_withPassages_31 : decode cX11_withPassages 31 = .ok (.goto (-27), 3) := by decide +kernel
theorem dX11_withPassages_34 : decode cX11_withPassages 34 = .ok (.iload_n 1, 1) := by decide +kernel
theorem dX11_withPassages_35 : decode cX11_withPassages 35 = .ok (.ireturn, 1) := by decide +kernel
theorem dX11_needed_0 : decode cX11_needed 0 = .ok (.aload_n 0, 1) := by decide +kernel
theorem dX11_needed_1 : decode cX11_needed 1 = .ok (.iconst 0, 1) := by decide +kernel
theorem dX11_needed_2 : decode cX11_needed 2 = .ok (.putfield 3, 3) := by decide +kernel
theorem dX11_needed_5 : decode cX11_needed 5 = .ok (.iconst 0, 1) := by decide +kernel
theorem dX11_needed_6 : decode cX11_needed 6 = .ok (.istore_n 1, 1) := by decide +kernel
theorem dX11_needed_7 : decode cX11_needed 7 = .ok (.iconst 0, 1) := by decide +kernel
theorem dX11_needed_8 : decode cX11_needed 8 = .ok (.istore_n 2, 1) := by decide +kernel
theorem dX11_needed_9 : decode cX11_needed 9 = .ok (.iload_n 2, 1) := by decide +kernel
theorem dX11_needed_10 : decode cX11_needed 10 = .ok (.aload_n 0, 1) := by decide +kernel
theorem dX11_needed_11 : decode cX11_needed 11 = .ok (.getfield 128, 3) := by decide +kernel
theorem dX11_needed_14 : decode cX11_needed 14 = .ok (.if_icmp .ge 69, 3) := by decide +kernel
theorem dX11_needed_17 : decode cX11_needed 17 = .ok (.aload_n 0, 1) := by decide +kernel
theorem dX11_needed_18 : decode cX11_needed 18 = .ok (.getfield 31, 3) := by decide +kernel
theorem dX11_needed_21 : decode cX11_needed 21 = .ok (.bipush 36, 2) := by decide +kernel
theorem dX11_needed_23 : decode cX11_needed 23 = .ok (.iaload, 1) := by decide +kernel
theorem dX11_needed_24 : decode cX11_needed 24 = .ok (.iload_n 2, 1) := by decide +kernel
theorem dX11_needed_25 : decode cX11_needed 25 = .ok (.invokestatic 262, 3) := by decide +kernel
theorem dX11_needed_28 : decode cX11_needed 28 = .ok (.ifCond .eq 49, 3) := by decide +kernel
theorem dX11_needed_31 : decode cX11_needed 31 = .ok (.aload_n 0, 1) := by decide +kernel
theorem dX11_needed_32 : decode cX11_needed 32 = .ok (.aload_n 0, 1) := by decide +kernel
theorem dX11_needed_33 : decode cX11_needed 33 = .ok (.getfield 31, 3) := by decide +kernel
theorem dX11_needed_36 : decode cX11_needed 36 = .ok (.bipush 36, 2) := by decide +kernel
theorem dX11_needed_38 : decode cX11_needed 38 = .ok (.iaload, 1) := by decide +kernel
theorem dX11_needed_39 : decode cX11_needed 39 = .ok (.iconst 1, 1) := by decide +kernel
theorem dX11_needed_40 : decode cX11_needed 40 = .ok (.iload_n 2, 1) := by decide +kernel
theorem dX11_needed_41 : decode cX11_needed 41 = .ok (.ishl, 1) := by decide +kernel
theorem dX11_needed_42 : decode cX11_needed 42 = .ok (.iconst (-1), 1) := by decide +kernel
theorem dX11_needed_43 : decode cX11_needed 43 = .ok (.ixor, 1) := by decide +kernel
theorem dX11_needed_44 : decode cX11_needed 44 = .ok (.iand, 1) := by decide +kernel
theorem dX11_needed_45 : decode cX11_needed 45 = .ok (.invokevirtual 302, 3) := by decide +kernel
theorem dX11_needed_48 : decode cX11_needed 48 = .ok (.iload_n 1, 1) := by decide +kernel
theorem dX11_needed_49 : decode cX11_needed 49 = .ok (.aload_n 0, 1) := by decide +kernel
theorem dX11_needed_50 : decode cX11_needed 50 = .ok (.aload_n 0, 1) := by decide +kernel
theorem dX11_needed_51 : decode cX11_needed 51 = .ok (.getfield 24, 3) := by decide +kernel
theorem dX11_needed_54 : decode cX11_needed 54 = .ok (.iload_n 2, 1) := by decide +kernel
theorem dX11_needed_55 : decode cX11_needed 55 = .ok (.iaload, 1) := by decide +kernel
theorem dX11_needed_56 : decode cX11_needed 56 = .ok (.aload_n 0, 1) := by decide +kernel
theorem dX11_needed_57 : decode cX11_needed 57 = .ok (.getfield 28, 3) := by decide +kernel
theorem dX11_needed_60 : decode cX11_needed 60 = .ok (.iload_n 2, 1) := by decide +kernel
theorem dX11_needed_61 : decode cX11_needed 61 = .ok (.iaload, 1) := by decide +kernel
theorem dX11_needed_62 : decode cX11_needed 62 = .ok (.invokevirtual 294, 3) := by decide +kernel
theorem dX11_needed_65 : decode cX11_needed 65 = .ok (.ifCond .eq 7, 3) := by decide +kernel
theorem dX11_needed_68 : decode cX11_needed 68 = .ok (.iconst 0, 1) := by decide +kernel
theorem dX11_needed_69 : decode cX11_needed 69 = .ok (.goto 6, 3) := by decide +kernel
theorem dX11_needed_72 : decode cX11_needed 72 = .ok (.iconst 1, 1) := by decide +kernel
theorem dX11_needed_73 : decode cX11_needed 73 = .ok (.iload_n 2, 1) := by decide +kernel
theorem dX11_needed_74 : decode cX11_needed 74 = .ok (.ishl, 1) := by decide +kernel
theorem dX11_needed_75 : decode cX11_needed 75 = .ok (.ior, 1) := by decide +kernel
theorem dX11_needed_76 : decode cX11_needed 76 = .ok (.istore_n 1, 1) := by decide +kernel
theorem dX11_needed_77 : decode cX11_needed 77 = .ok (.iinc 2 1, 3) := by decide +kernel
theorem dX11_needed_80 : decode cX11_needed 80 = .ok (.goto (-71), 3) := by decide +kernel
theorem dX11_needed_83 : decode cX11_needed 83 = .ok (.aload_n 0, 1) := by decide +kernel
theorem dX11_needed_84 : decode cX11_needed 84 = .ok (.aload_n 0, 1) := by decide +kernel
theorem dX11_needed_85 : decode cX11_needed 85 = .ok (.getfield 31, 3) := by decide +kernel
theorem dX11_needed_88 : decode cX11_needed 88 = .ok (.bipush 36, 2) := by decide +kernel
theorem dX11_needed_90 : decode cX11_needed 90 = .ok (.iaload, 1) := by decide +kernel
theorem dX11_needed_91 : decode cX11_needed 91 = .ok (.invokevirtual 302, 3) := by decide +kernel
theorem dX11_needed_94 : decode cX11_needed 94 = .ok (.aload_n 0, 1) := by decide +kernel
theorem dX11_needed_95 : decode cX11_needed 95 = .ok (.invokevirtual 392, 3) := by decide +kernel
theorem dX11_needed_98 : decode cX11_needed 98 = .ok (.istore_n 2, 1) := by decide +kernel
theorem dX11_needed_99 : decode cX11_needed 99 = .ok (.iconst 0, 1) := by decide +kernel
theorem dX11_needed_100 : decode cX11_needed 100 = .ok (.istore_n 3, 1) := by decide +kernel
theorem dX11_needed_101 : decode cX11_needed 101 = .ok (.iconst 0, 1) := by decide +kernel
theorem dX11_needed_102 : decode cX11_needed 102 = .ok (.istore 4, 2) := by decide +kernel
theorem dX11_needed_104 : decode cX11_needed 104 = .ok (.iload 4, 2) := by decide +kernel
theorem dX11_needed_106 : decode cX11_needed 106 = .ok (.bipush 8, 2) := by decide +kernel
theorem dX11_needed_108 : decode cX11_needed 108 = .ok (.if_icmp .ge 43, 3) := by decide +kernel
theorem dX11_needed_111 : decode cX11_needed 111 = .ok (.iload_n 3, 1) := by decide +kernel
theorem dX11_needed_112 : decode cX11_needed 112 = .ok (.iload_n 2, 1) := by decide +kernel
theorem dX11_needed_113 : decode cX11_needed 113 = .ok (.iload 4, 2) := by decide +kernel
theorem dX11_needed_115 : decode cX11_needed 115 = .ok (.invokestatic 262, 3) := by decide +kernel
theorem dX11_needed_118 : decode cX11_needed 118 = .ok (.ifCond .eq 21, 3) := by decide +kernel
theorem dX11_needed_121 : decode cX11_needed 121 = .ok (.aload_n 0, 1) := by decide +kernel
theorem dX11_needed_122 : decode cX11_needed 122 = .ok (.iload 4, 2) := by decide +kernel
theorem dX11_needed_124 : decode cX11_needed 124 = .ok (.invokevirtual 308, 3) := by decide +kernel
theorem dX11_needed_127 : decode cX11_needed 127 = .ok (.invokestatic 395, 3) := by decide +kernel
theorem dX11_needed_130 : decode cX11_needed 130 = .ok (.iload 4, 2) := by decide +kernel
theorem dX11_needed_132 : decode cX11_needed 132 = .ok (.if_icmp .ne 7, 3) := by decide +kernel
theorem dX11_needed_135 : decode cX11_needed 135 = .ok (.iconst 1, 1) := by decide +kernel
theorem dX11_needed_136 : decode cX11_needed 136 = .ok (.goto 4, 3) := by decide +kernel
theorem dX11_needed_139 : decode cX11_needed 139 = .ok (.iconst 0, 1) := by decide +kernel
theorem dX11_needed_140 : decode cX11_needed 140 = .ok (.invokestatic 155, 3) := by decide +kernel
theorem dX11_needed_143 : decode cX11_needed 143 = .ok (.iadd, 1) := by decide +kernel
theorem dX11_needed_144 : decode cX11_needed 144 = .ok (.istore_n 3, 1) := by decide +kernel
theorem dX11_needed_145 : decode cX11_needed 145 = .ok (.iinc 4 1, 3) := by decide +kernel
theorem dX11_needed_148 : decode cX11_needed 148 = .ok (.goto (-44), 3) := by decide +kernel
theorem dX11_needed_151 : decode cX11_needed 151 = .ok (.aload_n 0, 1) := by decide +kernel
theorem dX11_needed_152 : decode cX11_needed 152 = .ok (.iconst 0, 1) := by decide +kernel
theorem dX11_needed_153 : decode cX11_needed 153 = .ok (.putfield 15, 3) := by decide +kernel
theorem dX11_needed_156 : decode cX11_needed 156 = .ok (.aload_n 0, 1) := by decide +kernel
theorem dX11_needed_157 : decode cX11_needed 157 = .ok (.iload_n 1, 1) := by decide +kernel
theorem dX11_needed_158 : decode cX11_needed 158 = .ok (.invokestatic 355, 3) := by decide +kernel
theorem dX11_needed_161 : decode cX11_needed 161 = .ok (.i2l, 1) := by decide +kernel
theorem dX11_needed_162 : decode cX11_needed 162 = .ok (.invokevirtual 340, 3) := by decide +kernel
theorem dX11_needed_165 : decode cX11_needed 165 = .ok (.aload_n 0, 1) := by decide +kernel
theorem dX11_needed_166 : decode cX11_needed 166 = .ok (.iload_n 2, 1) := by decide +kernel
theorem dX11_needed_167 : decode cX11_needed 167 = .ok (.invokestatic 355, 3) := by decide +kernel
theorem dX11_needed_170 : decode cX11_needed 170 = .ok (.i2l, 1) := by decide +kernel
theorem dX11_needed_171 : decode cX11_needed 171 = .ok (.invokevirtual 340, 3) := by decide +kernel
theorem dX11_needed_174 : decode cX11_needed 174 = .ok (.aload_n 0, 1) := by decide +kernel
theorem dX11_needed_175 : decode cX11_needed 175 = .ok (.iload_n 3, 1) := by decide +kernel
theorem dX11_needed_176 : decode cX11_needed 176 = .ok (.i2l, 1) := by decide +kernel
theorem dX11_needed_177 : decode cX11_needed 177 = .ok (.invokevirtual 340, 3) := by decide +kernel
theorem dX11_needed_180 : decode cX11_needed 180 = .ok (.iload_n 1, 1) := by decide +kernel
theorem dX11_needed_181 : decode cX11_needed 181 = .ok (.ireturn, 1) := by decide +kernel
theorem dX11_place_0 : decode cX11_place 0 = .ok (.bipush 8, 2) := by decide +kernel
theorem dX11_place_2 : decode cX11_place 2 = .ok (.iload_n 0, 1) := by decide +kernel
theorem dX11_place_3 : decode cX11_place 3 = .ok (.imul, 1) := by decide +kernel
theorem dX11_place_4 : decode cX11_place 4 = .ok (.iload_n 1, 1) := by decide +kernel
theorem dX11_place_5 : decode cX11_place 5 = .ok (.iadd, 1) := by decide +kernel
theorem dX11_place_6 : decode cX11_place 6 = .ok (.ireturn, 1) := by decide +kernel
theorem dX11_tour_0 : decode cX11_tour 0 = .ok (.aload_n 0, 1) := by decide +kernel
theorem dX11_tour_1 : decode cX11_tour 1 = .ok (.iconst 0, 1) := by decide +kernel
theorem dX11_tour_2 : decode cX11_tour 2 = .ok (.putfield 3, 3) := by decide +kernel
theorem dX11_tour_5 : decode cX11_tour 5 = .ok (.iload_n 1, 1) := by decide +kernel
theorem dX11_tour_6 : decode cX11_tour 6 = .ok (.invokestatic 256, 3) := by decide +kernel
theorem dX11_tour_9 : decode cX11_tour 9 = .ok (.ifCond .eq 15, 3) := by decide +kernel
theorem dX11_tour_12 : decode cX11_tour 12 = .ok (.iload_n 2, 1) := by decide +kernel
theorem dX11_tour_13 : decode cX11_tour 13 = .ok (.i2l, 1) := by decide +kernel
theorem dX11_tour_14 : decode cX11_tour 14 = .ok (.lconst 0, 1) := by decide +kernel
theorem dX11_tour_15 : decode cX11_tour 15 = .ok (.ldc2_w 398, 3) := by decide +kernel
theorem dX11_tour_18 : decode cX11_tour 18 = .ok (.invokestatic 131, 3) := by decide +kernel
theorem dX11_tour_21 : decode cX11_tour 21 = .ok (.ifCond .ne 5, 3) := by decide +kernel
theorem dX11_tour_24 : decode cX11_tour 24 = .ok (.iconst (-1), 1) := by decide +kernel
theorem dX11_tour_25 : decode cX11_tour 25 = .ok (.ireturn, 1) := by decide +kernel
theorem dX11_tour_26 : decode cX11_tour 26 = .ok (.aload_n 0, 1) := by decide +kernel
theorem dX11_tour_27 : decode cX11_tour 27 = .ok (.aload_n 0, 1) := by decide +kernel
theorem dX11_tour_28 : decode cX11_tour 28 = .ok (.getfield 31, 3) := by decide +kernel
theorem dX11_tour_31 : decode cX11_tour 31 = .ok (.bipush 36, 2) := by decide +kernel
theorem dX11_tour_33 : decode cX11_tour 33 = .ok (.iaload, 1) := by decide +kernel
theorem dX11_tour_34 : decode cX11_tour 34 = .ok (.invokevirtual 302, 3) := by decide +kernel
theorem dX11_tour_37 : decode cX11_tour 37 = .ok (.iload_n 2, 1) := by decide +kernel
theorem dX11_tour_38 : decode cX11_tour 38 = .ok (.iconst 1, 1) := by decide +kernel
theorem dX11_tour_39 : decode cX11_tour 39 = .ok (.iload_n 1, 1) := by decide +kernel
theorem dX11_tour_40 : decode cX11_tour 40 = .ok (.ishl, 1) := by decide +kernel
theorem dX11_tour_41 : decode cX11_tour 41 = .ok (.iconst (-1), 1) := by decide +kernel
theorem dX11_tour_42 : decode cX11_tour 42 = .ok (.ixor, 1) := by decide +kernel
theorem dX11_tour_43 : decode cX11_tour 43 = .ok (.iand, 1) := by decide +kernel
theorem dX11_tour_44 : decode cX11_tour 44 = .ok (.istore_n 3, 1) := by decide +kernel
theorem dX11_tour_45 : decode cX11_tour 45 = .ok (.iload_n 3, 1) := by decide +kernel
theorem dX11_tour_46 : decode cX11_tour 46 = .ok (.aload_n 0, 1) := by decide +kernel
theorem dX11_tour_47 : decode cX11_tour 47 = .ok (.iload_n 1, 1) := by decide +kernel
theorem dX11_tour_48 : decode cX11_tour 48 = .ok (.invokevirtual 308, 3) := by decide +kernel
theorem dX11_tour_51 : decode cX11_tour 51 = .ok (.iconst (-1), 1) := by decide +kernel
theorem dX11_tour_52 : decode cX11_tour 52 = .ok (.ixor, 1) := by decide +kernel
theorem dX11_tour_53 : decode cX11_tour 53 = .ok (.iand, 1) := by decide +kernel
theorem dX11_tour_54 : decode cX11_tour 54 = .ok (.ifCond .eq 6, 3) := by decide +kernel
theorem dX11_tour_57 : decode cX11_tour 57 = .ok (.bipush (-2), 2) := by decide +kernel
theorem dX11_tour_59 : decode cX11_tour 59 = .ok (.ireturn, 1) := by decide +kernel
theorem dX11_tour_60 : decode cX11_tour 60 = .ok (.iconst 0, 1) := by decide +kernel
theorem dX11_tour_61 : decode cX11_tour 61 = .ok (.istore 4, 2) := by decide +kernel
theorem dX11_tour_63 : decode cX11_tour 63 = .ok (.iload 4, 2) := by decide +kernel
theorem dX11_tour_65 : decode cX11_tour 65 = .ok (.sipush 256, 3) := by decide +kernel
theorem dX11_tour_68 : decode cX11_tour 68 = .ok (.if_icmp .ge 125, 3) := by decide +kernel
theorem dX11_tour_71 : decode cX11_tour 71 = .ok (.iconst 0, 1) := by decide +kernel
theorem dX11_tour_72 : decode cX11_tour 72 = .ok (.istore 5, 2) := by decide +kernel
theorem dX11_tour_74 : decode cX11_tour 74 = .ok (.iload 5, 2) := by decide +kernel
theorem dX11_tour_76 : decode cX11_tour 76 = .ok (.bipush 8, 2) := by decide +kernel
theorem dX11_tour_78 : decode cX11_tour 78 = .ok (.if_icmp .ge 109, 3) := by decide +kernel
theorem dX11_tour_81 : decode cX11_tour 81 = .ok (.iload 4, 2) := by decide +kernel
theorem dX11_tour_83 : decode cX11_tour 83 = .ok (.ifCond .ne 13, 3) := by decide +kernel
theorem dX11_tour_86 : decode cX11_tour 86 = .ok (.aload_n 0, 1) := by decide +kernel
theorem dX11_tour_87 : decode cX11_tour 87 = .ok (.iload 5, 2) := by decide +kernel
theorem dX11_tour_89 : decode cX11_tour 89 = .ok (.iload_n 1, 1) := by decide +kernel
theorem dX11_tour_90 : decode cX11_tour 90 = .ok (.invokevirtual 291, 3) := by decide +kernel
theorem dX11_tour_93 : decode cX11_tour 93 = .ok (.goto 6, 3) := by decide +kernel
theorem dX11_tour_96 : decode cX11_tour 96 = .ok (.ldc_w 290, 3) := by decide +kernel
theorem dX11_tour_99 : decode cX11_tour 99 = .ok (.istore 6, 2) := by decide +kernel
theorem dX11_tour_101 : decode cX11_tour 101 = .ok (.iconst 0, 1) := by decide +kernel
theorem dX11_tour_102 : decode cX11_tour 102 = .ok (.istore 7, 2) := by decide +kernel
theorem dX11_tour_104 : decode cX11_tour 104 = .ok (.iload 7, 2) := by decide +kernel
theorem dX11_tour_106 : decode cX11_tour 106 = .ok (.bipush 8, 2) := by decide +kernel
theorem dX11_tour_108 : decode cX11_tour 108 = .ok (.if_icmp .ge 59, 3) := by decide +kernel
theorem dX11_tour_111 : decode cX11_tour 111 = .ok (.iload 4, 2) := by decide +kernel
theorem dX11_tour_113 : decode cX11_tour 113 = .ok (.iload 7, 2) := by decide +kernel
theorem dX11_tour_115 : decode cX11_tour 115 = .ok (.invokestatic 262, 3) := by decide +kernel
theorem dX11_tour_118 : decode cX11_tour 118 = .ok (.ifCond .eq 39, 3) := by decide +kernel
theorem dX11_tour_121 : decode cX11_tour 121 = .ok (.iload 6, 2) := by decide +kernel
theorem dX11_tour_123 : decode cX11_tour 123 = .ok (.aload_n 0, 1) := by decide +kernel
theorem dX11_tour_124 : decode cX11_tour 124 = .ok (.iload 5, 2) := by decide +kernel
theorem dX11_tour_126 : decode cX11_tour 126 = .ok (.iload 7, 2) := by decide +kernel
theorem dX11_tour_128 : decode cX11_tour 128 = .ok (.invokevirtual 291, 3) := by decide +kernel
theorem dX11_tour_131 : decode cX11_tour 131 = .ok (.aload_n 0, 1) := by decide +kernel
theorem dX11_tour_132 : decode cX11_tour 132 = .ok (.getfield 89, 3) := by decide +kernel
theorem dX11_tour_135 : decode cX11_tour 135 = .ok (.iload 4, 2) := by decide +kernel
theorem dX11_tour_137 : decode cX11_tour 137 = .ok (.iconst 1, 1) := by decide +kernel
theorem dX11_tour_138 : decode cX11_tour 138 = .ok (.iload 7, 2) := by decide +kernel
theorem dX11_tour_140 : decode cX11_tour 140 = .ok (.ishl, 1) := by decide +kernel
theorem dX11_tour_141 : decode cX11_tour 141 = .ok (.iconst (-1), 1) := by decide +kernel
theorem dX11_tour_142 : decode cX11_tour 142 = .ok (.ixor, 1) := by decide +kernel
theorem dX11_tour_143 : decode cX11_tour 143 = .ok (.iand, 1) := by decide +kernel
theorem dX11_tour_144 : decode cX11_tour 144 = .ok (.iload 7, 2) := by decide +kernel
theorem dX11_tour_146 : decode cX11_tour 146 = .ok (.invokestatic 400, 3) := by decide +kernel
theorem dX11_tour_149 : decode cX11_tour 149 = .ok (.iaload, 1) := by decide +kernel
theorem dX11_tour_150 : decode cX11_tour 150 = .ok (.iadd, 1) := by decide +kernel
theorem dX11_tour_151 : decode cX11_tour 151 = .ok (.invokestatic 146, 3) := by decide +kernel
theorem dX11_tour_154 : decode cX11_tour 154 = .ok (.goto 5, 3) := by decide +kernel
theorem dX11_tour_157 : decode cX11_tour 157 = .ok (.iload 6, 2) := by decide +kernel
