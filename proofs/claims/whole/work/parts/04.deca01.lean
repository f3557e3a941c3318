theorem dX0_init_0 : decode cX0_init 0 = .ok (.aload_n 0, 1) := by decide +kernel
theorem dX0_init_1 : decode cX0_init 1 = .ok (.invokespecial 3, 3) := by decide +kernel
theorem dX0_init_4 : decode cX0_init 4 = .ok (.aload_n 0, 1) := by decide +kernel
theorem dX0_init_5 : decode cX0_init 5 = .ok (.bipush 12, 2) := by decide +kernel
theorem dX0_init_7 : decode cX0_init 7 = .ok (.newarray .int, 2) := by decide +kernel
theorem dX0_init_9 : decode cX0_init 9 = .ok (.putfield 9, 3) := by decide +kernel
theorem dX0_init_12 : decode cX0_init 12 = .ok (.aload_n 0, 1) := by decide +kernel
theorem dX0_init_13 : decode cX0_init 13 = .ok (.bipush 12, 2) := by decide +kernel
theorem dX0_init_15 : decode cX0_init 15 = .ok (.newarray .int, 2) := by decide +kernel
theorem dX0_init_17 : decode cX0_init 17 = .ok (.putfield 15, 3) := by decide +kernel
theorem dX0_init_20 : decode cX0_init 20 = .ok (.aload_n 0, 1) := by decide +kernel
theorem dX0_init_21 : decode cX0_init 21 = .ok (.iconst 0, 1) := by decide +kernel
theorem dX0_init_22 : decode cX0_init 22 = .ok (.putfield 18, 3) := by decide +kernel
theorem dX0_init_25 : decode cX0_init 25 = .ok (.aload_n 0, 1) := by decide +kernel
theorem dX0_init_26 : decode cX0_init 26 = .ok (.new 22, 3) := by decide +kernel
theorem dX0_init_29 : decode cX0_init 29 = .ok (.dup, 1) := by decide +kernel
theorem dX0_init_30 : decode cX0_init 30 = .ok (.invokespecial 24, 3) := by decide +kernel
theorem dX0_init_33 : decode cX0_init 33 = .ok (.putfield 25, 3) := by decide +kernel
theorem dX0_init_36 : decode cX0_init 36 = .ok (.return_, 1) := by decide +kernel
theorem dX0_add_0 : decode cX0_add 0 = .ok (.aload_n 0, 1) := by decide +kernel
theorem dX0_add_1 : decode cX0_add 1 = .ok (.getfield 18, 3) := by decide +kernel
theorem dX0_add_4 : decode cX0_add 4 = .ok (.bipush 12, 2) := by decide +kernel
theorem dX0_add_6 : decode cX0_add 6 = .ok (.if_icmp .lt 4, 3) := by decide +kernel
theorem dX0_add_9 : decode cX0_add 9 = .ok (.return_, 1) := by decide +kernel
theorem dX0_add_10 : decode cX0_add 10 = .ok (.aload_n 0, 1) := by decide +kernel
theorem dX0_add_11 : decode cX0_add 11 = .ok (.getfield 9, 3) := by decide +kernel
theorem dX0_add_14 : decode cX0_add 14 = .ok (.aload_n 0, 1) := by decide +kernel
theorem dX0_add_15 : decode cX0_add 15 = .ok (.getfield 18, 3) := by decide +kernel
theorem dX0_add_18 : decode cX0_add 18 = .ok (.iload_n 1, 1) := by decide +kernel
theorem dX0_add_19 : decode cX0_add 19 = .ok (.iastore, 1) := by decide +kernel
theorem dX0_add_20 : decode cX0_add 20 = .ok (.aload_n 0, 1) := by decide +kernel
theorem dX0_add_21 : decode cX0_add 21 = .ok (.getfield 15, 3) := by decide +kernel
theorem dX0_add_24 : decode cX0_add 24 = .ok (.aload_n 0, 1) := by decide +kernel
theorem dX0_add_25 : decode cX0_add 25 = .ok (.getfield 18, 3) := by decide +kernel
theorem dX0_add_28 : decode cX0_add 28 = .ok (.iload_n 2, 1) := by decide +kernel
theorem dX0_add_29 : decode cX0_add 29 = .ok (.iastore, 1) := by decide +kernel
theorem dX0_add_30 : decode cX0_add 30 = .ok (.aload_n 0, 1) := by decide +kernel
theorem dX0_add_31 : decode cX0_add 31 = .ok (.getfield 25, 3) := by decide +kernel
theorem dX0_add_34 : decode cX0_add 34 = .ok (.getfield 29, 3) := by decide +kernel
theorem dX0_add_37 : decode cX0_add 37 = .ok (.aload_n 0, 1) := by decide +kernel
theorem dX0_add_38 : decode cX0_add 38 = .ok (.getfield 18, 3) := by decide +kernel
theorem dX0_add_41 : decode cX0_add 41 = .ok (.iload_n 3, 1) := by decide +kernel
theorem dX0_add_42 : decode cX0_add 42 = .ok (.iastore, 1) := by decide +kernel
theorem dX0_add_43 : decode cX0_add 43 = .ok (.aload_n 0, 1) := by decide +kernel
theorem dX0_add_44 : decode cX0_add 44 = .ok (.getfield 25, 3) := by decide +kernel
theorem dX0_add_47 : decode cX0_add 47 = .ok (.getfield 32, 3) := by decide +kernel
theorem dX0_add_50 : decode cX0_add 50 = .ok (.aload_n 0, 1) := by decide +kernel
theorem dX0_add_51 : decode cX0_add 51 = .ok (.getfield 18, 3) := by decide +kernel
theorem dX0_add_54 : decode cX0_add 54 = .ok (.iload 4, 2) := by decide +kernel
theorem dX0_add_56 : decode cX0_add 56 = .ok (.iastore, 1) := by decide +kernel
theorem dX0_add_57 : decode cX0_add 57 = .ok (.aload_n 0, 1) := by decide +kernel
theorem dX0_add_58 : decode cX0_add 58 = .ok (.getfield 25, 3) := by decide +kernel
theorem dX0_add_61 : decode cX0_add 61 = .ok (.getfield 35, 3) := by decide +kernel
theorem dX0_add_64 : decode cX0_add 64 = .ok (.aload_n 0, 1) := by decide +kernel
theorem dX0_add_65 : decode cX0_add 65 = .ok (.getfield 18, 3) := by decide +kernel
theorem dX0_add_68 : decode cX0_add 68 = .ok (.iconst 0, 1) := by decide +kernel
theorem dX0_add_69 : decode cX0_add 69 = .ok (.iastore, 1) := by decide +kernel
theorem dX0_add_70 : decode cX0_add 70 = .ok (.aload_n 0, 1) := by decide +kernel
theorem dX0_add_71 : decode cX0_add 71 = .ok (.getfield 25, 3) := by decide +kernel
theorem dX0_add_74 : decode cX0_add 74 = .ok (.dup, 1) := by decide +kernel
theorem dX0_add_75 : decode cX0_add 75 = .ok (.getfield 38, 3) := by decide +kernel
theorem dX0_add_78 : decode cX0_add 78 = .ok (.iconst 1, 1) := by decide +kernel
theorem dX0_add_79 : decode cX0_add 79 = .ok (.aload_n 0, 1) := by decide +kernel
theorem dX0_add_80 : decode cX0_add 80 = .ok (.getfield 18, 3) := by decide +kernel
theorem dX0_add_83 : decode cX0_add 83 = .ok (.ishl, 1) := by decide +kernel
theorem dX0_add_84 : decode cX0_add 84 = .ok (.ior, 1) := by decide +kernel
theorem dX0_add_85 : decode cX0_add 85 = .ok (.putfield 38, 3) := by decide +kernel
theorem dX0_add_88 : decode cX0_add 88 = .ok (.aload_n 0, 1) := by decide +kernel
theorem dX0_add_89 : decode cX0_add 89 = .ok (.dup, 1) := by decide +kernel
theorem dX0_add_90 : decode cX0_add 90 = .ok (.getfield 18, 3) := by decide +kernel
theorem dX0_add_93 : decode cX0_add 93 = .ok (.iconst 1, 1) := by decide +kernel
theorem dX0_add_94 : decode cX0_add 94 = .ok (.iadd, 1) := by decide +kernel
theorem dX0_add_95 : decode cX0_add 95 = .ok (.putfield 18, 3) := by decide +kernel
theorem dX0_add_98 : decode cX0_add 98 = .ok (.return_, 1) := by decide +kernel
theorem dX0_has_0 : decode cX0_has 0 = .ok (.iload_n 1, 1) := by decide +kernel
theorem dX0_has_1 : decode cX0_has 1 = .ok (.ifCond .lt 15, 3) := by decide +kernel
theorem dX0_has_4 : decode cX0_has 4 = .ok (.iload_n 1, 1) := by decide +kernel
theorem dX0_has_5 : decode cX0_has 5 = .ok (.aload_n 0, 1) := by decide +kernel
theorem dX0_has_6 : decode cX0_has 6 = .ok (.getfield 18, 3) := by decide +kernel
theorem dX0_has_9 : decode cX0_has 9 = .ok (.if_icmp .ge 7, 3) := by decide +kernel
theorem dX0_has_12 : decode cX0_has 12 = .ok (.iconst 1, 1) := by decide +kernel
theorem dX0_has_13 : decode cX0_has 13 = .ok (.goto 4, 3) := by decide +kernel
theorem dX0_has_16 : decode cX0_has 16 = .ok (.iconst 0, 1) := by decide +kernel
theorem dX0_has_17 : decode cX0_has 17 = .ok (.ireturn, 1) := by decide +kernel
theorem dX0_isOpen_0 : decode cX0_isOpen 0 = .ok (.aload_n 0, 1) := by decide +kernel
theorem dX0_isOpen_1 : decode cX0_isOpen 1 = .ok (.getfield 25, 3) := by decide +kernel
theorem dX0_isOpen_4 : decode cX0_isOpen 4 = .ok (.getfield 38, 3) := by decide +kernel
theorem dX0_isOpen_7 : decode cX0_isOpen 7 = .ok (.iload_n 1, 1) := by decide +kernel
theorem dX0_isOpen_8 : decode cX0_isOpen 8 = .ok (.ishr, 1) := by decide +kernel
theorem dX0_isOpen_9 : decode cX0_isOpen 9 = .ok (.iconst 1, 1) := by decide +kernel
theorem dX0_isOpen_10 : decode cX0_isOpen 10 = .ok (.iand, 1) := by decide +kernel
theorem dX0_isOpen_11 : decode cX0_isOpen 11 = .ok (.iconst 1, 1) := by decide +kernel
theorem dX0_isOpen_12 : decode cX0_isOpen 12 = .ok (.if_icmp .ne 7, 3) := by decide +kernel
theorem dX0_isOpen_15 : decode cX0_isOpen 15 = .ok (.iconst 1, 1) := by decide +kernel
theorem dX0_isOpen_16 : decode cX0_isOpen 16 = .ok (.goto 4, 3) := by decide +kernel
theorem dX0_isOpen_19 : decode cX0_isOpen 19 = .ok (.iconst 0, 1) := by decide +kernel
theorem dX0_isOpen_20 : decode cX0_isOpen 20 = .ok (.ireturn, 1) := by decide +kernel
theorem dX0_isEnd_0 : decode cX0_isEnd 0 = .ok (.aload_n 0, 1) := by decide +kernel
theorem dX0_isEnd_1 : decode cX0_isEnd 1 = .ok (.getfield 9, 3) := by decide +kernel
theorem dX0_isEnd_4 : decode cX0_isEnd 4 = .ok (.iload_n 2, 1) := by decide +kernel
theorem dX0_isEnd_5 : decode cX0_isEnd 5 = .ok (.iaload, 1) := by decide +kernel
theorem dX0_isEnd_6 : decode cX0_isEnd 6 = .ok (.iload_n 1, 1) := by decide +kernel
theorem dX0_isEnd_7 : decode cX0_isEnd 7 = .ok (.if_icmp .eq 13, 3) := by decide +kernel
theorem dX0_isEnd_10 : decode cX0_isEnd 10 = .ok (.aload_n 0, 1) := by decide +kernel
theorem dX0_isEnd_11 : decode cX0_isEnd 11 = .ok (.getfield 15, 3) := by decide +kernel
theorem dX0_isEnd_14 : decode cX0_isEnd 14 = .ok (.iload_n 2, 1) := by decide +kernel
theorem dX0_isEnd_15 : decode cX0_isEnd 15 = .ok (.iaload, 1) := by decide +kernel
theorem dX0_isEnd_16 : decode cX0_isEnd 16 = .ok (.iload_n 1, 1) := by decide +kernel
theorem dX0_isEnd_17 : decode cX0_isEnd 17 = .ok (.if_icmp .ne 7, 3) := by decide +kernel
theorem dX0_isEnd_20 : decode cX0_isEnd 20 = .ok (.iconst 1, 1) := by decide +kernel
theorem dX0_isEnd_21 : decode cX0_isEnd 21 = .ok (.goto 4, 3) := by decide +kernel
theorem dX0_isEnd_24 : decode cX0_isEnd 24 = .ok (.iconst 0, 1) := by decide +kernel
theorem dX0_isEnd_25 : decode cX0_isEnd 25 = .ok (.ireturn, 1) := by decide +kernel
theorem dX0_acrossFrom_0 : decode cX0_acrossFrom 0 = .ok (.aload_n 0, 1) := by decide +kernel
theorem dX0_acrossFrom_1 : decode cX0_acrossFrom 1 = .ok (.getfield 9, 3) := by decide +kernel
theorem dX0_acrossFrom_4 : decode cX0_acrossFrom 4 = .ok (.iload_n 2, 1) := by decide +kernel
theorem dX0_acrossFrom_5 : decode cX0_acrossFrom 5 = .ok (.iaload, 1) := by decide +kernel
theorem dX0_acrossFrom_6 : decode cX0_acrossFrom 6 = .ok (.iload_n 1, 1) := by decide +kernel
theorem dX0_acrossFrom_7 : decode cX0_acrossFrom 7 = .ok (.if_icmp .ne 12, 3) := by decide +kernel
theorem dX0_acrossFrom_10 : decode cX0_acrossFrom 10 = .ok (.aload_n 0, 1) := by decide +kernel
theorem dX0_acrossFrom_11 : decode cX0_acrossFrom 11 = .ok (.getfield 15, 3) := by decide +kernel
theorem dX0_acrossFrom_14 : decode cX0_acrossFrom 14 = .ok (.iload_n 2, 1) := by decide +kernel
theorem dX0_acrossFrom_15 : decode cX0_acrossFrom 15 = .ok (.iaload, 1) := by decide +kernel
theorem dX0_acrossFrom_16 : decode cX0_acrossFrom 16 = .ok (.goto 9, 3) := by decide +kernel
theorem dX0_acrossFrom_19 : decode cX0_acrossFrom 19 = .ok (.aload_n 0, 1) := by decide +kernel
theorem dX0_acrossFrom_20 : decode cX0_acrossFrom 20 = .ok (.getfield 9, 3) := by decide +kernel
theorem dX0_acrossFrom_23 : decode cX0_acrossFrom 23 = .ok (.iload_n 2, 1) := by decide +kernel
theorem dX0_acrossFrom_24 : decode cX0_acrossFrom 24 = .ok (.iaload, 1) := by decide +kernel
theorem dX0_acrossFrom_25 : decode cX0_acrossFrom 25 = .ok (.ireturn, 1) := by decide +kernel
theorem dX0_endsOf_0 : decode cX0_endsOf 0 = .ok (.iconst 1, 1) := by decide +kernel
theorem dX0_endsOf_1 : decode cX0_endsOf 1 = .ok (.aload_n 0, 1) := by decide +kernel
theorem dX0_endsOf_2 : decode cX0_endsOf 2 = .ok (.getfield 9, 3) := by decide +kernel
theorem dX0_endsOf_5 : decode cX0_endsOf 5 = .ok (.iload_n 1, 1) := by decide +kernel
theorem dX0_endsOf_6 : decode cX0_endsOf 6 = .ok (.iaload, 1) := by decide +kernel
theorem dX0_endsOf_7 : decode cX0_endsOf 7 = .ok (.ishl, 1) := by decide +kernel
theorem dX0_endsOf_8 : decode cX0_endsOf 8 = .ok (.iconst 1, 1) := by decide +kernel
theorem dX0_endsOf_9 : decode cX0_endsOf 9 = .ok (.aload_n 0, 1) := by decide +kernel
theorem dX0_endsOf_10 : decode cX0_endsOf 10 = .ok (.getfield 15, 3) := by decide +kernel
theorem dX0_endsOf_13 : decode cX0_endsOf 13 = .ok (.iload_n 1, 1) := by decide +kernel
theorem dX0_endsOf_14 : decode cX0_endsOf 14 = .ok (.iaload, 1) := by decide +kernel
theorem dX0_endsOf_15 : decode cX0_endsOf 15 = .ok (.ishl, 1) := by decide +kernel
theorem dX0_endsOf_16 : decode cX0_endsOf 16 = .ok (.ior, 1) := by decide +kernel
theorem dX0_endsOf_17 : decode cX0_endsOf 17 = .ok (.ireturn, 1) := by decide +kernel
theorem dX0_endingAt_0 : decode cX0_endingAt 0 = .ok (.iconst 0, 1) := by decide +kernel
theorem dX0_endingAt_1 : decode cX0_endingAt 1 = .ok (.istore_n 2, 1) := by decide +kernel
theorem dX0_endingAt_2 : decode cX0_endingAt 2 = .ok (.iconst 0, 1) := by decide +kernel
theorem dX0_endingAt_3 : decode cX0_endingAt 3 = .ok (.istore_n 3, 1) := by decide +kernel
theorem dX0_endingAt_4 : decode cX0_endingAt 4 = .ok (.iload_n 3, 1) := by decide +kernel
theorem dX0_endingAt_5 : decode cX0_endingAt 5 = .ok (.aload_n 0, 1) := by decide +kernel
theorem dX0_endingAt_6 : decode cX0_endingAt 6 = .ok (.getfield 18, 3) := by decide +kernel
theorem dX0_endingAt_9 : decode cX0_endingAt 9 = .ok (.if_icmp .ge 24, 3) := by decide +kernel
theorem dX0_endingAt_12 : decode cX0_endingAt 12 = .ok (.aload_n 0, 1) := by decide +kernel
theorem dX0_endingAt_13 : decode cX0_endingAt 13 = .ok (.iload_n 1, 1) := by decide +kernel
theorem dX0_endingAt_14 : decode cX0_endingAt 14 = .ok (.iload_n 3, 1) := by decide +kernel
theorem dX0_endingAt_15 : decode cX0_endingAt 15 = .ok (.invokevirtual 41, 3) := by decide +kernel
theorem dX0_endingAt_18 : decode cX0_endingAt 18 = .ok (.ifCond .eq 9, 3) := by decide +kernel
theorem dX0_endingAt_21 : decode cX0_endingAt 21 = .ok (.iload_n 2, 1) := by decide +kernel
theorem dX0_endingAt_22 : decode cX0_endingAt 22 = .ok (.iconst 1, 1) := by decide +kernel
theorem dX0_endingAt_23 : decode cX0_endingAt 23 = .ok (.iload_n 3, 1) := by decide +kernel
theorem dX0_endingAt_24 : decode cX0_endingAt 24 = .ok (.ishl, 1) := by decide +kernel
theorem dX0_endingAt_25 : decode cX0_endingAt 25 = .ok (.ior, 1) := by decide +kernel
theorem dX0_endingAt_26 : decode cX0_endingAt 26 = .ok (.istore_n 2, 1) := by decide +kernel
theorem dX0_endingAt_27 : decode cX0_endingAt 27 = .ok (.iinc 3 1, 3) := by decide +kernel
theorem dX0_endingAt_30 : decode cX0_endingAt 30 = .ok (.goto (-26), 3) := by decide +kernel
theorem dX0_endingAt_33 : decode cX0_endingAt 33 = .ok (.iload_n 2, 1) := by decide +kernel
theorem dX0_endingAt_34 : decode cX0_endingAt 34 = .ok (.ireturn, 1) := by decide +kernel
theorem dX0_openOf_0 : decode cX0_openOf 0 = .ok (.aload_n 0, 1) := by decide +kernel
theorem dX0_openOf_1 : decode cX0_openOf 1 = .ok (.iload_n 1, 1) := by decide +kernel
theorem dX0_openOf_2 : decode cX0_openOf 2 = .ok (.invokevirtual 45, 3) := by decide +kernel
theorem dX0_openOf_5 : decode cX0_openOf 5 = .ok (.aload_n 0, 1) := by decide +kernel
theorem dX0_openOf_6 : decode cX0_openOf 6 = .ok (.getfield 25, 3) := by decide +kernel
theorem dX0_openOf_9 : decode cX0_openOf 9 = .ok (.getfield 38, 3) := by decide +kernel
theorem dX0_openOf_12 : decode cX0_openOf 12 = .ok (.iand, 1) := by decide +kernel
theorem dX0_openOf_13 : decode cX0_openOf 13 = .ok (.ireturn, 1) := by decide +kernel
theorem dX0_enteredCaverns_0 : decode cX0_enteredCaverns 0 = .ok (.iconst 0, 1) := by decide +kernel
theorem dX0_enteredCaverns_1 : decode cX0_enteredCaverns 1 = .ok (.istore_n 1, 1) := by decide +kernel
theorem dX0_enteredCaverns_2 : decode cX0_enteredCaverns 2 = .ok (.iconst 0, 1) := by decide +kernel
theorem dX0_enteredCaverns_3 : decode cX0_enteredCaverns 3 = .ok (.istore_n 2, 1) := by decide +kernel
theorem dX0_enteredCaverns_4 : decode cX0_enteredCaverns 4 = .ok (.iload_n 2, 1) := by decide +kernel
theorem dX0_enteredCaverns_5 : decode cX0_enteredCaverns 5 = .ok (.aload_n 0, 1) := by decide +kernel
theorem dX0_enteredCaverns_6 : decode cX0_enteredCaverns 6 = .ok (.getfield 18, 3) := by decide +kernel
theorem dX0_enteredCaverns_9 : decode cX0_enteredCaverns 9 = .ok (.if_icmp .ge 25, 3) := by decide +kernel
theorem dX0_enteredCaverns_12 : decode cX0_enteredCaverns 12 = .ok (.aload_n 0, 1) := by decide +kernel
theorem dX0_enteredCaverns_13 : decode cX0_enteredCaverns 13 = .ok (.iload_n 2, 1) := by decide +kernel
theorem dX0_enteredCaverns_14 : decode cX0_enteredCaverns 14 = .ok (.invokevirtual 49, 3) := by decide +kernel
theorem dX0_enteredCaverns_17 : decode cX0_enteredCaverns 17 = .ok (.ifCond .eq 11, 3) := by decide +kernel
theorem dX0_enteredCaverns_20 : decode cX0_enteredCaverns 20 = .ok (.iload_n 1, 1) := by decide +kernel
theorem dX0_enteredCaverns_21 : decode cX0_enteredCaverns 21 = .ok (.aload_n 0, 1) := by decide +kernel
theorem dX0_enteredCaverns_22 : decode cX0_enteredCaverns 22 = .ok (.iload_n 2, 1) := by decide +kernel
theorem dX0_enteredCaverns_23 : decode cX0_enteredCaverns 23 = .ok (.invokevirtual 53, 3) := by decide +kernel
theorem dX0_enteredCaverns_26 : decode cX0_enteredCaverns 26 = .ok (.ior, 1) := by decide +kernel
theorem dX0_enteredCaverns_27 : decode cX0_enteredCaverns 27 = .ok (.istore_n 1, 1) := by decide +kernel
theorem dX0_enteredCaverns_28 : decode cX0_enteredCaverns 28 = .ok (.iinc 2 1, 3) := by decide +kernel
theorem dX0_enteredCaverns_31 : decode cX0_enteredCaverns 31 = .ok (.goto (-27), 3) := by decide +kernel
theorem dX0_enteredCaverns_34 : decode cX0_enteredCaverns 34 = .ok (.iload_n 1, 1) := by decide +kernel
theorem dX0_enteredCaverns_35 : decode cX0_enteredCaverns 35 = .ok (.ireturn, 1) := by decide +kernel
theorem dX0_heal_0 : decode cX0_heal 0 = .ok (.iconst 0, 1) := by decide +kernel
theorem dX0_heal_1 : decode cX0_heal 1 = .ok (.istore_n 2, 1) := by decide +kernel
theorem dX0_heal_2 : decode cX0_heal 2 = .ok (.iload_n 2, 1) := by decide +kernel
theorem dX0_heal_3 : decode cX0_heal 3 = .ok (.aload_n 0, 1) := by decide +kernel
theorem dX0_heal_4 : decode cX0_heal 4 = .ok (.getfield 18, 3) := by decide +kernel
theorem dX0_heal_7 : decode cX0_heal 7 = .ok (.if_icmp .ge 33, 3) := by decide +kernel
theorem dX0_heal_10 : decode cX0_heal 10 = .ok (.aload_n 0, 1) := by decide +kernel
theorem dX0_heal_11 : decode cX0_heal 11 = .ok (.getfield 25, 3) := by decide +kernel
theorem dX0_heal_14 : decode cX0_heal 14 = .ok (.getfield 35, 3) := by decide +kernel
theorem dX0_heal_17 : decode cX0_heal 17 = .ok (.iload_n 2, 1) := by decide +kernel
theorem dX0_heal_18 : decode cX0_heal 18 = .ok (.iconst 0, 1) := by decide +kernel
theorem dX0_heal_19 : decode cX0_heal 19 = .ok (.aload_n 0, 1) := by decide +kernel
theorem dX0_heal_20 : decode cX0_heal 20 = .ok (.getfield 25, 3) := by decide +kernel
theorem dX0_heal_23 : decode cX0_heal 23 = .ok (.getfield 35, 3) := by decide +kernel
theorem dX0_heal_26 : decode cX0_heal 26 = .ok (.iload_n 2, 1) := by decide +kernel
theorem dX0_heal_27 : decode cX0_heal 27 = .ok (.iaload, 1) := by decide +kernel
theorem dX0_heal_28 : decode cX0_heal 28 = .ok (.iload_n 1, 1) := by decide +kernel
theorem dX0_heal_29 : decode cX0_heal 29 = .ok (.isub, 1) := by decide +kernel
theorem dX0_heal_30 : decode cX0_heal 30 = .ok (.invokestatic 56, 3) := by decide +kernel
theorem dX0_heal_33 : decode cX0_heal 33 = .ok (.iastore, 1) := by decide +kernel
theorem dX0_heal_34 : decode cX0_heal 34 = .ok (.iinc 2 1, 3) := by decide +kernel
theorem dX0_heal_37 : decode cX0_heal 37 = .ok (.goto (-35), 3) := by decide +kernel
theorem dX0_heal_40 : decode cX0_heal 40 = .ok (.aload_n 0, 1) := by decide +kernel
theorem dX0_heal_41 : decode cX0_heal 41 = .ok (.getfield 25, 3) := by decide +kernel
theorem dX0_heal_44 : decode cX0_heal 44 = .ok (.dup, 1) := by decide +kernel
theorem dX0_heal_45 : decode cX0_heal 45 = .ok (.getfield 62, 3) := by decide +kernel
theorem dX0_heal_48 : decode cX0_heal 48 = .ok (.iload_n 1, 1) := by decide +kernel
theorem dX0_heal_49 : decode cX0_heal 49 = .ok (.iadd, 1) := by decide +kernel
theorem dX0_heal_50 : decode cX0_heal 50 = .ok (.putfield 62, 3) := by decide +kernel
theorem dX0_heal_53 : decode cX0_heal 53 = .ok (.return_, 1) := by decide +kernel
theorem dX0_wearOut_0 : decode cX0_wearOut 0 = .ok (.iconst 0, 1) := by decide +kernel
theorem dX0_wearOut_1 : decode cX0_wearOut 1 = .ok (.istore_n 2, 1) := by decide +kernel
theorem dX0_wearOut_2 : decode cX0_wearOut 2 = .ok (.iload_n 2, 1) := by decide +kernel
theorem dX0_wearOut_3 : decode cX0_wearOut 3 = .ok (.aload_n 1, 1) := by decide +kernel
theorem dX0_wearOut_4 : decode cX0_wearOut 4 = .ok (.getfield 65, 3) := by decide +kernel
theorem dX0_wearOut_7 : decode cX0_wearOut 7 = .ok (.if_icmp .ge 41, 3) := by decide +kernel
theorem dX0_wearOut_10 : decode cX0_wearOut 10 = .ok (.aload_n 1, 1) := by decide +kernel
theorem dX0_wearOut_11 : decode cX0_wearOut 11 = .ok (.getfield 70, 3) := by decide +kernel
theorem dX0_wearOut_14 : decode cX0_wearOut 14 = .ok (.iload_n 2, 1) := by decide +kernel
theorem dX0_wearOut_15 : decode cX0_wearOut 15 = .ok (.iaload, 1) := by decide +kernel
theorem dX0_wearOut_16 : decode cX0_wearOut 16 = .ok (.istore_n 3, 1) := by decide +kernel
theorem dX0_wearOut_17 : decode cX0_wearOut 17 = .ok (.aload_n 0, 1) := by decide +kernel
theorem dX0_wearOut_18 : decode cX0_wearOut 18 = .ok (.getfield 25, 3) := by decide +kernel
theorem dX0_wearOut_21 : decode cX0_wearOut 21 = .ok (.getfield 35, 3) := by decide +kernel
theorem dX0_wearOut_24 : decode cX0_wearOut 24 = .ok (.iload_n 3, 1) := by decide +kernel
theorem dX0_wearOut_25 : decode cX0_wearOut 25 = .ok (.bipush 9, 2) := by decide +kernel
theorem dX0_wearOut_27 : decode cX0_wearOut 27 = .ok (.aload_n 0, 1) := by decide +kernel
theorem dX0_wearOut_28 : decode cX0_wearOut 28 = .ok (.getfield 25, 3) := by decide +kernel
theorem dX0_wearOut_31 : decode cX0_wearOut 31 = .ok (.getfield 35, 3) := by decide +kernel
theorem dX0_wearOut_34 : decode cX0_wearOut 34 = .ok (.iload_n 3, 1) := by decide +kernel
theorem dX0_wearOut_35 : decode cX0_wearOut 35 = .ok (.iaload, 1) := by decide +kernel
theorem dX0_wearOut_36 : decode cX0_wearOut 36 = .ok (.iconst 1, 1) := by decide +kernel
theorem dX0_wearOut_37 : decode cX0_wearOut 37 = .ok (.iadd, 1) := by decide +kernel
theorem dX0_wearOut_38 : decode cX0_wearOut 38 = .ok (.invokestatic 73, 3) := by decide +kernel
theorem dX0_wearOut_41 : decode cX0_wearOut 41 = .ok (.iastore, 1) := by decide +kernel
theorem dX0_wearOut_42 : decode cX0_wearOut 42 = .ok (.iinc 2 1, 3) := by decide +kernel
theorem dX0_wearOut_45 : decode cX0_wearOut 45 = .ok (.goto (-43), 3) := by decide +kernel
theorem dX0_wearOut_48 : decode cX0_wearOut 48 = .ok (.aload_n 0, 1) := by decide +kernel
theorem dX0_wearOut_49 : decode cX0_wearOut 49 = .ok (.getfield 25, 3) := by decide +kernel
theorem dX0_wearOut_52 : decode cX0_wearOut 52 = .ok (.sipush 999, 3) := by decide +kernel
theorem dX0_wearOut_55 : decode cX0_wearOut 55 = .ok (.aload_n 0, 1) := by decide +kernel
theorem dX0_wearOut_56 : decode cX0_wearOut 56 = .ok (.getfield 25, 3) := by decide +kernel
theorem dX0_wearOut_59 : decode cX0_wearOut 59 = .ok (.getfield 76, 3) := by decide +kernel
theorem dX0_wearOut_62 : decode cX0_wearOut 62 = .ok (.iconst 1, 1) := by decide +kernel
theorem dX0_wearOut_63 : decode cX0_wearOut 63 = .ok (.iadd, 1) := by decide +kernel
theorem dX0_wearOut_64 : decode cX0_wearOut 64 = .ok (.invokestatic 73, 3) := by decide +kernel
theorem dX0_wearOut_67 : decode cX0_wearOut 67 = .ok (.putfield 76, 3) := by decide +kernel
theorem dX0_wearOut_70 : decode cX0_wearOut 70 = .ok (.return_, 1) := by decide +kernel
theorem dX0_wearOfAll_0 : decode cX0_wearOfAll 0 = .ok (.iconst 0, 1) := by decide +kernel
theorem dX0_wearOfAll_1 : decode cX0_wearOfAll 1 = .ok (.istore_n 1, 1) := by decide +kernel
theorem dX0_wearOfAll_2 : decode cX0_wearOfAll 2 = .ok (.iconst 0, 1) := by decide +kernel
theorem dX0_wearOfAll_3 : decode cX0_wearOfAll 3 = .ok (.istore_n 2, 1) := by decide +kernel
theorem dX0_wearOfAll_4 : decode cX0_wearOfAll 4 = .ok (.iload_n 2, 1) := by decide +kernel
theorem dX0_wearOfAll_5 : decode cX0_wearOfAll 5 = .ok (.aload_n 0, 1) := by decide +kernel
theorem dX0_wearOfAll_6 : decode cX0_wearOfAll 6 = .ok (.getfield 18, 3) := by decide +kernel
theorem dX0_wearOfAll_9 : decode cX0_wearOfAll 9 = .ok (.if_icmp .ge 21, 3) := by decide +kernel
theorem dX0_wearOfAll_12 : decode cX0_wearOfAll 12 = .ok (.iload_n 1, 1) := by decide +kernel
theorem dX0_wearOfAll_13 : decode cX0_wearOfAll 13 = .ok (.aload_n 0, 1) := by decide +kernel
theorem dX0_wearOfAll_14 : decode cX0_wearOfAll 14 = .ok (.getfield 25, 3) := by decide +kernel
theorem dX0_wearOfAll_17 : decode cX0_wearOfAll 17 = .ok (.getfield 35, 3) := by decide +kernel
theorem dX0_wearOfAll_20 : decode cX0_wearOfAll 20 = .ok (.iload_n 2, 1) := by decide +kernel
theorem dX0_wearOfAll_21 : decode cX0_wearOfAll 21 = .ok (.iaload, 1) := by decide +kernel
theorem dX0_wearOfAll_22 : decode cX0_wearOfAll 22 = .ok (.iadd, 1) := by decide +kernel
theorem dX0_wearOfAll_23 : decode cX0_wearOfAll 23 = .ok (.istore_n 1, 1) := by decide +kernel
theorem dX0_wearOfAll_24 : decode cX0_wearOfAll 24 = .ok (.iinc 2 1, 3) := by decide +kernel
theorem dX0_wearOfAll_27 : decode cX0_wearOfAll 27 = .ok (.goto (-23), 3) := by decide +kernel
theorem dX0_wearOfAll_30 : decode cX0_wearOfAll 30 = .ok (.iload_n 1, 1) := by decide +kernel
theorem dX0_wearOfAll_31 : decode cX0_wearOfAll 31 = .ok (.ireturn, 1) := by decide +kernel
theorem dX0_delayOfAll_0 : decode cX0_delayOfAll 0 = .ok (.iconst 0, 1) := by decide +kernel
theorem dX0_delayOfAll_1 : decode cX0_delayOfAll 1 = .ok (.istore_n 1, 1) := by decide +kernel
theorem dX0_delayOfAll_2 : decode cX0_delayOfAll 2 = .ok (.iconst 0, 1) := by decide +kernel
theorem dX0_delayOfAll_3 : decode cX0_delayOfAll 3 = .ok (.istore_n 2, 1) := by decide +kernel
theorem dX0_delayOfAll_4 : decode cX0_delayOfAll 4 = .ok (.iload_n 2, 1) := by decide +kernel
theorem dX0_delayOfAll_5 : decode cX0_delayOfAll 5 = .ok (.aload_n 0, 1) := by decide +kernel
theorem dX0_delayOfAll_6 : decode cX0_delayOfAll 6 = .ok (.getfield 18, 3) := by decide +kernel
theorem dX0_delayOfAll_9 : decode cX0_delayOfAll 9 = .ok (.if_icmp .ge 21, 3) := by decide +kernel
theorem dX0_delayOfAll_12 : decode cX0_delayOfAll 12 = .ok (.iload_n 1, 1) := by decide +kernel
theorem dX0_delayOfAll_13 : decode cX0_delayOfAll 13 = .ok (.aload_n 0, 1) := by decide +kernel
theorem dX0_delayOfAll_14 : decode cX0_delayOfAll 14 = .ok (.getfield 25, 3) := by decide +kernel
theorem dX0_delayOfAll_17 : decode cX0_delayOfAll 17 = .ok (.getfield 29, 3) := by decide +kernel
theorem dX0_delayOfAll_20 : decode cX0_delayOfAll 20 = .ok (.iload_n 2, 1) := by decide +kernel
theorem dX0_delayOfAll_21 : decode cX0_delayOfAll 21 = .ok (.iaload, 1) := by decide +kernel
theorem dX0_delayOfAll_22 : decode cX0_delayOfAll 22 = .ok (.iadd, 1) := by decide +kernel
theorem dX0_delayOfAll_23 : decode cX0_delayOfAll 23 = .ok (.istore_n 1, 1) := by decide +kernel
theorem dX0_delayOfAll_24 : decode cX0_delayOfAll 24 = .ok (.iinc 2 1, 3) := by decide +kernel
theorem dX0_delayOfAll_27 : decode cX0_delayOfAll 27 = .ok (.goto (-23), 3) := by decide +kernel
theorem dX0_delayOfAll_30 : decode cX0_delayOfAll 30 = .ok (.iload_n 1, 1) := by decide +kernel
theorem dX0_delayOfAll_31 : decode cX0_delayOfAll 31 = .ok (.ireturn, 1) := by decide +kernel
theorem dX1_init_0 : decode cX1_init 0 = .ok (.aload_n 0, 1) := by decide +kernel
theorem dX1_init_1 : decode cX1_init 1 = .ok (.invokespecial 3, 3) := by decide +kernel
theorem dX1_init_4 : decode cX1_init 4 = .ok (.aload_n 0, 1) := by decide +kernel
theorem dX1_init_5 : decode cX1_init 5 = .ok (.aload_n 1, 1) := by decide +kernel
theorem dX1_init_6 : decode cX1_init 6 = .ok (.putfield 9, 3) := by decide +kernel
theorem dX1_init_9 : decode cX1_init 9 = .ok (.aload_n 0, 1) := by decide +kernel
theorem dX1_init_10 : decode cX1_init 10 = .ok (.bipush 12, 2) := by decide +kernel
theorem dX1_init_12 : decode cX1_init 12 = .ok (.newarray .int, 2) := by decide +kernel
theorem dX1_init_14 : decode cX1_init 14 = .ok (.putfield 15, 3) := by decide +kernel
theorem dX1_init_17 : decode cX1_init 17 = .ok (.aload_n 0, 1) := by decide +kernel
theorem dX1_init_18 : decode cX1_init 18 = .ok (.bipush 12, 2) := by decide +kernel
theorem dX1_init_20 : decode cX1_init 20 = .ok (.newarray .int, 2) := by decide +kernel
theorem dX1_init_22 : decode cX1_init 22 = .ok (.putfield 19, 3) := by decide +kernel
theorem dX1_init_25 : decode cX1_init 25 = .ok (.aload_n 0, 1) := by decide +kernel
theorem dX1_init_26 : decode cX1_init 26 = .ok (.iconst 0, 1) := by decide +kernel
theorem dX1_init_27 : decode cX1_init 27 = .ok (.putfield 22, 3) := by decide +kernel
theorem dX1_init_30 : decode cX1_init 30 = .ok (.return_, 1) := by decide +kernel
theorem dX1_add_0 : decode cX1_add 0 = .ok (.iload_n 1, 1) := by decide +kernel
theorem dX1_add_1 : decode cX1_add 1 = .ok (.ifCond .ne 7, 3) := by decide +kernel
theorem dX1_add_4 : decode cX1_add 4 = .ok (.iconst 1, 1) := by decide +kernel
theorem dX1_add_5 : decode cX1_add 5 = .ok (.goto 4, 3) := by decide +kernel
theorem dX1_add_8 : decode cX1_add 8 = .ok (.iconst 0, 1) := by decide +kernel
theorem dX1_add_9 : decode cX1_add 9 = .ok (.istore_n 3, 1) := by decide +kernel
theorem dX1_add_10 : decode cX1_add 10 = .ok (.iload_n 1, 1) := by decide +kernel
theorem dX1_add_11 : decode cX1_add 11 = .ok (.iconst 1, 1) := by decide +kernel
theorem dX1_add_12 : decode cX1_add 12 = .ok (.if_icmp .ne 8, 3) := by decide +kernel
theorem dX1_add_15 : decode cX1_add 15 = .ok (.bipush 7, 2) := by decide +kernel
theorem dX1_add_17 : decode cX1_add 17 = .ok (.goto 14, 3) := by decide +kernel
theorem dX1_add_20 : decode cX1_add 20 = .ok (.iload_n 1, 1) := by decide +kernel
theorem dX1_add_21 : decode cX1_add 21 = .ok (.iconst 3, 1) := by decide +kernel
theorem dX1_add_22 : decode cX1_add 22 = .ok (.if_icmp .ne 7, 3) := by decide +kernel
theorem dX1_add_25 : decode cX1_add 25 = .ok (.iconst 1, 1) := by decide +kernel
theorem dX1_add_26 : decode cX1_add 26 = .ok (.goto 5, 3) := by decide +kernel
theorem dX1_add_29 : decode cX1_add 29 = .ok (.bipush 9, 2) := by decide +kernel
theorem dX1_add_31 : decode cX1_add 31 = .ok (.istore 4, 2) := by decide +kernel
theorem dX1_add_33 : decode cX1_add 33 = .ok (.iload_n 1, 1) := by decide +kernel
theorem dX1_add_34 : decode cX1_add 34 = .ok (.ifCond .lt 28, 3) := by decide +kernel
theorem dX1_add_37 : decode cX1_add 37 = .ok (.iload_n 1, 1) := by decide +kernel
theorem dX1_add_38 : decode cX1_add 38 = .ok (.iconst 4, 1) := by decide +kernel
theorem dX1_add_39 : decode cX1_add 39 = .ok (.if_icmp .gt 23, 3) := by decide +kernel
theorem dX1_add_42 : decode cX1_add 42 = .ok (.iload_n 2, 1) := by decide +kernel
theorem dX1_add_43 : decode cX1_add 43 = .ok (.iload_n 3, 1) := by decide +kernel
theorem dX1_add_44 : decode cX1_add 44 = .ok (.if_icmp .lt 18, 3) := by decide +kernel
theorem dX1_add_47 : decode cX1_add 47 = .ok (.iload_n 2, 1) := by decide +kernel
theorem dX1_add_48 : decode cX1_add 48 = .ok (.iload 4, 2) := by decide +kernel
theorem dX1_add_50 : decode cX1_add 50 = .ok (.if_icmp .gt 12, 3) := by decide +kernel
theorem dX1_add_53 : decode cX1_add 53 = .ok (.aload_n 0, 1) := by decide +kernel
theorem dX1_add_54 : decode cX1_add 54 = .ok (.getfield 22, 3) := by decide +kernel
theorem dX1_add_57 : decode cX1_add 57 = .ok (.bipush 12, 2) := by decide +kernel
theorem dX1_add_59 : decode cX1_add 59 = .ok (.if_icmp .lt 5, 3) := by decide +kernel
theorem dX1_add_62 : decode cX1_add 62 = .ok (.iconst 0, 1) := by decide +kernel
theorem dX1_add_63 : decode cX1_add 63 = .ok (.ireturn, 1) := by decide +kernel
theorem dX1_add_64 : decode cX1_add 64 = .ok (.aload_n 0, 1) := by decide +kernel
theorem dX1_add_65 : decode cX1_add 65 = .ok (.getfield 15, 3) := by decide +kernel
theorem dX1_add_68 : decode cX1_add 68 = .ok (.aload_n 0, 1) := by decide +kernel
theorem dX1_add_69 : decode cX1_add 69 = .ok (.getfield 22, 3) := by decide +kernel
theorem dX1_add_72 : decode cX1_add 72 = .ok (.iload_n 1, 1) := by decide +kernel
theorem dX1_add_73 : decode cX1_add 73 = .ok (.iastore, 1) := by decide +kernel
theorem dX1_add_74 : decode cX1_add 74 = .ok (.aload_n 0, 1) := by decide +kernel
theorem dX1_add_75 : decode cX1_add 75 = .ok (.getfield 19, 3) := by decide +kernel
theorem dX1_add_78 : decode cX1_add 78 = .ok (.aload_n 0, 1) := by decide +kernel
theorem dX1_add_79 : decode cX1_add 79 = .ok (.getfield 22, 3) := by decide +kernel
theorem dX1_add_82 : decode cX1_add 82 = .ok (.iload_n 2, 1) := by decide +kernel
theorem dX1_add_83 : decode cX1_add 83 = .ok (.iastore, 1) := by decide +kernel
theorem dX1_add_84 : decode cX1_add 84 = .ok (.aload_n 0, 1) := by decide +kernel
theorem dX1_add_85 : decode cX1_add 85 = .ok (.dup, 1) := by decide +kernel
theorem dX1_add_86 : decode cX1_add 86 = .ok (.getfield 22, 3) := by decide +kernel
theorem dX1_add_89 : decode cX1_add 89 = .ok (.iconst 1, 1) := by decide +kernel
theorem dX1_add_90 : decode cX1_add 90 = .ok (.iadd, 1) := by decide +kernel
theorem dX1_add_91 : decode cX1_add 91 = .ok (.putfield 22, 3) := by decide +kernel
theorem dX1_add_94 : decode cX1_add 94 = .ok (.iconst 1, 1) := by decide +kernel
theorem dX1_add_95 : decode cX1_add 95 = .ok (.ireturn, 1) := by decide +kernel
theorem dX1_fittingPassages_0 : decode cX1_fittingPassages 0 = .ok (.iconst 0, 1) := by decide +kernel
theorem dX1_fittingPassages_1 : decode cX1_fittingPassages 1 = .ok (.istore_n 1, 1) := by decide +kernel
theorem dX1_fittingPassages_2 : decode cX1_fittingPassages 2 = .ok (.iconst 0, 1) := by decide +kernel
theorem dX1_fittingPassages_3 : decode cX1_fittingPassages 3 = .ok (.istore_n 2, 1) := by decide +kernel
theorem dX1_fittingPassages_4 : decode cX1_fittingPassages 4 = .ok (.iload_n 2, 1) := by decide +kernel
theorem dX1_fittingPassages_5 : decode cX1_fittingPassages 5 = .ok (.aload_n 0, 1) := by decide +kernel
theorem dX1_fittingPassages_6 : decode cX1_fittingPassages 6 = .ok (.getfield 9, 3) := by decide +kernel
theorem dX1_fittingPassages_9 : decode cX1_fittingPassages 9 = .ok (.getfield 26, 3) := by decide +kernel
theorem dX1_fittingPassages_12 : decode cX1_fittingPassages 12 = .ok (.if_icmp .ge 23, 3) := by decide +kernel
theorem dX1_fittingPassages_15 : decode cX1_fittingPassages 15 = .ok (.aload_n 0, 1) := by decide +kernel
theorem dX1_fittingPassages_16 : decode cX1_fittingPassages 16 = .ok (.iload_n 2, 1) := by decide +kernel
theorem dX1_fittingPassages_17 : decode cX1_fittingPassages 17 = .ok (.invokevirtual 29, 3) := by decide +kernel
theorem dX1_fittingPassages_20 : decode cX1_fittingPassages 20 = .ok (.ifCond .eq 9, 3) := by decide +kernel
theorem dX1_fittingPassages_23 : decode cX1_fittingPassages 23 = .ok (.iload_n 1, 1) := by decide +kernel
theorem dX1_fittingPassages_24 : decode cX1_fittingPassages 24 = .ok (.iconst 1, 1) := by decide +kernel
theorem dX1_fittingPassages_25 : decode cX1_fittingPassages 25 = .ok (.iload_n 2, 1) := by decide +kernel
theorem dX1_fittingPassages_26 : decode cX1_fittingPassages 26 = .ok (.ishl, 1) := by decide +kernel
theorem dX1_fittingPassages_27 : decode cX1_fittingPassages 27 = .ok (.ior, 1) := by decide +kernel
theorem dX1_fittingPassages_28 : decode cX1_fittingPassages 28 = .ok (.istore_n 1, 1) := by decide +kernel
theorem dX1_fittingPassages_29 : decode cX1_fittingPassages 29 = .ok (.iinc 2 1, 3) := by decide +kernel
theorem dX1_fittingPassages_32 : decode cX1_fittingPassages 32 = .ok (.goto (-28), 3) := by decide +kernel
theorem dX1_fittingPassages_35 : decode cX1_fittingPassages 35 = .ok (.iload_n 1, 1) := by decide +kernel
theorem dX1_fittingPassages_36 : decode cX1_fittingPassages 36 = .ok (.ireturn, 1) := by decide +kernel
theorem dX1_fitsAll_0 : decode cX1_fitsAll 0 = .ok (.iconst 0, 1) := by decide +kernel
theorem dX1_fitsAll_1 : decode cX1_fitsAll 1 = .ok (.istore_n 2, 1) := by decide +kernel
theorem dX1_fitsAll_2 : decode cX1_fitsAll 2 = .ok (.iload_n 2, 1) := by decide +kernel
theorem dX1_fitsAll_3 : decode cX1_fitsAll 3 = .ok (.aload_n 0, 1) := by decide +kernel
theorem dX1_fitsAll_4 : decode cX1_fitsAll 4 = .ok (.getfield 22, 3) := by decide +kernel
theorem dX1_fitsAll_7 : decode cX1_fitsAll 7 = .ok (.if_icmp .ge 31, 3) := by decide +kernel
theorem dX1_fitsAll_10 : decode cX1_fitsAll 10 = .ok (.aload_n 0, 1) := by decide +kernel
theorem dX1_fitsAll_11 : decode cX1_fitsAll 11 = .ok (.iload_n 1, 1) := by decide +kernel
theorem dX1_fitsAll_12 : decode cX1_fitsAll 12 = .ok (.aload_n 0, 1) := by decide +kernel
theorem dX1_fitsAll_13 : decode cX1_fitsAll 13 = .ok (.getfield 15, 3) := by decide +kernel
theorem dX1_fitsAll_16 : decode cX1_fitsAll 16 = .ok (.iload_n 2, 1) := by decide +kernel
theorem dX1_fitsAll_17 : decode cX1_fitsAll 17 = .ok (.iaload, 1) := by decide +kernel
theorem dX1_fitsAll_18 : decode cX1_fitsAll 18 = .ok (.aload_n 0, 1) := by decide +kernel
theorem dX1_fitsAll_19 : decode cX1_fitsAll 19 = .ok (.getfield 19, 3) := by decide +kernel
theorem dX1_fitsAll_22 : decode cX1_fitsAll 22 = .ok (.iload_n 2, 1) := by decide +kernel
theorem dX1_fitsAll_23 : decode cX1_fitsAll 23 = .ok (.iaload, 1) := by decide +kernel
theorem dX1_fitsAll_24 : decode cX1_fitsAll 24 = .ok (.invokevirtual 33, 3) := by decide +kernel
theorem dX1_fitsAll_27 : decode cX1_fitsAll 27 = .ok (.ifCond .ne 5, 3) := by decide +kernel
theorem dX1_fitsAll_30 : decode cX1_fitsAll 30 = .ok (.iconst 0, 1) := by decide +kernel
theorem dX1_fitsAll_31 : decode cX1_fitsAll 31 = .ok (.ireturn, 1) := by decide +kernel
theorem dX1_fitsAll_32 : decode cX1_fitsAll 32 = .ok (.iinc 2 1, 3) := by decide +kernel
theorem dX1_fitsAll_35 : decode cX1_fitsAll 35 = .ok (.goto (-33), 3) := by decide +kernel
theorem dX1_fitsAll_38 : decode cX1_fitsAll 38 = .ok (.iconst 1, 1) := by decide +kernel
theorem dX1_fitsAll_39 : decode cX1_fitsAll 39 = .ok (.ireturn, 1) := by decide +kernel
theorem dX1_agrees_0 : decode cX1_agrees 0 = .ok (.iload_n 2, 1) := by decide +kernel
theorem dX1_agrees_1 : decode cX1_agrees 1 = .ok (.tableswitch 112 0 3 #[31, 53, 63, 85], 31) := by decide +kernel
theorem dX1_agrees_32 : decode cX1_agrees 32 = .ok (.aload_n 0, 1) := by decide +kernel
theorem dX1_agrees_33 : decode cX1_agrees 33 = .ok (.getfield 9, 3) := by decide +kernel
theorem dX1_agrees_36 : decode cX1_agrees 36 = .ok (.getfield 37, 3) := by decide +kernel
theorem dX1_agrees_39 : decode cX1_agrees 39 = .ok (.getfield 41, 3) := by decide +kernel
theorem dX1_agrees_42 : decode cX1_agrees 42 = .ok (.iload_n 1, 1) := by decide +kernel
theorem dX1_agrees_43 : decode cX1_agrees 43 = .ok (.iaload, 1) := by decide +kernel
theorem dX1_agrees_44 : decode cX1_agrees 44 = .ok (.iload_n 3, 1) := by decide +kernel
theorem dX1_agrees_45 : decode cX1_agrees 45 = .ok (.if_icmp .lt 7, 3) := by decide +kernel
theorem dX1_agrees_48 : decode cX1_agrees 48 = .ok (.iconst 1, 1) := by decide +kernel
theorem dX1_agrees_49 : decode cX1_agrees 49 = .ok (.goto 4, 3) := by decide +kernel
theorem dX1_agrees_52 : decode cX1_agrees 52 = .ok (.iconst 0, 1) := by decide +kernel
theorem dX1_agrees_53 : decode cX1_agrees 53 = .ok (.ireturn, 1) := by decide +kernel
theorem dX1_agrees_54 : decode cX1_agrees 54 = .ok (.aload_n 0, 1) := by decide +kernel
theorem dX1_agrees_55 : decode cX1_agrees 55 = .ok (.getfield 9, 3) := by decide +kernel
theorem dX1_agrees_58 : decode cX1_agrees 58 = .ok (.iload_n 3, 1) := by decide +kernel
theorem dX1_agrees_59 : decode cX1_agrees 59 = .ok (.iload_n 1, 1) := by decide +kernel
theorem dX1_agrees_60 : decode cX1_agrees 60 = .ok (.invokevirtual 46, 3) := by decide +kernel
theorem dX1_agrees_63 : decode cX1_agrees 63 = .ok (.ireturn, 1) := by decide +kernel
theorem dX1_agrees_64 : decode cX1_agrees 64 = .ok (.aload_n 0, 1) := by decide +kernel
theorem dX1_agrees_65 : decode cX1_agrees 65 = .ok (.getfield 9, 3) := by decide +kernel
theorem dX1_agrees_68 : decode cX1_agrees 68 = .ok (.getfield 37, 3) := by decide +kernel
theorem dX1_agrees_71 : decode cX1_agrees 71 = .ok (.getfield 50, 3) := by decide +kernel
theorem dX1_agrees_74 : decode cX1_agrees 74 = .ok (.iload_n 1, 1) := by decide +kernel
theorem dX1_agrees_75 : decode cX1_agrees 75 = .ok (.iaload, 1) := by decide +kernel
theorem dX1_agrees_76 : decode cX1_agrees 76 = .ok (.iload_n 3, 1) := by decide +kernel
theorem dX1_agrees_77 : decode cX1_agrees 77 = .ok (.if_icmp .ne 7, 3) := by decide +kernel
theorem dX1_agrees_80 : decode cX1_agrees 80 = .ok (.iconst 1, 1) := by decide +kernel
theorem dX1_agrees_81 : decode cX1_agrees 81 = .ok (.goto 4, 3) := by decide +kernel
theorem dX1_agrees_84 : decode cX1_agrees 84 = .ok (.iconst 0, 1) := by decide +kernel
theorem dX1_agrees_85 : decode cX1_agrees 85 = .ok (.ireturn, 1) := by decide +kernel
theorem dX1_agrees_86 : decode cX1_agrees 86 = .ok (.aload_n 0, 1) := by decide +kernel
theorem dX1_agrees_87 : decode cX1_agrees 87 = .ok (.getfield 9, 3) := by decide +kernel
theorem dX1_agrees_90 : decode cX1_agrees 90 = .ok (.iload_n 1, 1) := by decide +kernel
theorem dX1_agrees_91 : decode cX1_agrees 91 = .ok (.invokevirtual 53, 3) := by decide +kernel
theorem dX1_agrees_94 : decode cX1_agrees 94 = .ok (.iload_n 3, 1) := by decide +kernel
theorem dX1_agrees_95 : decode cX1_agrees 95 = .ok (.iconst 1, 1) := by decide +kernel
theorem dX1_agrees_96 : decode cX1_agrees 96 = .ok (.if_icmp .ne 7, 3) := by decide +kernel
theorem dX1_agrees_99 : decode cX1_agrees 99 = .ok (.iconst 1, 1) := by decide +kernel
theorem dX1_agrees_100 : decode cX1_agrees 100 = .ok (.goto 4, 3) := by decide +kernel
theorem dX1_agrees_103 : decode cX1_agrees 103 = .ok (.iconst 0, 1) := by decide +kernel
theorem dX1_agrees_104 : decode cX1_agrees 104 = .ok (.if_icmp .ne 7, 3) := by decide +kernel
theorem dX1_agrees_107 : decode cX1_agrees 107 = .ok (.iconst 1, 1) := by decide +kernel
theorem dX1_agrees_108 : decode cX1_agrees 108 = .ok (.goto 4, 3) := by decide +kernel
theorem dX1_agrees_111 : decode cX1_agrees 111 = .ok (.iconst 0, 1) := by decide +kernel
theorem dX1_agrees_112 : decode cX1_agrees 112 = .ok (.ireturn, 1) := by decide +kernel
theorem dX1_agrees_113 : decode cX1_agrees 113 = .ok (.aload_n 0, 1) := by decide +kernel
theorem dX1_agrees_114 : decode cX1_agrees 114 = .ok (.getfield 9, 3) := by decide +kernel
theorem dX1_agrees_117 : decode cX1_agrees 117 = .ok (.getfield 37, 3) := by decide +kernel
theorem dX1_agrees_120 : decode cX1_agrees 120 = .ok (.getfield 56, 3) := by decide +kernel
theorem dX1_agrees_123 : decode cX1_agrees 123 = .ok (.iload_n 1, 1) := by decide +kernel
theorem dX1_agrees_124 : decode cX1_agrees 124 = .ok (.iaload, 1) := by decide +kernel
theorem dX1_agrees_125 : decode cX1_agrees 125 = .ok (.iload_n 3, 1) := by decide +kernel
theorem dX1_agrees_126 : decode cX1_agrees 126 = .ok (.if_icmp .gt 7, 3) := by decide +kernel
theorem dX1_agrees_129 : decode cX1_agrees 129 = .ok (.iconst 1, 1) := by decide +kernel
theorem dX1_agrees_130 : decode cX1_agrees 130 = .ok (.goto 4, 3) := by decide +kernel
theorem dX1_agrees_133 : decode cX1_agrees 133 = .ok (.iconst 0, 1) := by decide +kernel
theorem dX1_agrees_134 : decode cX1_agrees 134 = .ok (.ireturn, 1) := by decide +kernel
theorem dX2_init_0 : decode cX2_init 0 = .ok (.aload_n 0, 1) := by decide +kernel
theorem dX2_init_1 : decode cX2_init 1 = .ok (.invokespecial 3, 3) := by decide +kernel
theorem dX2_init_4 : decode cX2_init 4 = .ok (.aload_n 0, 1) := by decide +kernel
theorem dX2_init_5 : decode cX2_init 5 = .ok (.aload_n 1, 1) := by decide +kernel
theorem dX2_init_6 : decode cX2_init 6 = .ok (.putfield 9, 3) := by decide +kernel
theorem dX2_init_9 : decode cX2_init 9 = .ok (.aload_n 0, 1) := by decide +kernel
theorem dX2_init_10 : decode cX2_init 10 = .ok (.bipush 12, 2) := by decide +kernel
theorem dX2_init_12 : decode cX2_init 12 = .ok (.newarray .int, 2) := by decide +kernel
theorem dX2_init_14 : decode cX2_init 14 = .ok (.putfield 15, 3) := by decide +kernel
theorem dX2_init_17 : decode cX2_init 17 = .ok (.aload_n 0, 1) := by decide +kernel
theorem dX2_init_18 : decode cX2_init 18 = .ok (.bipush 12, 2) := by decide +kernel
theorem dX2_init_20 : decode cX2_init 20 = .ok (.newarray .int, 2) := by decide +kernel
theorem dX2_init_22 : decode cX2_init 22 = .ok (.putfield 19, 3) := by decide +kernel
theorem dX2_init_25 : decode cX2_init 25 = .ok (.aload_n 0, 1) := by decide +kernel
theorem dX2_init_26 : decode cX2_init 26 = .ok (.iconst 0, 1) := by decide +kernel
theorem dX2_init_27 : decode cX2_init 27 = .ok (.putfield 22, 3) := by decide +kernel
theorem dX2_init_30 : decode cX2_init 30 = .ok (.aload_n 0, 1) := by decide +kernel
theorem dX2_init_31 : decode cX2_init 31 = .ok (.iconst 0, 1) := by decide +kernel
theorem dX2_init_32 : decode cX2_init 32 = .ok (.putfield 26, 3) := by decide +kernel
theorem dX2_init_35 : decode cX2_init 35 = .ok (.aload_n 0, 1) := by decide +kernel
theorem dX2_init_36 : decode cX2_init 36 = .ok (.iconst 0, 1) := by decide +kernel
theorem dX2_init_37 : decode cX2_init 37 = .ok (.putfield 29, 3) := by decide +kernel
theorem dX2_init_40 : decode cX2_init 40 = .ok (.aload_n 0, 1) := by decide +kernel
theorem dX2_init_41 : decode cX2_init 41 = .ok (.sipush 192, 3) := by decide +kernel
theorem dX2_init_44 : decode cX2_init 44 = .ok (.newarray .int, 2) := by decide +kernel
theorem dX2_init_46 : decode cX2_init 46 = .ok (.putfield 32, 3) := by decide +kernel
theorem dX2_init_49 : decode cX2_init 49 = .ok (.aload_n 0, 1) := by decide +kernel
theorem dX2_init_50 : decode cX2_init 50 = .ok (.bipush 8, 2) := by decide +kernel
theorem dX2_init_52 : decode cX2_init 52 = .ok (.newarray .long, 2) := by decide +kernel
theorem dX2_init_54 : decode cX2_init 54 = .ok (.putfield 35, 3) := by decide +kernel
theorem dX2_init_57 : decode cX2_init 57 = .ok (.aload_n 0, 1) := by decide +kernel
theorem dX2_init_58 : decode cX2_init 58 = .ok (.bipush 8, 2) := by decide +kernel
theorem dX2_init_60 : decode cX2_init 60 = .ok (.newarray .long, 2) := by decide +kernel
theorem dX2_init_62 : decode cX2_init 62 = .ok (.putfield 39, 3) := by decide +kernel
theorem dX2_init_65 : decode cX2_init 65 = .ok (.return_, 1) := by decide +kernel
theorem dX2_goes_0 : decode cX2_goes 0 = .ok (.aload_n 0, 1) := by decide +kernel
theorem dX2_goes_1 : decode cX2_goes 1 = .ok (.getfield 9, 3) := by decide +kernel
theorem dX2_goes_4 : decode cX2_goes 4 = .ok (.iload_n 2, 1) := by decide +kernel
theorem dX2_goes_5 : decode cX2_goes 5 = .ok (.invokevirtual 42, 3) := by decide +kernel
theorem dX2_goes_8 : decode cX2_goes 8 = .ok (.ifCond .eq 26, 3) := by decide +kernel
theorem dX2_goes_11 : decode cX2_goes 11 = .ok (.aload_n 0, 1) := by decide +kernel
theorem dX2_goes_12 : decode cX2_goes 12 = .ok (.getfield 9, 3) := by decide +kernel
theorem dX2_goes_15 : decode cX2_goes 15 = .ok (.iload_n 2, 1) := by decide +kernel
theorem dX2_goes_16 : decode cX2_goes 16 = .ok (.invokevirtual 48, 3) := by decide +kernel
theorem dX2_goes_19 : decode cX2_goes 19 = .ok (.ifCond .eq 15, 3) := by decide +kernel
theorem dX2_goes_22 : decode cX2_goes 22 = .ok (.aload_n 0, 1) := by decide +kernel
theorem dX2_goes_23 : decode cX2_goes 23 = .ok (.getfield 9, 3) := by decide +kernel
theorem dX2_goes_26 : decode cX2_goes 26 = .ok (.iload_n 1, 1) := by decide +kernel
theorem dX2_goes_27 : decode cX2_goes 27 = .ok (.iload_n 2, 1) := by decide +kernel
theorem dX2_goes_28 : decode cX2_goes 28 = .ok (.invokevirtual 51, 3) := by decide +kernel
theorem dX2_goes_31 : decode cX2_goes 31 = .ok (.ifCond .ne 5, 3) := by decide +kernel
theorem dX2_goes_34 : decode cX2_goes 34 = .ok (.iconst 0, 1) := by decide +kernel
theorem dX2_goes_35 : decode cX2_goes 35 = .ok (.ireturn, 1) := by decide +kernel
theorem dX2_goes_36 : decode cX2_goes 36 = .ok (.aload_n 0, 1) := by decide +kernel
theorem dX2_goes_37 : decode cX2_goes 37 = .ok (.iconst 0, 1) := by decide +kernel
theorem dX2_goes_38 : decode cX2_goes 38 = .ok (.putfield 22, 3) := by decide +kernel
theorem dX2_goes_41 : decode cX2_goes 41 = .ok (.aload_n 0, 1) := by decide +kernel
theorem dX2_goes_42 : decode cX2_goes 42 = .ok (.iconst 0, 1) := by decide +kernel
theorem dX2_goes_43 : decode cX2_goes 43 = .ok (.putfield 26, 3) := by decide +kernel
theorem dX2_goes_46 : decode cX2_goes 46 = .ok (.aload_n 0, 1) := by decide +kernel
theorem dX2_goes_47 : decode cX2_goes 47 = .ok (.iload_n 1, 1) := by decide +kernel
theorem dX2_goes_48 : decode cX2_goes 48 = .ok (.putfield 29, 3) := by decide +kernel
theorem dX2_goes_51 : decode cX2_goes 51 = .ok (.aload_n 0, 1) := by decide +kernel
theorem dX2_goes_52 : decode cX2_goes 52 = .ok (.getfield 9, 3) := by decide +kernel
theorem dX2_goes_55 : decode cX2_goes 55 = .ok (.getfield 55, 3) := by decide +kernel
theorem dX2_goes_58 : decode cX2_goes 58 = .ok (.getfield 59, 3) := by decide +kernel
theorem dX2_goes_61 : decode cX2_goes 61 = .ok (.istore_n 3, 1) := by decide +kernel
theorem dX2_goes_62 : decode cX2_goes 62 = .ok (.iload_n 2, 1) := by decide +kernel
theorem dX2_goes_63 : decode cX2_goes 63 = .ok (.istore 4, 2) := by decide +kernel
theorem dX2_goes_65 : decode cX2_goes 65 = .ok (.iload 4, 2) := by decide +kernel
theorem dX2_goes_67 : decode cX2_goes 67 = .ok (.iconst (-1), 1) := by decide +kernel
theorem dX2_goes_68 : decode cX2_goes 68 = .ok (.if_icmp .eq 146, 3) := by decide +kernel
theorem dX2_goes_71 : decode cX2_goes 71 = .ok (.aload_n 0, 1) := by decide +kernel
theorem dX2_goes_72 : decode cX2_goes 72 = .ok (.getfield 22, 3) := by decide +kernel
theorem dX2_goes_75 : decode cX2_goes 75 = .ok (.bipush 12, 2) := by decide +kernel
theorem dX2_goes_77 : decode cX2_goes 77 = .ok (.if_icmp .ge 137, 3) := by decide +kernel
theorem dX2_goes_80 : decode cX2_goes 80 = .ok (.aload_n 0, 1) := by decide +kernel
theorem dX2_goes_81 : decode cX2_goes 81 = .ok (.getfield 15, 3) := by decide +kernel
theorem dX2_goes_84 : decode cX2_goes 84 = .ok (.aload_n 0, 1) := by decide +kernel
theorem dX2_goes_85 : decode cX2_goes 85 = .ok (.getfield 22, 3) := by decide +kernel
theorem dX2_goes_88 : decode cX2_goes 88 = .ok (.iload 4, 2) := by decide +kernel
theorem dX2_goes_90 : decode cX2_goes 90 = .ok (.iastore, 1) := by decide +kernel
theorem dX2_goes_91 : decode cX2_goes 91 = .ok (.aload_n 0, 1) := by decide +kernel
theorem dX2_goes_92 : decode cX2_goes 92 = .ok (.getfield 19, 3) := by decide +kernel
theorem dX2_goes_95 : decode cX2_goes 95 = .ok (.aload_n 0, 1) := by decide +kernel
theorem dX2_goes_96 : decode cX2_goes 96 = .ok (.getfield 22, 3) := by decide +kernel
theorem dX2_goes_99 : decode cX2_goes 99 = .ok (.aload_n 0, 1) := by decide +kernel
theorem dX2_goes_100 : decode cX2_goes 100 = .ok (.getfield 9, 3) := by decide +kernel
theorem dX2_goes_103 : decode cX2_goes 103 = .ok (.getfield 64, 3) := by decide +kernel
theorem dX2_goes_106 : decode cX2_goes 106 = .ok (.iload 4, 2) := by decide +kernel
theorem dX2_goes_108 : decode cX2_goes 108 = .ok (.iaload, 1) := by decide +kernel
theorem dX2_goes_109 : decode cX2_goes 109 = .ok (.aload_n 0, 1) := by decide +kernel
theorem dX2_goes_110 : decode cX2_goes 110 = .ok (.getfield 29, 3) := by decide +kernel
theorem dX2_goes_113 : decode cX2_goes 113 = .ok (.if_icmp .ne 7, 3) := by decide +kernel
theorem dX2_goes_116 : decode cX2_goes 116 = .ok (.iconst 1, 1) := by decide +kernel
theorem dX2_goes_117 : decode cX2_goes 117 = .ok (.goto 4, 3) := by decide +kernel
theorem dX2_goes_120 : decode cX2_goes 120 = .ok (.iconst 0, 1) := by decide +kernel
theorem dX2_goes_121 : decode cX2_goes 121 = .ok (.iastore, 1) := by decide +kernel
theorem dX2_goes_122 : decode cX2_goes 122 = .ok (.aload_n 0, 1) := by decide +kernel
theorem dX2_goes_123 : decode cX2_goes 123 = .ok (.dup, 1) := by decide +kernel
theorem dX2_goes_124 : decode cX2_goes 124 = .ok (.getfield 22, 3) := by decide +kernel
theorem dX2_goes_127 : decode cX2_goes 127 = .ok (.iconst 1, 1) := by decide +kernel
theorem dX2_goes_128 : decode cX2_goes 128 = .ok (.iadd, 1) := by decide +kernel
theorem dX2_goes_129 : decode cX2_goes 129 = .ok (.putfield 22, 3) := by decide +kernel
theorem dX2_goes_132 : decode cX2_goes 132 = .ok (.aload_n 0, 1) := by decide +kernel
theorem dX2_goes_133 : decode cX2_goes 133 = .ok (.dup, 1) := by decide +kernel
theorem dX2_goes_134 : decode cX2_goes 134 = .ok (.getfield 26, 3) := by decide +kernel
theorem dX2_goes_137 : decode cX2_goes 137 = .ok (.aload_n 0, 1) := by decide +kernel
theorem dX2_goes_138 : decode cX2_goes 138 = .ok (.getfield 9, 3) := by decide +kernel
theorem dX2_goes_141 : decode cX2_goes 141 = .ok (.getfield 55, 3) := by decide +kernel
theorem dX2_goes_144 : decode cX2_goes 144 = .ok (.getfield 67, 3) := by decide +kernel
theorem dX2_goes_147 : decode cX2_goes 147 = .ok (.iload 4, 2) := by decide +kernel
theorem dX2_goes_149 : decode cX2_goes 149 = .ok (.iaload, 1) := by decide +kernel
theorem dX2_goes_150 : decode cX2_goes 150 = .ok (.iadd, 1) := by decide +kernel
theorem dX2_goes_151 : decode cX2_goes 151 = .ok (.putfield 26, 3) := by decide +kernel
theorem dX2_goes_154 : decode cX2_goes 154 = .ok (.iload_n 3, 1) := by decide +kernel
theorem dX2_goes_155 : decode cX2_goes 155 = .ok (.iconst 1, 1) := by decide +kernel
theorem dX2_goes_156 : decode cX2_goes 156 = .ok (.iload 4, 2) := by decide +kernel
theorem dX2_goes_158 : decode cX2_goes 158 = .ok (.ishl, 1) := by decide +kernel
theorem dX2_goes_159 : decode cX2_goes 159 = .ok (.iconst (-1), 1) := by decide +kernel
theorem dX2_goes_160 : decode cX2_goes 160 = .ok (.ixor, 1) := by decide +kernel
theorem dX2_goes_161 : decode cX2_goes 161 = .ok (.iand, 1) := by decide +kernel
theorem dX2_goes_162 : decode cX2_goes 162 = .ok (.istore_n 3, 1) := by decide +kernel
theorem dX2_goes_163 : decode cX2_goes 163 = .ok (.aload_n 0, 1) := by decide +kernel
theorem dX2_goes_164 : decode cX2_goes 164 = .ok (.aload_n 0, 1) := by decide +kernel
theorem dX2_goes_165 : decode cX2_goes 165 = .ok (.getfield 9, 3) := by decide +kernel
theorem dX2_goes_168 : decode cX2_goes 168 = .ok (.aload_n 0, 1) := by decide +kernel
theorem dX2_goes_169 : decode cX2_goes 169 = .ok (.getfield 29, 3) := by decide +kernel
theorem dX2_goes_172 : decode cX2_goes 172 = .ok (.iload 4, 2) := by decide +kernel
theorem dX2_goes_174 : decode cX2_goes 174 = .ok (.invokevirtual 70, 3) := by decide +kernel
theorem dX2_goes_177 : decode cX2_goes 177 = .ok (.putfield 29, 3) := by decide +kernel
theorem dX2_goes_180 : decode cX2_goes 180 = .ok (.aload_n 0, 1) := by decide +kernel
theorem dX2_goes_181 : decode cX2_goes 181 = .ok (.getfield 29, 3) := by decide +kernel
theorem dX2_goes_184 : decode cX2_goes 184 = .ok (.iload_n 1, 1) := by decide +kernel
theorem dX2_goes_185 : decode cX2_goes 185 = .ok (.if_icmp .ne 7, 3) := by decide +kernel
theorem dX2_goes_188 : decode cX2_goes 188 = .ok (.iconst (-1), 1) := by decide +kernel
theorem dX2_goes_189 : decode cX2_goes 189 = .ok (.goto 20, 3) := by decide +kernel
theorem dX2_goes_192 : decode cX2_goes 192 = .ok (.aload_n 0, 1) := by decide +kernel
theorem dX2_goes_193 : decode cX2_goes 193 = .ok (.iload_n 3, 1) := by decide +kernel
theorem dX2_goes_194 : decode cX2_goes 194 = .ok (.aload_n 0, 1) := by decide +kernel
theorem dX2_goes_195 : decode cX2_goes 195 = .ok (.getfield 9, 3) := by decide +kernel
theorem dX2_goes_198 : decode cX2_goes 198 = .ok (.aload_n 0, 1) := by decide +kernel
theorem dX2_goes_199 : decode cX2_goes 199 = .ok (.getfield 29, 3) := by decide +kernel
theorem dX2_goes_202 : decode cX2_goes 202 = .ok (.invokevirtual 74, 3) := by decide +kernel
theorem dX2_goes_205 : decode cX2_goes 205 = .ok (.iand, 1) := by decide +kernel
theorem dX2_goes_206 : decode cX2_goes 206 = .ok (.invokevirtual 78, 3) := by decide +kernel
theorem dX2_goes_209 : decode cX2_goes 209 = .ok (.istore 4, 2) := by decide +kernel
theorem dX2_goes_211 : decode cX2_goes 211 = .ok (.goto (-146), 3) := by decide +kernel
theorem dX2_goes_214 : decode cX2_goes 214 = .ok (.iconst 1, 1) := by decide +kernel
theorem dX2_goes_215 : decode cX2_goes 215 = .ok (.ireturn, 1) := by decide +kernel
theorem dX2_leastOf_0 : decode cX2_leastOf 0 = .ok (.iload_n 1, 1) := by decide +kernel
theorem dX2_leastOf_1 : decode cX2_leastOf 1 = .ok (.ifCond .ne 7, 3) := by decide +kernel
theorem dX2_leastOf_4 : decode cX2_leastOf 4 = .ok (.iconst (-1), 1) := by decide +kernel
theorem dX2_leastOf_5 : decode cX2_leastOf 5 = .ok (.goto 7, 3) := by decide +kernel
theorem dX2_leastOf_8 : decode cX2_leastOf 8 = .ok (.iload_n 1, 1) := by decide +kernel
theorem dX2_leastOf_9 : decode cX2_leastOf 9 = .ok (.invokestatic 81, 3) := by decide +kernel
theorem dX2_leastOf_12 : decode cX2_leastOf 12 = .ok (.ireturn, 1) := by decide +kernel
theorem dX2_comesOut_0 : decode cX2_comesOut 0 = .ok (.iload_n 2, 1) := by decide +kernel
theorem dX2_comesOut_1 : decode cX2_comesOut 1 = .ok (.istore 4, 2) := by decide +kernel
theorem dX2_comesOut_3 : decode cX2_comesOut 3 = .ok (.iconst 0, 1) := by decide +kernel
theorem dX2_comesOut_4 : decode cX2_comesOut 4 = .ok (.istore 5, 2) := by decide +kernel
theorem dX2_comesOut_6 : decode cX2_comesOut 6 = .ok (.iload 5, 2) := by decide +kernel
theorem dX2_comesOut_8 : decode cX2_comesOut 8 = .ok (.aload_n 0, 1) := by decide +kernel
theorem dX2_comesOut_9 : decode cX2_comesOut 9 = .ok (.getfield 22, 3) := by decide +kernel
theorem dX2_comesOut_12 : decode cX2_comesOut 12 = .ok (.if_icmp .ge 39, 3) := by decide +kernel
theorem dX2_comesOut_15 : decode cX2_comesOut 15 = .ok (.aload_n 1, 1) := by decide +kernel
theorem dX2_comesOut_16 : decode cX2_comesOut 16 = .ok (.aload_n 0, 1) := by decide +kernel
theorem dX2_comesOut_17 : decode cX2_comesOut 17 = .ok (.getfield 9, 3) := by decide +kernel
theorem dX2_comesOut_20 : decode cX2_comesOut 20 = .ok (.getfield 55, 3) := by decide +kernel
theorem dX2_comesOut_23 : decode cX2_comesOut 23 = .ok (.aload_n 0, 1) := by decide +kernel
theorem dX2_comesOut_24 : decode cX2_comesOut 24 = .ok (.getfield 15, 3) := by decide +kernel
theorem dX2_comesOut_27 : decode cX2_comesOut 27 = .ok (.iload 5, 2) := by decide +kernel
theorem dX2_comesOut_29 : decode cX2_comesOut 29 = .ok (.iaload, 1) := by decide +kernel
theorem dX2_comesOut_30 : decode cX2_comesOut 30 = .ok (.aload_n 0, 1) := by decide +kernel
theorem dX2_comesOut_31 : decode cX2_comesOut 31 = .ok (.getfield 19, 3) := by decide +kernel
theorem dX2_comesOut_34 : decode cX2_comesOut 34 = .ok (.iload 5, 2) := by decide +kernel
theorem dX2_comesOut_36 : decode cX2_comesOut 36 = .ok (.iaload, 1) := by decide +kernel
theorem dX2_comesOut_37 : decode cX2_comesOut 37 = .ok (.iload_n 3, 1) := by decide +kernel
theorem dX2_comesOut_38 : decode cX2_comesOut 38 = .ok (.iload 4, 2) := by decide +kernel
theorem dX2_comesOut_40 : decode cX2_comesOut 40 = .ok (.invokevirtual 86, 3) := by decide +kernel
theorem dX2_comesOut_43 : decode cX2_comesOut 43 = .ok (.istore 4, 2) := by decide +kernel
theorem dX2_comesOut_45 : decode cX2_comesOut 45 = .ok (.iinc 5 1, 3) := by decide +kernel
theorem dX2_comesOut_48 : decode cX2_comesOut 48 = .ok (.goto (-42), 3) := by decide +kernel
theorem dX2_comesOut_51 : decode cX2_comesOut 51 = .ok (.iload 4, 2) := by decide +kernel
theorem dX2_comesOut_53 : decode cX2_comesOut 53 = .ok (.ireturn, 1) := by decide +kernel
theorem dX2_imagesAt_0 : decode cX2_imagesAt 0 = .ok (.iconst 0, 1) := by decide +kernel
theorem dX2_imagesAt_1 : decode cX2_imagesAt 1 = .ok (.istore 4, 2) := by decide +kernel
theorem dX2_imagesAt_3 : decode cX2_imagesAt 3 = .ok (.iload 4, 2) := by decide +kernel
theorem dX2_imagesAt_5 : decode cX2_imagesAt 5 = .ok (.aload_n 3, 1) := by decide +kernel
theorem dX2_imagesAt_6 : decode cX2_imagesAt 6 = .ok (.arraylength, 1) := by decide +kernel
theorem dX2_imagesAt_7 : decode cX2_imagesAt 7 = .ok (.if_icmp .ge 21, 3) := by decide +kernel
theorem dX2_imagesAt_10 : decode cX2_imagesAt 10 = .ok (.aload_n 3, 1) := by decide +kernel
theorem dX2_imagesAt_11 : decode cX2_imagesAt 11 = .ok (.iload 4, 2) := by decide +kernel
theorem dX2_imagesAt_13 : decode cX2_imagesAt 13 = .ok (.aload_n 0, 1) := by decide +kernel
theorem dX2_imagesAt_14 : decode cX2_imagesAt 14 = .ok (.aload_n 1, 1) := by decide +kernel
theorem dX2_imagesAt_15 : decode cX2_imagesAt 15 = .ok (.iload 4, 2) := by decide +kernel
theorem dX2_imagesAt_17 : decode cX2_imagesAt 17 = .ok (.iload_n 2, 1) := by decide +kernel
theorem dX2_imagesAt_18 : decode cX2_imagesAt 18 = .ok (.invokevirtual 92, 3) := by decide +kernel
theorem dX2_imagesAt_21 : decode cX2_imagesAt 21 = .ok (.iastore, 1) := by decide +kernel
theorem dX2_imagesAt_22 : decode cX2_imagesAt 22 = .ok (.iinc 4 1, 3) := by decide +kernel
theorem dX2_imagesAt_25 : decode cX2_imagesAt 25 = .ok (.goto (-22), 3) := by decide +kernel
theorem dX2_imagesAt_28 : decode cX2_imagesAt 28 = .ok (.return_, 1) := by decide +kernel
theorem dX2_learnSteps_0 : decode cX2_learnSteps 0 = .ok (.iconst 0, 1) := by decide +kernel
theorem dX2_learnSteps_1 : decode cX2_learnSteps 1 = .ok (.istore_n 2, 1) := by decide +kernel
theorem dX2_learnSteps_2 : decode cX2_learnSteps 2 = .ok (.iload_n 2, 1) := by decide +kernel
theorem dX2_learnSteps_3 : decode cX2_learnSteps 3 = .ok (.aload_n 0, 1) := by decide +kernel
theorem dX2_learnSteps_4 : decode cX2_learnSteps 4 = .ok (.getfield 9, 3) := by decide +kernel
theorem dX2_learnSteps_7 : decode cX2_learnSteps 7 = .ok (.getfield 96, 3) := by decide +kernel
theorem dX2_learnSteps_10 : decode cX2_learnSteps 10 = .ok (.if_icmp .ge 75, 3) := by decide +kernel
theorem dX2_learnSteps_13 : decode cX2_learnSteps 13 = .ok (.iconst 0, 1) := by decide +kernel
theorem dX2_learnSteps_14 : decode cX2_learnSteps 14 = .ok (.istore_n 3, 1) := by decide +kernel
theorem dX2_learnSteps_15 : decode cX2_learnSteps 15 = .ok (.iload_n 3, 1) := by decide +kernel
theorem dX2_learnSteps_16 : decode cX2_learnSteps 16 = .ok (.bipush 8, 2) := by decide +kernel
theorem dX2_learnSteps_18 : decode cX2_learnSteps 18 = .ok (.if_icmp .ge 61, 3) := by decide +kernel
theorem dX2_learnSteps_21 : decode cX2_learnSteps 21 = .ok (.aload_n 0, 1) := by decide +kernel
theorem dX2_learnSteps_22 : decode cX2_learnSteps 22 = .ok (.getfield 32, 3) := by decide +kernel
theorem dX2_learnSteps_25 : decode cX2_learnSteps 25 = .ok (.iload_n 2, 1) := by decide +kernel
theorem dX2_learnSteps_26 : decode cX2_learnSteps 26 = .ok (.iconst 0, 1) := by decide +kernel
theorem dX2_learnSteps_27 : decode cX2_learnSteps 27 = .ok (.iload_n 3, 1) := by decide +kernel
theorem dX2_learnSteps_28 : decode cX2_learnSteps 28 = .ok (.invokestatic 99, 3) := by decide +kernel
theorem dX2_learnSteps_31 : decode cX2_learnSteps 31 = .ok (.aload_n 1, 1) := by decide +kernel
theorem dX2_learnSteps_32 : decode cX2_learnSteps 32 = .ok (.aload_n 0, 1) := by decide +kernel
theorem dX2_learnSteps_33 : decode cX2_learnSteps 33 = .ok (.getfield 9, 3) := by decide +kernel
theorem dX2_learnSteps_36 : decode cX2_learnSteps 36 = .ok (.getfield 55, 3) := by decide +kernel
theorem dX2_learnSteps_39 : decode cX2_learnSteps 39 = .ok (.iload_n 2, 1) := by decide +kernel
theorem dX2_learnSteps_40 : decode cX2_learnSteps 40 = .ok (.iconst 0, 1) := by decide +kernel
theorem dX2_learnSteps_41 : decode cX2_learnSteps 41 = .ok (.iconst 0, 1) := by decide +kernel
theorem dX2_learnSteps_42 : decode cX2_learnSteps 42 = .ok (.iload_n 3, 1) := by decide +kernel
theorem dX2_learnSteps_43 : decode cX2_learnSteps 43 = .ok (.invokevirtual 86, 3) := by decide +kernel
theorem dX2_learnSteps_46 : decode cX2_learnSteps 46 = .ok (.iastore, 1) := by decide +kernel
theorem dX2_learnSteps_47 : decode cX2_learnSteps 47 = .ok (.aload_n 0, 1) := by decide +kernel
theorem dX2_learnSteps_48 : decode cX2_learnSteps 48 = .ok (.getfield 32, 3) := by decide +kernel
theorem dX2_learnSteps_51 : decode cX2_learnSteps 51 = .ok (.iload_n 2, 1) := by decide +kernel
theorem dX2_learnSteps_52 : decode cX2_learnSteps 52 = .ok (.iconst 1, 1) := by decide +kernel
theorem dX2_learnSteps_53 : decode cX2_learnSteps 53 = .ok (.iload_n 3, 1) := by decide +kernel
theorem dX2_learnSteps_54 : decode cX2_learnSteps 54 = .ok (.invokestatic 99, 3) := by decide +kernel
theorem dX2_learnSteps_57 : decode cX2_learnSteps 57 = .ok (.aload_n 1, 1) := by decide +kernel
theorem dX2_learnSteps_58 : decode cX2_learnSteps 58 = .ok (.aload_n 0, 1) := by decide +kernel
theorem dX2_learnSteps_59 : decode cX2_learnSteps 59 = .ok (.getfield 9, 3) := by decide +kernel
theorem dX2_learnSteps_62 : decode cX2_learnSteps 62 = .ok (.getfield 55, 3) := by decide +kernel
theorem dX2_learnSteps_65 : decode cX2_learnSteps 65 = .ok (.iload_n 2, 1) := by decide +kernel
theorem dX2_learnSteps_66 : decode cX2_learnSteps 66 = .ok (.iconst 1, 1) := by decide +kernel
theorem dX2_learnSteps_67 : decode cX2_learnSteps 67 = .ok (.iconst 0, 1) := by decide +kernel
theorem dX2_learnSteps_68 : decode cX2_learnSteps 68 = .ok (.iload_n 3, 1) := by decide +kernel
theorem dX2_learnSteps_69 : decode cX2_learnSteps 69 = .ok (.invokevirtual 86, 3) := by decide +kernel
theorem dX2_learnSteps_72 : decode cX2_learnSteps 72 = .ok (.iastore, 1) := by decide +kernel
theorem dX2_learnSteps_73 : decode cX2_learnSteps 73 = .ok (.iinc 3 1, 3) := by decide +kernel
theorem dX2_learnSteps_76 : decode cX2_learnSteps 76 = .ok (.goto (-61), 3) := by decide +kernel
theorem dX2_learnSteps_79 : decode cX2_learnSteps 79 = .ok (.iinc 2 1, 3) := by decide +kernel
theorem dX2_learnSteps_82 : decode cX2_learnSteps 82 = .ok (.goto (-80), 3) := by decide +kernel
theorem dX2_learnSteps_85 : decode cX2_learnSteps 85 = .ok (.return_, 1) := by decide +kernel
theorem dX2_stepAt_0 : decode cX2_stepAt 0 = .ok (.iload_n 0, 1) := by decide +kernel
theorem dX2_stepAt_1 : decode cX2_stepAt 1 = .ok (.iconst 2, 1) := by decide +kernel
theorem dX2_stepAt_2 : decode cX2_stepAt 2 = .ok (.imul, 1) := by decide +kernel
theorem dX2_stepAt_3 : decode cX2_stepAt 3 = .ok (.iload_n 1, 1) := by decide +kernel
theorem dX2_stepAt_4 : decode cX2_stepAt 4 = .ok (.iadd, 1) := by decide +kernel
theorem dX2_stepAt_5 : decode cX2_stepAt 5 = .ok (.bipush 8, 2) := by decide +kernel
theorem dX2_stepAt_7 : decode cX2_stepAt 7 = .ok (.imul, 1) := by decide +kernel
theorem dX2_stepAt_8 : decode cX2_stepAt 8 = .ok (.iload_n 2, 1) := by decide +kernel
theorem dX2_stepAt_9 : decode cX2_stepAt 9 = .ok (.iadd, 1) := by decide +kernel
theorem dX2_stepAt_10 : decode cX2_stepAt 10 = .ok (.ireturn, 1) := by decide +kernel
theorem dX2_keptByLearntSteps_0 : decode cX2_keptByLearntSteps 0 = .ok (.iconst 0, 1) := by decide +kernel
theorem dX2_keptByLearntSteps_1 : decode cX2_keptByLearntSteps 1 = .ok (.istore_n 1, 1) := by decide +kernel
theorem dX2_keptByLearntSteps_2 : decode cX2_keptByLearntSteps 2 = .ok (.iconst 0, 1) := by decide +kernel
theorem dX2_keptByLearntSteps_3 : decode cX2_keptByLearntSteps 3 = .ok (.istore_n 2, 1) := by decide +kernel
theorem dX2_keptByLearntSteps_4 : decode cX2_keptByLearntSteps 4 = .ok (.iload_n 2, 1) := by decide +kernel
theorem dX2_keptByLearntSteps_5 : decode cX2_keptByLearntSteps 5 = .ok (.bipush 8, 2) := by decide +kernel
theorem dX2_keptByLearntSteps_7 : decode cX2_keptByLearntSteps 7 = .ok (.if_icmp .ge 66, 3) := by decide +kernel
theorem dX2_keptByLearntSteps_10 : decode cX2_keptByLearntSteps 10 = .ok (.iload_n 2, 1) := by decide +kernel
theorem dX2_keptByLearntSteps_11 : decode cX2_keptByLearntSteps 11 = .ok (.istore_n 3, 1) := by decide +kernel
theorem dX2_keptByLearntSteps_12 : decode cX2_keptByLearntSteps 12 = .ok (.iconst 0, 1) := by decide +kernel
theorem dX2_keptByLearntSteps_13 : decode cX2_keptByLearntSteps 13 = .ok (.istore 4, 2) := by decide +kernel
theorem dX2_keptByLearntSteps_15 : decode cX2_keptByLearntSteps 15 = .ok (.iload 4, 2) := by decide +kernel
theorem dX2_keptByLearntSteps_17 : decode cX2_keptByLearntSteps 17 = .ok (.aload_n 0, 1) := by decide +kernel
theorem dX2_keptByLearntSteps_18 : decode cX2_keptByLearntSteps 18 = .ok (.getfield 22, 3) := by decide +kernel
theorem dX2_keptByLearntSteps_21 : decode cX2_keptByLearntSteps 21 = .ok (.if_icmp .ge 33, 3) := by decide +kernel
theorem dX2_keptByLearntSteps_24 : decode cX2_keptByLearntSteps 24 = .ok (.aload_n 0, 1) := by decide +kernel
theorem dX2_keptByLearntSteps_25 : decode cX2_keptByLearntSteps 25 = .ok (.getfield 32, 3) := by decide +kernel
theorem dX2_keptByLearntSteps_28 : decode cX2_keptByLearntSteps 28 = .ok (.aload_n 0, 1) := by decide +kernel
theorem dX2_keptByLearntSteps_29 : decode cX2_keptByLearntSteps 29 = .ok (.getfield 15, 3) := by decide +kernel
theorem dX2_keptByLearntSteps_32 : decode cX2_keptByLearntSteps 32 = .ok (.iload 4, 2) := by decide +kernel
theorem dX2_keptByLearntSteps_34 : decode cX2_keptByLearntSteps 34 = .ok (.iaload, 1) := by decide +kernel
theorem dX2_keptByLearntSteps_35 : decode cX2_keptByLearntSteps 35 = .ok (.aload_n 0, 1) := by decide +kernel
theorem dX2_keptByLearntSteps_36 : decode cX2_keptByLearntSteps 36 = .ok (.getfield 19, 3) := by decide +kernel
theorem dX2_keptByLearntSteps_39 : decode cX2_keptByLearntSteps 39 = .ok (.iload 4, 2) := by decide +kernel
theorem dX2_keptByLearntSteps_41 : decode cX2_keptByLearntSteps 41 = .ok (.iaload, 1) := by decide +kernel
theorem dX2_keptByLearntSteps_42 : decode cX2_keptByLearntSteps 42 = .ok (.iload_n 3, 1) := by decide +kernel
theorem dX2_keptByLearntSteps_43 : decode cX2_keptByLearntSteps 43 = .ok (.invokestatic 99, 3) := by decide +kernel
theorem dX2_keptByLearntSteps_46 : decode cX2_keptByLearntSteps 46 = .ok (.iaload, 1) := by decide +kernel
theorem dX2_keptByLearntSteps_47 : decode cX2_keptByLearntSteps 47 = .ok (.istore_n 3, 1) := by decide +kernel
theorem dX2_keptByLearntSteps_48 : decode cX2_keptByLearntSteps 48 = .ok (.iinc 4 1, 3) := by decide +kernel
theorem dX2_keptByLearntSteps_51 : decode cX2_keptByLearntSteps 51 = .ok (.goto (-36), 3) := by decide +kernel
theorem dX2_keptByLearntSteps_54 : decode cX2_keptByLearntSteps 54 = .ok (.iload_n 1, 1) := by decide +kernel
theorem dX2_keptByLearntSteps_55 : decode cX2_keptByLearntSteps 55 = .ok (.iload_n 3, 1) := by decide +kernel
theorem dX2_keptByLearntSteps_56 : decode cX2_keptByLearntSteps 56 = .ok (.iload_n 2, 1) := by decide +kernel
theorem dX2_keptByLearntSteps_57 : decode cX2_keptByLearntSteps 57 = .ok (.if_icmp .ne 7, 3) := by decide +kernel
theorem dX2_keptByLearntSteps_60 : decode cX2_keptByLearntSteps 60 = .ok (.iconst 1, 1) := by decide +kernel
theorem dX2_keptByLearntSteps_61 : decode cX2_keptByLearntSteps 61 = .ok (.goto 4, 3) := by decide +kernel
theorem dX2_keptByLearntSteps_64 : decode cX2_keptByLearntSteps 64 = .ok (.iconst 0, 1) := by decide +kernel
theorem dX2_keptByLearntSteps_65 : decode cX2_keptByLearntSteps 65 = .ok (.iadd, 1) := by decide +kernel
theorem dX2_keptByLearntSteps_66 : decode cX2_keptByLearntSteps 66 = .ok (.istore_n 1, 1) := by decide +kernel
theorem dX2_keptByLearntSteps_67 : decode cX2_keptByLearntSteps 67 = .ok (.iinc 2 1, 3) := by decide +kernel
theorem dX2_keptByLearntSteps_70 : decode cX2_keptByLearntSteps 70 = .ok (.goto (-66), 3) := by decide +kernel
theorem dX2_keptByLearntSteps_73 : decode cX2_keptByLearntSteps 73 = .ok (.iload_n 1, 1) := by decide +kernel
theorem dX2_keptByLearntSteps_74 : decode cX2_keptByLearntSteps 74 = .ok (.ireturn, 1) := by decide +kernel
theorem dX2_spread_0 : decode cX2_spread 0 = .ok (.iconst 0, 1) := by decide +kernel
theorem dX2_spread_1 : decode cX2_spread 1 = .ok (.istore 4, 2) := by decide +kernel
theorem dX2_spread_3 : decode cX2_spread 3 = .ok (.iload 4, 2) := by decide +kernel
theorem dX2_spread_5 : decode cX2_spread 5 = .ok (.bipush 8, 2) := by decide +kernel
theorem dX2_spread_7 : decode cX2_spread 7 = .ok (.if_icmp .ge 27, 3) := by decide +kernel
theorem dX2_spread_10 : decode cX2_spread 10 = .ok (.aload_n 0, 1) := by decide +kernel
theorem dX2_spread_11 : decode cX2_spread 11 = .ok (.getfield 35, 3) := by decide +kernel
theorem dX2_spread_14 : decode cX2_spread 14 = .ok (.iload 4, 2) := by decide +kernel
theorem dX2_spread_16 : decode cX2_spread 16 = .ok (.iload 4, 2) := by decide +kernel
theorem dX2_spread_18 : decode cX2_spread 18 = .ok (.iload_n 2, 1) := by decide +kernel
theorem dX2_spread_19 : decode cX2_spread 19 = .ok (.if_icmp .ne 7, 3) := by decide +kernel
theorem dX2_spread_22 : decode cX2_spread 22 = .ok (.lconst 1, 1) := by decide +kernel
theorem dX2_spread_23 : decode cX2_spread 23 = .ok (.goto 4, 3) := by decide +kernel
theorem dX2_spread_26 : decode cX2_spread 26 = .ok (.lconst 0, 1) := by decide +kernel
theorem dX2_spread_27 : decode cX2_spread 27 = .ok (.lastore, 1) := by decide +kernel
theorem dX2_spread_28 : decode cX2_spread 28 = .ok (.iinc 4 1, 3) := by decide +kernel
theorem dX2_spread_31 : decode cX2_spread 31 = .ok (.goto (-28), 3) := by decide +kernel
theorem dX2_spread_34 : decode cX2_spread 34 = .ok (.lconst 1, 1) := by decide +kernel
theorem dX2_spread_35 : decode cX2_spread 35 = .ok (.lstore 4, 2) := by decide +kernel
theorem dX2_spread_37 : decode cX2_spread 37 = .ok (.iconst 0, 1) := by decide +kernel
theorem dX2_spread_38 : decode cX2_spread 38 = .ok (.istore 6, 2) := by decide +kernel
theorem dX2_spread_40 : decode cX2_spread 40 = .ok (.iload 6, 2) := by decide +kernel
theorem dX2_spread_42 : decode cX2_spread 42 = .ok (.aload_n 0, 1) := by decide +kernel
theorem dX2_spread_43 : decode cX2_spread 43 = .ok (.getfield 22, 3) := by decide +kernel
theorem dX2_spread_46 : decode cX2_spread 46 = .ok (.if_icmp .ge 130, 3) := by decide +kernel
theorem dX2_spread_49 : decode cX2_spread 49 = .ok (.iconst 0, 1) := by decide +kernel
theorem dX2_spread_50 : decode cX2_spread 50 = .ok (.istore 7, 2) := by decide +kernel
theorem dX2_spread_52 : decode cX2_spread 52 = .ok (.iload 7, 2) := by decide +kernel
theorem dX2_spread_54 : decode cX2_spread 54 = .ok (.bipush 8, 2) := by decide +kernel
theorem dX2_spread_56 : decode cX2_spread 56 = .ok (.if_icmp .ge 26, 3) := by decide +kernel
theorem dX2_spread_59 : decode cX2_spread 59 = .ok (.aload_n 0, 1) := by decide +kernel
theorem dX2_spread_60 : decode cX2_spread 60 = .ok (.getfield 39, 3) := by decide +kernel
theorem dX2_spread_63 : decode cX2_spread 63 = .ok (.iload 7, 2) := by decide +kernel
theorem dX2_spread_65 : decode cX2_spread 65 = .ok (.aload_n 0, 1) := by decide +kernel
theorem dX2_spread_66 : decode cX2_spread 66 = .ok (.getfield 35, 3) := by decide +kernel
theorem dX2_spread_69 : decode cX2_spread 69 = .ok (.iload 7, 2) := by decide +kernel
theorem dX2_spread_71 : decode cX2_spread 71 = .ok (.laload, 1) := by decide +kernel
theorem dX2_spread_72 : decode cX2_spread 72 = .ok (.iload_n 3, 1) := by decide +kernel
theorem dX2_spread_73 : decode cX2_spread 73 = .ok (.i2l, 1) := by decide +kernel
theorem dX2_spread_74 : decode cX2_spread 74 = .ok (.lmul, 1) := by decide +kernel
theorem dX2_spread_75 : decode cX2_spread 75 = .ok (.lastore, 1) := by decide +kernel
theorem dX2_spread_76 : decode cX2_spread 76 = .ok (.iinc 7 1, 3) := by decide +kernel
theorem dX2_spread_79 : decode cX2_spread 79 = .ok (.goto (-27), 3) := by decide +kernel
theorem dX2_spread_82 : decode cX2_spread 82 = .ok (.iconst 0, 1) := by decide +kernel
theorem dX2_spread_83 : decode cX2_spread 83 = .ok (.istore 7, 2) := by decide +kernel
theorem dX2_spread_85 : decode cX2_spread 85 = .ok (.iload 7, 2) := by decide +kernel
theorem dX2_spread_87 : decode cX2_spread 87 = .ok (.bipush 8, 2) := by decide +kernel
theorem dX2_spread_89 : decode cX2_spread 89 = .ok (.if_icmp .ge 58, 3) := by decide +kernel
theorem dX2_spread_92 : decode cX2_spread 92 = .ok (.aload_n 0, 1) := by decide +kernel
theorem dX2_spread_93 : decode cX2_spread 93 = .ok (.getfield 39, 3) := by decide +kernel
theorem dX2_spread_96 : decode cX2_spread 96 = .ok (.aload_n 1, 1) := by decide +kernel
theorem dX2_spread_97 : decode cX2_spread 97 = .ok (.aload_n 0, 1) := by decide +kernel
theorem dX2_spread_98 : decode cX2_spread 98 = .ok (.getfield 9, 3) := by decide +kernel
theorem dX2_spread_101 : decode cX2_spread 101 = .ok (.getfield 55, 3) := by decide +kernel
theorem dX2_spread_104 : decode cX2_spread 104 = .ok (.aload_n 0, 1) := by decide +kernel
theorem dX2_spread_105 : decode cX2_spread 105 = .ok (.getfield 15, 3) := by decide +kernel
theorem dX2_spread_108 : decode cX2_spread 108 = .ok (.iload 6, 2) := by decide +kernel
theorem dX2_spread_110 : decode cX2_spread 110 = .ok (.iaload, 1) := by decide +kernel
theorem dX2_spread_111 : decode cX2_spread 111 = .ok (.aload_n 0, 1) := by decide +kernel
theorem dX2_spread_112 : decode cX2_spread 112 = .ok (.getfield 19, 3) := by decide +kernel
theorem dX2_spread_115 : decode cX2_spread 115 = .ok (.iload 6, 2) := by decide +kernel
theorem dX2_spread_117 : decode cX2_spread 117 = .ok (.iaload, 1) := by decide +kernel
theorem dX2_spread_118 : decode cX2_spread 118 = .ok (.iconst 0, 1) := by decide +kernel
theorem dX2_spread_119 : decode cX2_spread 119 = .ok (.iload 7, 2) := by decide +kernel
theorem dX2_spread_121 : decode cX2_spread 121 = .ok (.invokevirtual 86, 3) := by decide +kernel
theorem dX2_spread_124 : decode cX2_spread 124 = .ok (.dup2, 1) := by decide +kernel
theorem dX2_spread_125 : decode cX2_spread 125 = .ok (.laload, 1) := by decide +kernel
theorem dX2_spread_126 : decode cX2_spread 126 = .ok (.aload_n 0, 1) := by decide +kernel
theorem dX2_spread_127 : decode cX2_spread 127 = .ok (.getfield 35, 3) := by decide +kernel
theorem dX2_spread_130 : decode cX2_spread 130 = .ok (.iload 7, 2) := by decide +kernel
theorem dX2_spread_132 : decode cX2_spread 132 = .ok (.laload, 1) := by decide +kernel
theorem dX2_spread_133 : decode cX2_spread 133 = .ok (.bipush 10, 2) := by decide +kernel
theorem dX2_spread_135 : decode cX2_spread 135 = .ok (.iload_n 3, 1) := by decide +kernel
theorem dX2_spread_136 : decode cX2_spread 136 = .ok (.isub, 1) := by decide +kernel
theorem dX2_spread_137 : decode cX2_spread 137 = .ok (.i2l, 1) := by decide +kernel
theorem dX2_spread_138 : decode cX2_spread 138 = .ok (.lmul, 1) := by decide +kernel
theorem dX2_spread_139 : decode cX2_spread 139 = .ok (.ladd, 1) := by decide +kernel
theorem dX2_spread_140 : decode cX2_spread 140 = .ok (.lastore, 1) := by decide +kernel
theorem dX2_spread_141 : decode cX2_spread 141 = .ok (.iinc 7 1, 3) := by decide +kernel
theorem dX2_spread_144 : decode cX2_spread 144 = .ok (.goto (-59), 3) := by decide +kernel
theorem dX2_spread_147 : decode cX2_spread 147 = .ok (.aload_n 0, 1) := by decide +kernel
theorem dX2_spread_148 : decode cX2_spread 148 = .ok (.getfield 39, 3) := by decide +kernel
theorem dX2_spread_151 : decode cX2_spread 151 = .ok (.iconst 0, 1) := by decide +kernel
theorem dX2_spread_152 : decode cX2_spread 152 = .ok (.aload_n 0, 1) := by decide +kernel
theorem dX2_spread_153 : decode cX2_spread 153 = .ok (.getfield 35, 3) := by decide +kernel
theorem dX2_spread_156 : decode cX2_spread 156 = .ok (.iconst 0, 1) := by decide +kernel
theorem dX2_spread_157 : decode cX2_spread 157 = .ok (.bipush 8, 2) := by decide +kernel
theorem dX2_spread_159 : decode cX2_spread 159 = .ok (.invokestatic 103, 3) := by decide +kernel
theorem dX2_spread_162 : decode cX2_spread 162 = .ok (.lload 4, 2) := by decide +kernel
theorem dX2_spread_164 : decode cX2_spread 164 = .ok (.ldc2_w 109, 3) := by decide +kernel
theorem dX2_spread_167 : decode cX2_spread 167 = .ok (.lmul, 1) := by decide +kernel
theorem dX2_spread_168 : decode cX2_spread 168 = .ok (.lstore 4, 2) := by decide +kernel
theorem dX2_spread_170 : decode cX2_spread 170 = .ok (.iinc 6 1, 3) := by decide +kernel
theorem dX2_spread_173 : decode cX2_spread 173 = .ok (.goto (-133), 3) := by decide +kernel
theorem dX2_spread_176 : decode cX2_spread 176 = .ok (.lload 4, 2) := by decide +kernel
theorem dX2_spread_178 : decode cX2_spread 178 = .ok (.lreturn, 1) := by decide +kernel
theorem dX3_init_0 : decode cX3_init 0 = .ok (.aload_n 0, 1) := by decide +kernel
theorem dX3_init_1 : decode cX3_init 1 = .ok (.invokespecial 3, 3) := by decide +kernel
theorem dX3_init_4 : decode cX3_init 4 = .ok (.aload_n 0, 1) := by decide +kernel
theorem dX3_init_5 : decode cX3_init 5 = .ok (.bipush 10, 2) := by decide +kernel
theorem dX3_init_7 : decode cX3_init 7 = .ok (.newarray .int, 2) := by decide +kernel
theorem dX3_init_9 : decode cX3_init 9 = .ok (.putfield 11, 3) := by decide +kernel
theorem dX3_init_12 : decode cX3_init 12 = .ok (.aload_n 0, 1) := by decide +kernel
theorem dX3_init_13 : decode cX3_init 13 = .ok (.bipush 10, 2) := by decide +kernel
theorem dX3_init_15 : decode cX3_init 15 = .ok (.newarray .int, 2) := by decide +kernel
theorem dX3_init_17 : decode cX3_init 17 = .ok (.putfield 15, 3) := by decide +kernel
theorem dX3_init_20 : decode cX3_init 20 = .ok (.aload_n 0, 1) := by decide +kernel
theorem dX3_init_21 : decode cX3_init 21 = .ok (.bipush 10, 2) := by decide +kernel
theorem dX3_init_23 : decode cX3_init 23 = .ok (.newarray .int, 2) := by decide +kernel
theorem dX3_init_25 : decode cX3_init 25 = .ok (.putfield 18, 3) := by decide +kernel
theorem dX3_init_28 : decode cX3_init 28 = .ok (.aload_n 0, 1) := by decide +kernel
theorem dX3_init_29 : decode cX3_init 29 = .ok (.iconst 0, 1) := by decide +kernel
theorem dX3_init_30 : decode cX3_init 30 = .ok (.putfield 21, 3) := by decide +kernel
theorem dX3_init_33 : decode cX3_init 33 = .ok (.aload_n 0, 1) := by decide +kernel
theorem dX3_init_34 : decode cX3_init 34 = .ok (.bipush 64, 2) := by decide +kernel
theorem dX3_init_36 : decode cX3_init 36 = .ok (.newarray .int, 2) := by decide +kernel
theorem dX3_init_38 : decode cX3_init 38 = .ok (.putfield 25, 3) := by decide +kernel
theorem dX3_init_41 : decode cX3_init 41 = .ok (.aload_n 0, 1) := by decide +kernel
theorem dX3_init_42 : decode cX3_init 42 = .ok (.iconst 0, 1) := by decide +kernel
theorem dX3_init_43 : decode cX3_init 43 = .ok (.putfield 28, 3) := by decide +kernel
theorem dX3_init_46 : decode cX3_init 46 = .ok (.aload_n 0, 1) := by decide +kernel
theorem dX3_init_47 : decode cX3_init 47 = .ok (.bipush 8, 2) := by decide +kernel
theorem dX3_init_49 : decode cX3_init 49 = .ok (.newarray .int, 2) := by decide +kernel
theorem dX3_init_51 : decode cX3_init 51 = .ok (.putfield 31, 3) := by decide +kernel
theorem dX3_init_54 : decode cX3_init 54 = .ok (.return_, 1) := by decide +kernel
theorem dX3_add_0 : decode cX3_add 0 = .ok (.iload_n 2, 1) := by decide +kernel
theorem dX3_add_1 : decode cX3_add 1 = .ok (.ifCond .lt 13, 3) := by decide +kernel
theorem dX3_add_4 : decode cX3_add 4 = .ok (.iload_n 2, 1) := by decide +kernel
theorem dX3_add_5 : decode cX3_add 5 = .ok (.bipush 9, 2) := by decide +kernel
theorem dX3_add_7 : decode cX3_add 7 = .ok (.if_icmp .gt 7, 3) := by decide +kernel
theorem dX3_add_10 : decode cX3_add 10 = .ok (.iconst 1, 1) := by decide +kernel
theorem dX3_add_11 : decode cX3_add 11 = .ok (.goto 4, 3) := by decide +kernel
theorem dX3_add_14 : decode cX3_add 14 = .ok (.iconst 0, 1) := by decide +kernel
theorem dX3_add_15 : decode cX3_add 15 = .ok (.istore 4, 2) := by decide +kernel
theorem dX3_add_17 : decode cX3_add 17 = .ok (.iload_n 1, 1) := by decide +kernel
theorem dX3_add_18 : decode cX3_add 18 = .ok (.invokestatic 34, 3) := by decide +kernel
theorem dX3_add_21 : decode cX3_add 21 = .ok (.ifCond .eq 24, 3) := by decide +kernel
theorem dX3_add_24 : decode cX3_add 24 = .ok (.iload 4, 2) := by decide +kernel
theorem dX3_add_26 : decode cX3_add 26 = .ok (.ifCond .eq 19, 3) := by decide +kernel
theorem dX3_add_29 : decode cX3_add 29 = .ok (.iload_n 3, 1) := by decide +kernel
theorem dX3_add_30 : decode cX3_add 30 = .ok (.invokestatic 34, 3) := by decide +kernel
theorem dX3_add_33 : decode cX3_add 33 = .ok (.ifCond .eq 12, 3) := by decide +kernel
theorem dX3_add_36 : decode cX3_add 36 = .ok (.aload_n 0, 1) := by decide +kernel
theorem dX3_add_37 : decode cX3_add 37 = .ok (.getfield 21, 3) := by decide +kernel
theorem dX3_add_40 : decode cX3_add 40 = .ok (.bipush 10, 2) := by decide +kernel
theorem dX3_add_42 : decode cX3_add 42 = .ok (.if_icmp .lt 5, 3) := by decide +kernel
theorem dX3_add_45 : decode cX3_add 45 = .ok (.iconst 0, 1) := by decide +kernel
theorem dX3_add_46 : decode cX3_add 46 = .ok (.ireturn, 1) := by decide +kernel
theorem dX3_add_47 : decode cX3_add 47 = .ok (.aload_n 0, 1) := by decide +kernel
theorem dX3_add_48 : decode cX3_add 48 = .ok (.getfield 11, 3) := by decide +kernel
theorem dX3_add_51 : decode cX3_add 51 = .ok (.aload_n 0, 1) := by decide +kernel
theorem dX3_add_52 : decode cX3_add 52 = .ok (.getfield 21, 3) := by decide +kernel
theorem dX3_add_55 : decode cX3_add 55 = .ok (.iload_n 1, 1) := by decide +kernel
theorem dX3_add_56 : decode cX3_add 56 = .ok (.iastore, 1) := by decide +kernel
theorem dX3_add_57 : decode cX3_add 57 = .ok (.aload_n 0, 1) := by decide +kernel
theorem dX3_add_58 : decode cX3_add 58 = .ok (.getfield 15, 3) := by decide +kernel
theorem dX3_add_61 : decode cX3_add 61 = .ok (.aload_n 0, 1) := by decide +kernel
theorem dX3_add_62 : decode cX3_add 62 = .ok (.getfield 21, 3) := by decide +kernel
theorem dX3_add_65 : decode cX3_add 65 = .ok (.iload_n 2, 1) := by decide +kernel
theorem dX3_add_66 : decode cX3_add 66 = .ok (.iastore, 1) := by decide +kernel
theorem dX3_add_67 : decode cX3_add 67 = .ok (.aload_n 0, 1) := by decide +kernel
theorem dX3_add_68 : decode cX3_add 68 = .ok (.getfield 18, 3) := by decide +kernel
theorem dX3_add_71 : decode cX3_add 71 = .ok (.aload_n 0, 1) := by decide +kernel
theorem dX3_add_72 : decode cX3_add 72 = .ok (.getfield 21, 3) := by decide +kernel
theorem dX3_add_75 : decode cX3_add 75 = .ok (.iload_n 3, 1) := by decide +kernel
theorem dX3_add_76 : decode cX3_add 76 = .ok (.iastore, 1) := by decide +kernel
theorem dX3_add_77 : decode cX3_add 77 = .ok (.aload_n 0, 1) := by decide +kernel
theorem dX3_add_78 : decode cX3_add 78 = .ok (.dup, 1) := by decide +kernel
theorem dX3_add_79 : decode cX3_add 79 = .ok (.getfield 21, 3) := by decide +kernel
theorem dX3_add_82 : decode cX3_add 82 = .ok (.iconst 1, 1) := by decide +kernel
theorem dX3_add_83 : decode cX3_add 83 = .ok (.iadd, 1) := by decide +kernel
theorem dX3_add_84 : decode cX3_add 84 = .ok (.putfield 21, 3) := by decide +kernel
theorem dX3_add_87 : decode cX3_add 87 = .ok (.iconst 1, 1) := by decide +kernel
theorem dX3_add_88 : decode cX3_add 88 = .ok (.ireturn, 1) := by decide +kernel
theorem dX3_becomesBy_0 : decode cX3_becomesBy 0 = .ok (.iload_n 0, 1) := by decide +kernel
theorem dX3_becomesBy_1 : decode cX3_becomesBy 1 = .ok (.bipush 8, 2) := by decide +kernel
theorem dX3_becomesBy_3 : decode cX3_becomesBy 3 = .ok (.idiv, 1) := by decide +kernel
theorem dX3_becomesBy_4 : decode cX3_becomesBy 4 = .ok (.iload_n 1, 1) := by decide +kernel
theorem dX3_becomesBy_5 : decode cX3_becomesBy 5 = .ok (.imul, 1) := by decide +kernel
theorem dX3_becomesBy_6 : decode cX3_becomesBy 6 = .ok (.iload_n 0, 1) := by decide +kernel
theorem dX3_becomesBy_7 : decode cX3_becomesBy 7 = .ok (.bipush 8, 2) := by decide +kernel
theorem dX3_becomesBy_9 : decode cX3_becomesBy 9 = .ok (.irem, 1) := by decide +kernel
theorem dX3_becomesBy_10 : decode cX3_becomesBy 10 = .ok (.iload_n 2, 1) := by decide +kernel
theorem dX3_becomesBy_11 : decode cX3_becomesBy 11 = .ok (.imul, 1) := by decide +kernel
theorem dX3_becomesBy_12 : decode cX3_becomesBy 12 = .ok (.iadd, 1) := by decide +kernel
theorem dX3_becomesBy_13 : decode cX3_becomesBy 13 = .ok (.bipush 8, 2) := by decide +kernel
theorem dX3_becomesBy_15 : decode cX3_becomesBy 15 = .ok (.irem, 1) := by decide +kernel
theorem dX3_becomesBy_16 : decode cX3_becomesBy 16 = .ok (.ireturn, 1) := by decide +kernel
theorem dX3_findFitting_0 : decode cX3_findFitting 0 = .ok (.aload_n 0, 1) := by decide +kernel
theorem dX3_findFitting_1 : decode cX3_findFitting 1 = .ok (.iconst 0, 1) := by decide +kernel
theorem dX3_findFitting_2 : decode cX3_findFitting 2 = .ok (.putfield 28, 3) := by decide +kernel
theorem dX3_findFitting_5 : decode cX3_findFitting 5 = .ok (.iconst 0, 1) := by decide +kernel
theorem dX3_findFitting_6 : decode cX3_findFitting 6 = .ok (.istore_n 1, 1) := by decide +kernel
theorem dX3_findFitting_7 : decode cX3_findFitting 7 = .ok (.iload_n 1, 1) := by decide +kernel
theorem dX3_findFitting_8 : decode cX3_findFitting 8 = .ok (.bipush 64, 2) := by decide +kernel
theorem dX3_findFitting_10 : decode cX3_findFitting 10 = .ok (.if_icmp .ge 37, 3) := by decide +kernel
theorem dX3_findFitting_13 : decode cX3_findFitting 13 = .ok (.aload_n 0, 1) := by decide +kernel
theorem dX3_findFitting_14 : decode cX3_findFitting 14 = .ok (.iload_n 1, 1) := by decide +kernel
theorem dX3_findFitting_15 : decode cX3_findFitting 15 = .ok (.invokevirtual 38, 3) := by decide +kernel
theorem dX3_findFitting_18 : decode cX3_findFitting 18 = .ok (.ifCond .eq 23, 3) := by decide +kernel
theorem dX3_findFitting_21 : decode cX3_findFitting 21 = .ok (.aload_n 0, 1) := by decide +kernel
theorem dX3_findFitting_22 : decode cX3_findFitting 22 = .ok (.getfield 25, 3) := by decide +kernel
theorem dX3_findFitting_25 : decode cX3_findFitting 25 = .ok (.aload_n 0, 1) := by decide +kernel
theorem dX3_findFitting_26 : decode cX3_findFitting 26 = .ok (.getfield 28, 3) := by decide +kernel
theorem dX3_findFitting_29 : decode cX3_findFitting 29 = .ok (.iload_n 1, 1) := by decide +kernel
theorem dX3_findFitting_30 : decode cX3_findFitting 30 = .ok (.iastore, 1) := by decide +kernel
theorem dX3_findFitting_31 : decode cX3_findFitting 31 = .ok (.aload_n 0, 1) := by decide +kernel
theorem dX3_findFitting_32 : decode cX3_findFitting 32 = .ok (.dup, 1) := by decide +kernel
theorem dX3_findFitting_33 : decode cX3_findFitting 33 = .ok (.getfield 28, 3) := by decide +kernel
theorem dX3_findFitting_36 : decode cX3_findFitting 36 = .ok (.iconst 1, 1) := by decide +kernel
theorem dX3_findFitting_37 : decode cX3_findFitting 37 = .ok (.iadd, 1) := by decide +kernel
theorem dX3_findFitting_38 : decode cX3_findFitting 38 = .ok (.putfield 28, 3) := by decide +kernel
theorem dX3_findFitting_41 : decode cX3_findFitting 41 = .ok (.iinc 1 1, 3) := by decide +kernel
theorem dX3_findFitting_44 : decode cX3_findFitting 44 = .ok (.goto (-37), 3) := by decide +kernel
theorem dX3_findFitting_47 : decode cX3_findFitting 47 = .ok (.return_, 1) := by decide +kernel
theorem dX3_fitsHeard_0 : decode cX3_fitsHeard 0 = .ok (.iconst 0, 1) := by decide +kernel
theorem dX3_fitsHeard_1 : decode cX3_fitsHeard 1 = .ok (.istore_n 2, 1) := by decide +kernel
theorem dX3_fitsHeard_2 : decode cX3_fitsHeard 2 = .ok (.iload_n 2, 1) := by decide +kernel
theorem dX3_fitsHeard_3 : decode cX3_fitsHeard 3 = .ok (.aload_n 0, 1) := by decide +kernel
theorem dX3_fitsHeard_4 : decode cX3_fitsHeard 4 = .ok (.getfield 21, 3) := by decide +kernel
theorem dX3_fitsHeard_7 : decode cX3_fitsHeard 7 = .ok (.if_icmp .ge 36, 3) := by decide +kernel
theorem dX3_fitsHeard_10 : decode cX3_fitsHeard 10 = .ok (.iload_n 1, 1) := by decide +kernel
theorem dX3_fitsHeard_11 : decode cX3_fitsHeard 11 = .ok (.aload_n 0, 1) := by decide +kernel
theorem dX3_fitsHeard_12 : decode cX3_fitsHeard 12 = .ok (.getfield 11, 3) := by decide +kernel
theorem dX3_fitsHeard_15 : decode cX3_fitsHeard 15 = .ok (.iload_n 2, 1) := by decide +kernel
theorem dX3_fitsHeard_16 : decode cX3_fitsHeard 16 = .ok (.iaload, 1) := by decide +kernel
theorem dX3_fitsHeard_17 : decode cX3_fitsHeard 17 = .ok (.aload_n 0, 1) := by decide +kernel
theorem dX3_fitsHeard_18 : decode cX3_fitsHeard 18 = .ok (.getfield 15, 3) := by decide +kernel
theorem dX3_fitsHeard_21 : decode cX3_fitsHeard 21 = .ok (.iload_n 2, 1) := by decide +kernel
theorem dX3_fitsHeard_22 : decode cX3_fitsHeard 22 = .ok (.iaload, 1) := by decide +kernel
theorem dX3_fitsHeard_23 : decode cX3_fitsHeard 23 = .ok (.invokestatic 41, 3) := by decide +kernel
theorem dX3_fitsHeard_26 : decode cX3_fitsHeard 26 = .ok (.aload_n 0, 1) := by decide +kernel
theorem dX3_fitsHeard_27 : decode cX3_fitsHeard 27 = .ok (.getfield 18, 3) := by decide +kernel
theorem dX3_fitsHeard_30 : decode cX3_fitsHeard 30 = .ok (.iload_n 2, 1) := by decide +kernel
theorem dX3_fitsHeard_31 : decode cX3_fitsHeard 31 = .ok (.iaload, 1) := by decide +kernel
theorem dX3_fitsHeard_32 : decode cX3_fitsHeard 32 = .ok (.if_icmp .eq 5, 3) := by decide +kernel
theorem dX3_fitsHeard_35 : decode cX3_fitsHeard 35 = .ok (.iconst 0, 1) := by decide +kernel
theorem dX3_fitsHeard_36 : decode cX3_fitsHeard 36 = .ok (.ireturn, 1) := by decide +kernel
theorem dX3_fitsHeard_37 : decode cX3_fitsHeard 37 = .ok (.iinc 2 1, 3) := by decide +kernel
theorem dX3_fitsHeard_40 : decode cX3_fitsHeard 40 = .ok (.goto (-38), 3) := by decide +kernel
theorem dX3_fitsHeard_43 : decode cX3_fitsHeard 43 = .ok (.iconst 1, 1) := by decide +kernel
theorem dX3_fitsHeard_44 : decode cX3_fitsHeard 44 = .ok (.ireturn, 1) := by decide +kernel
theorem dX3_mostLeft_0 : decode cX3_mostLeft 0 = .ok (.iconst 0, 1) := by decide +kernel
theorem dX3_mostLeft_1 : decode cX3_mostLeft 1 = .ok (.istore_n 3, 1) := by decide +kernel
theorem dX3_mostLeft_2 : decode cX3_mostLeft 2 = .ok (.iload_n 3, 1) := by decide +kernel
theorem dX3_mostLeft_3 : decode cX3_mostLeft 3 = .ok (.bipush 8, 2) := by decide +kernel
theorem dX3_mostLeft_5 : decode cX3_mostLeft 5 = .ok (.if_icmp .ge 16, 3) := by decide +kernel
theorem dX3_mostLeft_8 : decode cX3_mostLeft 8 = .ok (.aload_n 0, 1) := by decide +kernel
theorem dX3_mostLeft_9 : decode cX3_mostLeft 9 = .ok (.getfield 31, 3) := by decide +kernel
theorem dX3_mostLeft_12 : decode cX3_mostLeft 12 = .ok (.iload_n 3, 1) := by decide +kernel
theorem dX3_mostLeft_13 : decode cX3_mostLeft 13 = .ok (.iconst 0, 1) := by decide +kernel
theorem dX3_mostLeft_14 : decode cX3_mostLeft 14 = .ok (.iastore, 1) := by decide +kernel
theorem dX3_mostLeft_15 : decode cX3_mostLeft 15 = .ok (.iinc 3 1, 3) := by decide +kernel
theorem dX3_mostLeft_18 : decode cX3_mostLeft 18 = .ok (.goto (-16), 3) := by decide +kernel
theorem dX3_mostLeft_21 : decode cX3_mostLeft 21 = .ok (.iconst 0, 1) := by decide +kernel
theorem dX3_mostLeft_22 : decode cX3_mostLeft 22 = .ok (.istore_n 3, 1) := by decide +kernel
theorem dX3_mostLeft_23 : decode cX3_mostLeft 23 = .ok (.iconst 0, 1) := by decide +kernel
theorem dX3_mostLeft_24 : decode cX3_mostLeft 24 = .ok (.istore 4, 2) := by decide +kernel
theorem dX3_mostLeft_26 : decode cX3_mostLeft 26 = .ok (.iload 4, 2) := by decide +kernel
theorem dX3_mostLeft_28 : decode cX3_mostLeft 28 = .ok (.aload_n 0, 1) := by decide +kernel
theorem dX3_mostLeft_29 : decode cX3_mostLeft 29 = .ok (.getfield 28, 3) := by decide +kernel
theorem dX3_mostLeft_32 : decode cX3_mostLeft 32 = .ok (.if_icmp .ge 46, 3) := by decide +kernel
theorem dX3_mostLeft_35 : decode cX3_mostLeft 35 = .ok (.aload_n 0, 1) := by decide +kernel
theorem dX3_mostLeft_36 : decode cX3_mostLeft 36 = .ok (.getfield 25, 3) := by decide +kernel
theorem dX3_mostLeft_39 : decode cX3_mostLeft 39 = .ok (.iload 4, 2) := by decide +kernel
theorem dX3_mostLeft_41 : decode cX3_mostLeft 41 = .ok (.iaload, 1) := by decide +kernel
theorem dX3_mostLeft_42 : decode cX3_mostLeft 42 = .ok (.iload_n 1, 1) := by decide +kernel
theorem dX3_mostLeft_43 : decode cX3_mostLeft 43 = .ok (.iload_n 2, 1) := by decide +kernel
theorem dX3_mostLeft_44 : decode cX3_mostLeft 44 = .ok (.invokestatic 41, 3) := by decide +kernel
theorem dX3_mostLeft_47 : decode cX3_mostLeft 47 = .ok (.istore 5, 2) := by decide +kernel
theorem dX3_mostLeft_49 : decode cX3_mostLeft 49 = .ok (.aload_n 0, 1) := by decide +kernel
theorem dX3_mostLeft_50 : decode cX3_mostLeft 50 = .ok (.getfield 31, 3) := by decide +kernel
theorem dX3_mostLeft_53 : decode cX3_mostLeft 53 = .ok (.iload 5, 2) := by decide +kernel
theorem dX3_mostLeft_55 : decode cX3_mostLeft 55 = .ok (.dup2, 1) := by decide +kernel
theorem dX3_mostLeft_56 : decode cX3_mostLeft 56 = .ok (.iaload, 1) := by decide +kernel
theorem dX3_mostLeft_57 : decode cX3_mostLeft 57 = .ok (.iconst 1, 1) := by decide +kernel
theorem dX3_mostLeft_58 : decode cX3_mostLeft 58 = .ok (.iadd, 1) := by decide +kernel
theorem dX3_mostLeft_59 : decode cX3_mostLeft 59 = .ok (.iastore, 1) := by decide +kernel
theorem dX3_mostLeft_60 : decode cX3_mostLeft 60 = .ok (.iload_n 3, 1) := by decide +kernel
theorem dX3_mostLeft_61 : decode cX3_mostLeft 61 = .ok (.aload_n 0, 1) := by decide +kernel
theorem dX3_mostLeft_62 : decode cX3_mostLeft 62 = .ok (.getfield 31, 3) := by decide +kernel
theorem dX3_mostLeft_65 : decode cX3_mostLeft 65 = .ok (.iload 5, 2) := by decide +kernel
theorem dX3_mostLeft_67 : decode cX3_mostLeft 67 = .ok (.iaload, 1) := by decide +kernel
theorem dX3_mostLeft_68 : decode cX3_mostLeft 68 = .ok (.invokestatic 45, 3) := by decide +kernel
theorem dX3_mostLeft_71 : decode cX3_mostLeft 71 = .ok (.istore_n 3, 1) := by decide +kernel
theorem dX3_mostLeft_72 : decode cX3_mostLeft 72 = .ok (.iinc 4 1, 3) := by decide +kernel
theorem dX3_mostLeft_75 : decode cX3_mostLeft 75 = .ok (.goto (-49), 3) := by decide +kernel
theorem dX3_mostLeft_78 : decode cX3_mostLeft 78 = .ok (.iload_n 3, 1) := by decide +kernel
theorem dX3_mostLeft_79 : decode cX3_mostLeft 79 = .ok (.ireturn, 1) := by decide +kernel
theorem dX4_init_0 : decode cX4_init 0 = .ok (.aload_n 0, 1) := by decide +kernel
theorem dX4_init_1 : decode cX4_init 1 = .ok (.invokespecial 1, 3) := by decide +kernel
theorem dX4_init_4 : decode cX4_init 4 = .ok (.aload_n 0, 1) := by decide +kernel
theorem dX4_init_5 : decode cX4_init 5 = .ok (.bipush 16, 2) := by decide +kernel
theorem dX4_init_7 : decode cX4_init 7 = .ok (.anewarray 9, 3) := by decide +kernel
theorem dX4_init_10 : decode cX4_init 10 = .ok (.putfield 11, 3) := by decide +kernel
theorem dX4_init_13 : decode cX4_init 13 = .ok (.iconst 0, 1) := by decide +kernel
theorem dX4_init_14 : decode cX4_init 14 = .ok (.istore_n 1, 1) := by decide +kernel
theorem dX4_init_15 : decode cX4_init 15 = .ok (.iload_n 1, 1) := by decide +kernel
theorem dX4_init_16 : decode cX4_init 16 = .ok (.bipush 16, 2) := by decide +kernel
theorem dX4_init_18 : decode cX4_init 18 = .ok (.if_icmp .ge 22, 3) := by decide +kernel
theorem dX4_init_21 : decode cX4_init 21 = .ok (.aload_n 0, 1) := by decide +kernel
theorem dX4_init_22 : decode cX4_init 22 = .ok (.getfield 11, 3) := by decide +kernel
theorem dX4_init_25 : decode cX4_init 25 = .ok (.iload_n 1, 1) := by decide +kernel
theorem dX4_init_26 : decode cX4_init 26 = .ok (.new 9, 3) := by decide +kernel
theorem dX4_init_29 : decode cX4_init 29 = .ok (.dup, 1) := by decide +kernel
theorem dX4_init_30 : decode cX4_init 30 = .ok (.invokespecial 15, 3) := by decide +kernel
theorem dX4_init_33 : decode cX4_init 33 = .ok (.aastore, 1) := by decide +kernel
theorem dX4_init_34 : decode cX4_init 34 = .ok (.iinc 1 1, 3) := by decide +kernel
theorem dX4_init_37 : decode cX4_init 37 = .ok (.goto (-22), 3) := by decide +kernel
theorem dX4_init_40 : decode cX4_init 40 = .ok (.aload_n 0, 1) := by decide +kernel
theorem dX4_init_41 : decode cX4_init 41 = .ok (.iconst 0, 1) := by decide +kernel
theorem dX4_init_42 : decode cX4_init 42 = .ok (.putfield 16, 3) := by decide +kernel
theorem dX4_init_45 : decode cX4_init 45 = .ok (.aload_n 0, 1) := by decide +kernel
theorem dX4_init_46 : decode cX4_init 46 = .ok (.iconst 0, 1) := by decide +kernel
theorem dX4_init_47 : decode cX4_init 47 = .ok (.putfield 20, 3) := by decide +kernel
theorem dX4_init_50 : decode cX4_init 50 = .ok (.aload_n 0, 1) := by decide +kernel
theorem dX4_init_51 : decode cX4_init 51 = .ok (.iconst 3, 1) := by decide +kernel
theorem dX4_init_52 : decode cX4_init 52 = .ok (.anewarray 9, 3) := by decide +kernel
theorem dX4_init_55 : decode cX4_init 55 = .ok (.putfield 23, 3) := by decide +kernel
theorem dX4_init_58 : decode cX4_init 58 = .ok (.iconst 0, 1) := by decide +kernel
theorem dX4_init_59 : decode cX4_init 59 = .ok (.istore_n 1, 1) := by decide +kernel
theorem dX4_init_60 : decode cX4_init 60 = .ok (.iload_n 1, 1) := by decide +kernel
theorem dX4_init_61 : decode cX4_init 61 = .ok (.iconst 3, 1) := by decide +kernel
theorem dX4_init_62 : decode cX4_init 62 = .ok (.if_icmp .ge 22, 3) := by decide +kernel
theorem dX4_init_65 : decode cX4_init 65 = .ok (.aload_n 0, 1) := by decide +kernel
theorem dX4_init_66 : decode cX4_init 66 = .ok (.getfield 23, 3) := by decide +kernel
theorem dX4_init_69 : decode cX4_init 69 = .ok (.iload_n 1, 1) := by decide +kernel
theorem dX4_init_70 : decode cX4_init 70 = .ok (.new 9, 3) := by decide +kernel
theorem dX4_init_73 : decode cX4_init 73 = .ok (.dup, 1) := by decide +kernel
theorem dX4_init_74 : decode cX4_init 74 = .ok (.invokespecial 15, 3) := by decide +kernel
theorem dX4_init_77 : decode cX4_init 77 = .ok (.aastore, 1) := by decide +kernel
theorem dX4_init_78 : decode cX4_init 78 = .ok (.iinc 1 1, 3) := by decide +kernel
theorem dX4_init_81 : decode cX4_init 81 = .ok (.goto (-21), 3) := by decide +kernel
theorem dX4_init_84 : decode cX4_init 84 = .ok (.aload_n 0, 1) := by decide +kernel
theorem dX4_init_85 : decode cX4_init 85 = .ok (.iconst 3, 1) := by decide +kernel
theorem dX4_init_86 : decode cX4_init 86 = .ok (.newarray .boolean, 2) := by decide +kernel
theorem dX4_init_88 : decode cX4_init 88 = .ok (.putfield 26, 3) := by decide +kernel
theorem dX4_init_91 : decode cX4_init 91 = .ok (.return_, 1) := by decide +kernel
theorem dX4_mark_0 : decode cX4_mark 0 = .ok (.aload_n 0, 1) := by decide +kernel
theorem dX4_mark_1 : decode cX4_mark 1 = .ok (.invokevirtual 30, 3) := by decide +kernel
theorem dX4_mark_4 : decode cX4_mark 4 = .ok (.aload_n 1, 1) := by decide +kernel
theorem dX4_mark_5 : decode cX4_mark 5 = .ok (.invokevirtual 34, 3) := by decide +kernel
theorem dX4_mark_8 : decode cX4_mark 8 = .ok (.return_, 1) := by decide +kernel
theorem dX4_marked_0 : decode cX4_marked 0 = .ok (.aload_n 0, 1) := by decide +kernel
theorem dX4_marked_1 : decode cX4_marked 1 = .ok (.getfield 11, 3) := by decide +kernel
theorem dX4_marked_4 : decode cX4_marked 4 = .ok (.aload_n 0, 1) := by decide +kernel
theorem dX4_marked_5 : decode cX4_marked 5 = .ok (.getfield 16, 3) := by decide +kernel
theorem dX4_marked_8 : decode cX4_marked 8 = .ok (.aload_n 0, 1) := by decide +kernel
theorem dX4_marked_9 : decode cX4_marked 9 = .ok (.getfield 20, 3) := by decide +kernel
theorem dX4_marked_12 : decode cX4_marked 12 = .ok (.iadd, 1) := by decide +kernel
theorem dX4_marked_13 : decode cX4_marked 13 = .ok (.bipush 16, 2) := by decide +kernel
theorem dX4_marked_15 : decode cX4_marked 15 = .ok (.irem, 1) := by decide +kernel
theorem dX4_marked_16 : decode cX4_marked 16 = .ok (.aaload, 1) := by decide +kernel
theorem dX4_marked_17 : decode cX4_marked 17 = .ok (.areturn, 1) := by decide +kernel
theorem dX4_settle_0 : decode cX4_settle 0 = .ok (.iload_n 1, 1) := by decide +kernel
theorem dX4_settle_1 : decode cX4_settle 1 = .ok (.ifCond .ne 4, 3) := by decide +kernel
theorem dX4_settle_4 : decode cX4_settle 4 = .ok (.return_, 1) := by decide +kernel
theorem dX4_settle_5 : decode cX4_settle 5 = .ok (.aload_n 0, 1) := by decide +kernel
theorem dX4_settle_6 : decode cX4_settle 6 = .ok (.getfield 20, 3) := by decide +kernel
theorem dX4_settle_9 : decode cX4_settle 9 = .ok (.bipush 15, 2) := by decide +kernel
theorem dX4_settle_11 : decode cX4_settle 11 = .ok (.if_icmp .ge 16, 3) := by decide +kernel
theorem dX4_settle_14 : decode cX4_settle 14 = .ok (.aload_n 0, 1) := by decide +kernel
theorem dX4_settle_15 : decode cX4_settle 15 = .ok (.dup, 1) := by decide +kernel
theorem dX4_settle_16 : decode cX4_settle 16 = .ok (.getfield 20, 3) := by decide +kernel
theorem dX4_settle_19 : decode cX4_settle 19 = .ok (.iconst 1, 1) := by decide +kernel
theorem dX4_settle_20 : decode cX4_settle 20 = .ok (.iadd, 1) := by decide +kernel
theorem dX4_settle_21 : decode cX4_settle 21 = .ok (.putfield 20, 3) := by decide +kernel
theorem dX4_settle_24 : decode cX4_settle 24 = .ok (.goto 16, 3) := by decide +kernel
theorem dX4_settle_27 : decode cX4_settle 27 = .ok (.aload_n 0, 1) := by decide +kernel
theorem dX4_settle_28 : decode cX4_settle 28 = .ok (.aload_n 0, 1) := by decide +kernel
theorem dX4_settle_29 : decode cX4_settle 29 = .ok (.getfield 16, 3) := by decide +kernel
theorem dX4_settle_32 : decode cX4_settle 32 = .ok (.iconst 1, 1) := by decide +kernel
theorem dX4_settle_33 : decode cX4_settle 33 = .ok (.iadd, 1) := by decide +kernel
theorem dX4_settle_34 : decode cX4_settle 34 = .ok (.bipush 16, 2) := by decide +kernel
theorem dX4_settle_36 : decode cX4_settle 36 = .ok (.irem, 1) := by decide +kernel
theorem dX4_settle_37 : decode cX4_settle 37 = .ok (.putfield 16, 3) := by decide +kernel
theorem dX4_settle_40 : decode cX4_settle 40 = .ok (.return_, 1) := by decide +kernel
theorem dX4_latest_0 : decode cX4_latest 0 = .ok (.aload_n 0, 1) := by decide +kernel
theorem dX4_latest_1 : decode cX4_latest 1 = .ok (.iconst 0, 1) := by decide +kernel
theorem dX4_latest_2 : decode cX4_latest 2 = .ok (.aload_n 0, 1) := by decide +kernel
theorem dX4_latest_3 : decode cX4_latest 3 = .ok (.getfield 20, 3) := by decide +kernel
theorem dX4_latest_6 : decode cX4_latest 6 = .ok (.iconst 1, 1) := by decide +kernel
theorem dX4_latest_7 : decode cX4_latest 7 = .ok (.isub, 1) := by decide +kernel
theorem dX4_latest_8 : decode cX4_latest 8 = .ok (.invokestatic 38, 3) := by decide +kernel
theorem dX4_latest_11 : decode cX4_latest 11 = .ok (.putfield 20, 3) := by decide +kernel
theorem dX4_latest_14 : decode cX4_latest 14 = .ok (.aload_n 0, 1) := by decide +kernel
theorem dX4_latest_15 : decode cX4_latest 15 = .ok (.invokevirtual 30, 3) := by decide +kernel
theorem dX4_latest_18 : decode cX4_latest 18 = .ok (.areturn, 1) := by decide +kernel
theorem dX4_store_0 : decode cX4_store 0 = .ok (.iload_n 1, 1) := by decide +kernel
theorem dX4_store_1 : decode cX4_store 1 = .ok (.ifCond .lt 8, 3) := by decide +kernel
theorem dX4_store_4 : decode cX4_store 4 = .ok (.iload_n 1, 1) := by decide +kernel
theorem dX4_store_5 : decode cX4_store 5 = .ok (.iconst 3, 1) := by decide +kernel
theorem dX4_store_6 : decode cX4_store 6 = .ok (.if_icmp .lt 5, 3) := by decide +kernel
theorem dX4_store_9 : decode cX4_store 9 = .ok (.iconst 0, 1) := by decide +kernel
theorem dX4_store_10 : decode cX4_store 10 = .ok (.ireturn, 1) := by decide +kernel
theorem dX4_store_11 : decode cX4_store 11 = .ok (.aload_n 0, 1) := by decide +kernel
theorem dX4_store_12 : decode cX4_store 12 = .ok (.getfield 23, 3) := by decide +kernel
theorem dX4_store_15 : decode cX4_store 15 = .ok (.iload_n 1, 1) := by decide +kernel
theorem dX4_store_16 : decode cX4_store 16 = .ok (.aaload, 1) := by decide +kernel
theorem dX4_store_17 : decode cX4_store 17 = .ok (.aload_n 2, 1) := by decide +kernel
theorem dX4_store_18 : decode cX4_store 18 = .ok (.invokevirtual 34, 3) := by decide +kernel
theorem dX4_store_21 : decode cX4_store 21 = .ok (.aload_n 0, 1) := by decide +kernel
theorem dX4_store_22 : decode cX4_store 22 = .ok (.getfield 26, 3) := by decide +kernel
theorem dX4_store_25 : decode cX4_store 25 = .ok (.iload_n 1, 1) := by decide +kernel
theorem dX4_store_26 : decode cX4_store 26 = .ok (.iconst 1, 1) := by decide +kernel
theorem dX4_store_27 : decode cX4_store 27 = .ok (.bastore, 1) := by decide +kernel
theorem dX4_store_28 : decode cX4_store 28 = .ok (.iconst 1, 1) := by decide +kernel
theorem dX4_store_29 : decode cX4_store 29 = .ok (.ireturn, 1) := by decide +kernel
theorem dX4_hasStored_0 : decode cX4_hasStored 0 = .ok (.iload_n 1, 1) := by decide +kernel
theorem dX4_hasStored_1 : decode cX4_hasStored 1 = .ok (.ifCond .lt 21, 3) := by decide +kernel
theorem dX4_hasStored_4 : decode cX4_hasStored 4 = .ok (.iload_n 1, 1) := by decide +kernel
theorem dX4_hasStored_5 : decode cX4_hasStored 5 = .ok (.iconst 3, 1) := by decide +kernel
theorem dX4_hasStored_6 : decode cX4_hasStored 6 = .ok (.if_icmp .ge 16, 3) := by decide +kernel
theorem dX4_hasStored_9 : decode cX4_hasStored 9 = .ok (.aload_n 0, 1) := by decide +kernel
theorem dX4_hasStored_10 : decode cX4_hasStored 10 = .ok (.getfield 26, 3) := by decide +kernel
theorem dX4_hasStored_13 : decode cX4_hasStored 13 = .ok (.iload_n 1, 1) := by decide +kernel
theorem dX4_hasStored_14 : decode cX4_hasStored 14 = .ok (.baload, 1) := by decide +kernel
theorem dX4_hasStored_15 : decode cX4_hasStored 15 = .ok (.ifCond .eq 7, 3) := by decide +kernel
theorem dX4_hasStored_18 : decode cX4_hasStored 18 = .ok (.iconst 1, 1) := by decide +kernel
theorem dX4_hasStored_19 : decode cX4_hasStored 19 = .ok (.goto 4, 3) := by decide +kernel
theorem dX4_hasStored_22 : decode cX4_hasStored 22 = .ok (.iconst 0, 1) := by decide +kernel
theorem dX4_hasStored_23 : decode cX4_hasStored 23 = .ok (.ireturn, 1) := by decide +kernel
theorem dX4_lose_0 : decode cX4_lose 0 = .ok (.aload_n 0, 1) := by decide +kernel
theorem dX4_lose_1 : decode cX4_lose 1 = .ok (.iconst 0, 1) := by decide +kernel
theorem dX4_lose_2 : decode cX4_lose 2 = .ok (.putfield 20, 3) := by decide +kernel
theorem dX4_lose_5 : decode cX4_lose 5 = .ok (.iconst 0, 1) := by decide +kernel
theorem dX4_lose_6 : decode cX4_lose 6 = .ok (.istore_n 1, 1) := by decide +kernel
theorem dX4_lose_7 : decode cX4_lose 7 = .ok (.iload_n 1, 1) := by decide +kernel
theorem dX4_lose_8 : decode cX4_lose 8 = .ok (.iconst 3, 1) := by decide +kernel
theorem dX4_lose_9 : decode cX4_lose 9 = .ok (.if_icmp .ge 16, 3) := by decide +kernel
theorem dX4_lose_12 : decode cX4_lose 12 = .ok (.aload_n 0, 1) := by decide +kernel
theorem dX4_lose_13 : decode cX4_lose 13 = .ok (.getfield 26, 3) := by decide +kernel
theorem dX4_lose_16 : decode cX4_lose 16 = .ok (.iload_n 1, 1) := by decide +kernel
theorem dX4_lose_17 : decode cX4_lose 17 = .ok (.iconst 0, 1) := by decide +kernel
theorem dX4_lose_18 : decode cX4_lose 18 = .ok (.bastore, 1) := by decide +kernel
theorem dX4_lose_19 : decode cX4_lose 19 = .ok (.iinc 1 1, 3) := by decide +kernel
theorem dX4_lose_22 : decode cX4_lose 22 = .ok (.goto (-15), 3) := by decide +kernel
theorem dX4_lose_25 : decode cX4_lose 25 = .ok (.return_, 1) := by decide +kernel
theorem dX5_init_0 : decode cX5_init 0 = .ok (.aload_n 0, 1) := by decide +kernel
theorem dX5_init_1 : decode cX5_init 1 = .ok (.invokespecial 1, 3) := by decide +kernel
theorem dX5_init_4 : decode cX5_init 4 = .ok (.aload_n 0, 1) := by decide +kernel
theorem dX5_init_5 : decode cX5_init 5 = .ok (.bipush 16, 2) := by decide +kernel
theorem dX5_init_7 : decode cX5_init 7 = .ok (.newarray .long, 2) := by decide +kernel
theorem dX5_init_9 : decode cX5_init 9 = .ok (.putfield 9, 3) := by decide +kernel
theorem dX5_init_12 : decode cX5_init 12 = .ok (.aload_n 0, 1) := by decide +kernel
theorem dX5_init_13 : decode cX5_init 13 = .ok (.iconst 0, 1) := by decide +kernel
theorem dX5_init_14 : decode cX5_init 14 = .ok (.putfield 13, 3) := by decide +kernel
theorem dX5_init_17 : decode cX5_init 17 = .ok (.return_, 1) := by decide +kernel
theorem dX5_begin_0 : decode cX5_begin 0 = .ok (.aload_n 0, 1) := by decide +kernel
theorem dX5_begin_1 : decode cX5_begin 1 = .ok (.iconst 0, 1) := by decide +kernel
theorem dX5_begin_2 : decode cX5_begin 2 = .ok (.putfield 13, 3) := by decide +kernel
theorem dX5_begin_5 : decode cX5_begin 5 = .ok (.return_, 1) := by decide +kernel
theorem dX5_put_0 : decode cX5_put 0 = .ok (.aload_n 0, 1) := by decide +kernel
theorem dX5_put_1 : decode cX5_put 1 = .ok (.getfield 13, 3) := by decide +kernel
theorem dX5_put_4 : decode cX5_put 4 = .ok (.bipush 16, 2) := by decide +kernel
theorem dX5_put_6 : decode cX5_put 6 = .ok (.if_icmp .ge 23, 3) := by decide +kernel
theorem dX5_put_9 : decode cX5_put 9 = .ok (.aload_n 0, 1) := by decide +kernel
theorem dX5_put_10 : decode cX5_put 10 = .ok (.getfield 9, 3) := by decide +kernel
theorem dX5_put_13 : decode cX5_put 13 = .ok (.aload_n 0, 1) := by decide +kernel
theorem dX5_put_14 : decode cX5_put 14 = .ok (.getfield 13, 3) := by decide +kernel
theorem dX5_put_17 : decode cX5_put 17 = .ok (.lload_n 1, 1) := by decide +kernel
theorem dX5_put_18 : decode cX5_put 18 = .ok (.lastore, 1) := by decide +kernel
theorem dX5_put_19 : decode cX5_put 19 = .ok (.aload_n 0, 1) := by decide +kernel
theorem dX5_put_20 : decode cX5_put 20 = .ok (.dup, 1) := by decide +kernel
theorem dX5_put_21 : decode cX5_put 21 = .ok (.getfield 13, 3) := by decide +kernel
theorem dX5_put_24 : decode cX5_put 24 = .ok (.iconst 1, 1) := by decide +kernel
theorem dX5_put_25 : decode cX5_put 25 = .ok (.iadd, 1) := by decide +kernel
theorem dX5_put_26 : decode cX5_put 26 = .ok (.putfield 13, 3) := by decide +kernel
theorem dX5_put_29 : decode cX5_put 29 = .ok (.return_, 1) := by decide +kernel
theorem dX5_at_0 : decode cX5_at 0 = .ok (.iload_n 1, 1) := by decide +kernel
theorem dX5_at_1 : decode cX5_at 1 = .ok (.ifCond .lt 20, 3) := by decide +kernel
theorem dX5_at_4 : decode cX5_at 4 = .ok (.iload_n 1, 1) := by decide +kernel
theorem dX5_at_5 : decode cX5_at 5 = .ok (.aload_n 0, 1) := by decide +kernel
theorem dX5_at_6 : decode cX5_at 6 = .ok (.getfield 13, 3) := by decide +kernel
theorem dX5_at_9 : decode cX5_at 9 = .ok (.if_icmp .ge 12, 3) := by decide +kernel
theorem dX5_at_12 : decode cX5_at 12 = .ok (.aload_n 0, 1) := by decide +kernel
theorem dX5_at_13 : decode cX5_at 13 = .ok (.getfield 9, 3) := by decide +kernel
theorem dX5_at_16 : decode cX5_at 16 = .ok (.iload_n 1, 1) := by decide +kernel
theorem dX5_at_17 : decode cX5_at 17 = .ok (.laload, 1) := by decide +kernel
theorem dX5_at_18 : decode cX5_at 18 = .ok (.goto 4, 3) := by decide +kernel
theorem dX5_at_21 : decode cX5_at 21 = .ok (.lconst 0, 1) := by decide +kernel
theorem dX5_at_22 : decode cX5_at 22 = .ok (.lreturn, 1) := by decide +kernel
theorem dX6_init_0 : decode cX6_init 0 = .ok (.aload_n 0, 1) := by decide +kernel
theorem dX6_init_1 : decode cX6_init 1 = .ok (.invokespecial 3, 3) := by decide +kernel
theorem dX6_init_4 : decode cX6_init 4 = .ok (.aload_n 0, 1) := by decide +kernel
theorem dX6_init_5 : decode cX6_init 5 = .ok (.bipush 40, 2) := by decide +kernel
theorem dX6_init_7 : decode cX6_init 7 = .ok (.newarray .int, 2) := by decide +kernel
theorem dX6_init_9 : decode cX6_init 9 = .ok (.putfield 11, 3) := by decide +kernel
theorem dX6_init_12 : decode cX6_init 12 = .ok (.aload_n 0, 1) := by decide +kernel
theorem dX6_init_13 : decode cX6_init 13 = .ok (.iconst 0, 1) := by decide +kernel
theorem dX6_init_14 : decode cX6_init 14 = .ok (.putfield 15, 3) := by decide +kernel
theorem dX6_init_17 : decode cX6_init 17 = .ok (.aload_n 0, 1) := by decide +kernel
theorem dX6_init_18 : decode cX6_init 18 = .ok (.bipush 40, 2) := by decide +kernel
theorem dX6_init_20 : decode cX6_init 20 = .ok (.newarray .char, 2) := by decide +kernel
theorem dX6_init_22 : decode cX6_init 22 = .ok (.putfield 19, 3) := by decide +kernel
theorem dX6_init_25 : decode cX6_init 25 = .ok (.aload_n 0, 1) := by decide +kernel
theorem dX6_init_26 : decode cX6_init 26 = .ok (.iconst 0, 1) := by decide +kernel
theorem dX6_init_27 : decode cX6_init 27 = .ok (.putfield 23, 3) := by decide +kernel
theorem dX6_init_30 : decode cX6_init 30 = .ok (.aload_n 0, 1) := by decide +kernel
theorem dX6_init_31 : decode cX6_init 31 = .ok (.iconst 0, 1) := by decide +kernel
theorem dX6_init_32 : decode cX6_init 32 = .ok (.putfield 26, 3) := by decide +kernel
theorem dX6_init_35 : decode cX6_init 35 = .ok (.aload_n 0, 1) := by decide +kernel
theorem dX6_init_36 : decode cX6_init 36 = .ok (.iconst 0, 1) := by decide +kernel
theorem dX6_init_37 : decode cX6_init 37 = .ok (.putfield 29, 3) := by decide +kernel
theorem dX6_init_40 : decode cX6_init 40 = .ok (.aload_n 0, 1) := by decide +kernel
theorem dX6_init_41 : decode cX6_init 41 = .ok (.iconst 0, 1) := by decide +kernel
theorem dX6_init_42 : decode cX6_init 42 = .ok (.putfield 32, 3) := by decide +kernel
theorem dX6_init_45 : decode cX6_init 45 = .ok (.aload_n 0, 1) := by decide +kernel
theorem dX6_init_46 : decode cX6_init 46 = .ok (.iconst 1, 1) := by decide +kernel
theorem dX6_init_47 : decode cX6_init 47 = .ok (.putfield 35, 3) := by decide +kernel
theorem dX6_init_50 : decode cX6_init 50 = .ok (.aload_n 0, 1) := by decide +kernel
theorem dX6_init_51 : decode cX6_init 51 = .ok (.bipush 7, 2) := by decide +kernel
theorem dX6_init_53 : decode cX6_init 53 = .ok (.newarray .int, 2) := by decide +kernel
theorem dX6_init_55 : decode cX6_init 55 = .ok (.putfield 39, 3) := by decide +kernel
theorem dX6_init_58 : decode cX6_init 58 = .ok (.aload_n 0, 1) := by decide +kernel
theorem dX6_init_59 : decode cX6_init 59 = .ok (.bipush 40, 2) := by decide +kernel
theorem dX6_init_61 : decode cX6_init 61 = .ok (.newarray .int, 2) := by decide +kernel
theorem dX6_init_63 : decode cX6_init 63 = .ok (.putfield 42, 3) := by decide +kernel
theorem dX6_init_66 : decode cX6_init 66 = .ok (.return_, 1) := by decide +kernel
theorem dX6_read_0 : decode cX6_read 0 = .ok (.aload_n 0, 1) := by decide +kernel
theorem dX6_read_1 : decode cX6_read 1 = .ok (.iconst 0, 1) := by decide +kernel
theorem dX6_read_2 : decode cX6_read 2 = .ok (.putfield 15, 3) := by decide +kernel
theorem dX6_read_5 : decode cX6_read 5 = .ok (.aload_n 0, 1) := by decide +kernel
theorem dX6_read_6 : decode cX6_read 6 = .ok (.iconst 0, 1) := by decide +kernel
theorem dX6_read_7 : decode cX6_read 7 = .ok (.putfield 23, 3) := by decide +kernel
theorem dX6_read_10 : decode cX6_read 10 = .ok (.aload_n 0, 1) := by decide +kernel
theorem dX6_read_11 : decode cX6_read 11 = .ok (.iconst 0, 1) := by decide +kernel
theorem dX6_read_12 : decode cX6_read 12 = .ok (.putfield 26, 3) := by decide +kernel
theorem dX6_read_15 : decode cX6_read 15 = .ok (.aload_n 0, 1) := by decide +kernel
theorem dX6_read_16 : decode cX6_read 16 = .ok (.iconst 0, 1) := by decide +kernel
theorem dX6_read_17 : decode cX6_read 17 = .ok (.putfield 29, 3) := by decide +kernel
theorem dX6_read_20 : decode cX6_read 20 = .ok (.aload_n 0, 1) := by decide +kernel
theorem dX6_read_21 : decode cX6_read 21 = .ok (.iconst 0, 1) := by decide +kernel
theorem dX6_read_22 : decode cX6_read 22 = .ok (.putfield 32, 3) := by decide +kernel
theorem dX6_read_25 : decode cX6_read 25 = .ok (.aload_n 0, 1) := by decide +kernel
theorem dX6_read_26 : decode cX6_read 26 = .ok (.iconst 1, 1) := by decide +kernel
theorem dX6_read_27 : decode cX6_read 27 = .ok (.putfield 35, 3) := by decide +kernel
theorem dX6_read_30 : decode cX6_read 30 = .ok (.aload_n 1, 1) := by decide +kernel
theorem dX6_read_31 : decode cX6_read 31 = .ok (.getfield 45, 3) := by decide +kernel
theorem dX6_read_34 : decode cX6_read 34 = .ok (.ifCond .ne 5, 3) := by decide +kernel
theorem dX6_read_37 : decode cX6_read 37 = .ok (.iconst (-1), 1) := by decide +kernel
theorem dX6_read_38 : decode cX6_read 38 = .ok (.ireturn, 1) := by decide +kernel
theorem dX6_read_39 : decode cX6_read 39 = .ok (.aload_n 1, 1) := by decide +kernel
theorem dX6_read_40 : decode cX6_read 40 = .ok (.getfield 45, 3) := by decide +kernel
theorem dX6_read_43 : decode cX6_read 43 = .ok (.bipush 40, 2) := by decide +kernel
theorem dX6_read_45 : decode cX6_read 45 = .ok (.invokestatic 50, 3) := by decide +kernel
theorem dX6_read_48 : decode cX6_read 48 = .ok (.istore_n 2, 1) := by decide +kernel
theorem dX6_read_49 : decode cX6_read 49 = .ok (.iconst 0, 1) := by decide +kernel
theorem dX6_read_50 : decode cX6_read 50 = .ok (.istore_n 3, 1) := by decide +kernel
theorem dX6_read_51 : decode cX6_read 51 = .ok (.iload_n 3, 1) := by decide +kernel
theorem dX6_read_52 : decode cX6_read 52 = .ok (.iload_n 2, 1) := by decide +kernel
theorem dX6_read_53 : decode cX6_read 53 = .ok (.if_icmp .ge 47, 3) := by decide +kernel
theorem dX6_read_56 : decode cX6_read 56 = .ok (.aload_n 1, 1) := by decide +kernel
theorem dX6_read_57 : decode cX6_read 57 = .ok (.getfield 56, 3) := by decide +kernel
theorem dX6_read_60 : decode cX6_read 60 = .ok (.iload_n 3, 1) := by decide +kernel
theorem dX6_read_61 : decode cX6_read 61 = .ok (.caload, 1) := by decide +kernel
theorem dX6_read_62 : decode cX6_read 62 = .ok (.istore 4, 2) := by decide +kernel
theorem dX6_read_64 : decode cX6_read 64 = .ok (.aload_n 0, 1) := by decide +kernel
theorem dX6_read_65 : decode cX6_read 65 = .ok (.getfield 35, 3) := by decide +kernel
theorem dX6_read_68 : decode cX6_read 68 = .ok (.ifCond .eq 15, 3) := by decide +kernel
theorem dX6_read_71 : decode cX6_read 71 = .ok (.aload_n 0, 1) := by decide +kernel
theorem dX6_read_72 : decode cX6_read 72 = .ok (.iload 4, 2) := by decide +kernel
theorem dX6_read_74 : decode cX6_read 74 = .ok (.invokevirtual 59, 3) := by decide +kernel
theorem dX6_read_77 : decode cX6_read 77 = .ok (.ifCond .eq 15, 3) := by decide +kernel
theorem dX6_read_80 : decode cX6_read 80 = .ok (.goto 14, 3) := by decide +kernel
theorem dX6_read_83 : decode cX6_read 83 = .ok (.aload_n 0, 1) := by decide +kernel
theorem dX6_read_84 : decode cX6_read 84 = .ok (.iload 4, 2) := by decide +kernel
theorem dX6_read_86 : decode cX6_read 86 = .ok (.invokevirtual 63, 3) := by decide +kernel
theorem dX6_read_89 : decode cX6_read 89 = .ok (.ifCond .ne 5, 3) := by decide +kernel
theorem dX6_read_92 : decode cX6_read 92 = .ok (.iload_n 3, 1) := by decide +kernel
theorem dX6_read_93 : decode cX6_read 93 = .ok (.ireturn, 1) := by decide +kernel
theorem dX6_read_94 : decode cX6_read 94 = .ok (.iinc 3 1, 3) := by decide +kernel
theorem dX6_read_97 : decode cX6_read 97 = .ok (.goto (-46), 3) := by decide +kernel
theorem dX6_read_100 : decode cX6_read 100 = .ok (.aload_n 0, 1) := by decide +kernel
theorem dX6_read_101 : decode cX6_read 101 = .ok (.getfield 35, 3) := by decide +kernel
theorem dX6_read_104 : decode cX6_read 104 = .ok (.ifCond .ne 19, 3) := by decide +kernel
theorem dX6_read_107 : decode cX6_read 107 = .ok (.aload_n 0, 1) := by decide +kernel
theorem dX6_read_108 : decode cX6_read 108 = .ok (.getfield 26, 3) := by decide +kernel
theorem dX6_read_111 : decode cX6_read 111 = .ok (.ifCond .gt 12, 3) := by decide +kernel
theorem dX6_read_114 : decode cX6_read 114 = .ok (.aload_n 1, 1) := by decide +kernel
theorem dX6_read_115 : decode cX6_read 115 = .ok (.getfield 45, 3) := by decide +kernel
theorem dX6_read_118 : decode cX6_read 118 = .ok (.bipush 40, 2) := by decide +kernel
theorem dX6_read_120 : decode cX6_read 120 = .ok (.if_icmp .le 5, 3) := by decide +kernel
theorem dX6_read_123 : decode cX6_read 123 = .ok (.iload_n 2, 1) := by decide +kernel
theorem dX6_read_124 : decode cX6_read 124 = .ok (.ireturn, 1) := by decide +kernel
theorem dX6_read_125 : decode cX6_read 125 = .ok (.aload_n 0, 1) := by decide +kernel
theorem dX6_read_126 : decode cX6_read 126 = .ok (.iconst 1, 1) := by decide +kernel
theorem dX6_read_127 : decode cX6_read 127 = .ok (.invokevirtual 66, 3) := by decide +kernel
theorem dX6_read_130 : decode cX6_read 130 = .ok (.iconst (-1), 1) := by decide +kernel
theorem dX6_read_131 : decode cX6_read 131 = .ok (.ireturn, 1) := by decide +kernel
theorem dX6_takesThing_0 : decode cX6_takesThing 0 = .ok (.iload_n 1, 1) := by decide +kernel
theorem dX6_takesThing_1 : decode cX6_takesThing 1 = .ok (.bipush 45, 2) := by decide +kernel
theorem dX6_takesThing_3 : decode cX6_takesThing 3 = .ok (.if_icmp .ne 11, 3) := by decide +kernel
theorem dX6_takesThing_6 : decode cX6_takesThing 6 = .ok (.aload_n 0, 1) := by decide +kernel
theorem dX6_takesThing_7 : decode cX6_takesThing 7 = .ok (.bipush 126, 2) := by decide +kernel
theorem dX6_takesThing_9 : decode cX6_takesThing 9 = .ok (.invokevirtual 70, 3) := by decide +kernel
theorem dX6_takesThing_12 : decode cX6_takesThing 12 = .ok (.iconst 1, 1) := by decide +kernel
theorem dX6_takesThing_13 : decode cX6_takesThing 13 = .ok (.ireturn, 1) := by decide +kernel
theorem dX6_takesThing_14 : decode cX6_takesThing 14 = .ok (.iload_n 1, 1) := by decide +kernel
theorem dX6_takesThing_15 : decode cX6_takesThing 15 = .ok (.bipush 40, 2) := by decide +kernel
theorem dX6_takesThing_17 : decode cX6_takesThing 17 = .ok (.if_icmp .ne 48, 3) := by decide +kernel
theorem dX6_takesThing_20 : decode cX6_takesThing 20 = .ok (.aload_n 0, 1) := by decide +kernel
theorem dX6_takesThing_21 : decode cX6_takesThing 21 = .ok (.getfield 26, 3) := by decide +kernel
theorem dX6_takesThing_24 : decode cX6_takesThing 24 = .ok (.iconst 4, 1) := by decide +kernel
theorem dX6_takesThing_25 : decode cX6_takesThing 25 = .ok (.if_icmp .ne 5, 3) := by decide +kernel
theorem dX6_takesThing_28 : decode cX6_takesThing 28 = .ok (.iconst 0, 1) := by decide +kernel
theorem dX6_takesThing_29 : decode cX6_takesThing 29 = .ok (.ireturn, 1) := by decide +kernel
theorem dX6_takesThing_30 : decode cX6_takesThing 30 = .ok (.aload_n 0, 1) := by decide +kernel
theorem dX6_takesThing_31 : decode cX6_takesThing 31 = .ok (.dup, 1) := by decide +kernel
theorem dX6_takesThing_32 : decode cX6_takesThing 32 = .ok (.getfield 26, 3) := by decide +kernel
theorem dX6_takesThing_35 : decode cX6_takesThing 35 = .ok (.iconst 1, 1) := by decide +kernel
theorem dX6_takesThing_36 : decode cX6_takesThing 36 = .ok (.iadd, 1) := by decide +kernel
theorem dX6_takesThing_37 : decode cX6_takesThing 37 = .ok (.putfield 26, 3) := by decide +kernel
theorem dX6_takesThing_40 : decode cX6_takesThing 40 = .ok (.aload_n 0, 1) := by decide +kernel
theorem dX6_takesThing_41 : decode cX6_takesThing 41 = .ok (.dup, 1) := by decide +kernel
theorem dX6_takesThing_42 : decode cX6_takesThing 42 = .ok (.getfield 29, 3) := by decide +kernel
theorem dX6_takesThing_45 : decode cX6_takesThing 45 = .ok (.iconst 1, 1) := by decide +kernel
theorem dX6_takesThing_46 : decode cX6_takesThing 46 = .ok (.aload_n 0, 1) := by decide +kernel
theorem dX6_takesThing_47 : decode cX6_takesThing 47 = .ok (.getfield 26, 3) := by decide +kernel
theorem dX6_takesThing_50 : decode cX6_takesThing 50 = .ok (.ishl, 1) := by decide +kernel
theorem dX6_takesThing_51 : decode cX6_takesThing 51 = .ok (.iconst (-1), 1) := by decide +kernel
theorem dX6_takesThing_52 : decode cX6_takesThing 52 = .ok (.ixor, 1) := by decide +kernel
theorem dX6_takesThing_53 : decode cX6_takesThing 53 = .ok (.iand, 1) := by decide +kernel
theorem dX6_takesThing_54 : decode cX6_takesThing 54 = .ok (.putfield 29, 3) := by decide +kernel
theorem dX6_takesThing_57 : decode cX6_takesThing 57 = .ok (.aload_n 0, 1) := by decide +kernel
theorem dX6_takesThing_58 : decode cX6_takesThing 58 = .ok (.bipush 40, 2) := by decide +kernel
theorem dX6_takesThing_60 : decode cX6_takesThing 60 = .ok (.invokevirtual 70, 3) := by decide +kernel
theorem dX6_takesThing_63 : decode cX6_takesThing 63 = .ok (.iconst 1, 1) := by decide +kernel
theorem dX6_takesThing_64 : decode cX6_takesThing 64 = .ok (.ireturn, 1) := by decide +kernel
theorem dX6_takesThing_65 : decode cX6_takesThing 65 = .ok (.ldc 74, 2) := by decide +kernel
theorem dX6_takesThing_67 : decode cX6_takesThing 67 = .ok (.iload_n 1, 1) := by decide +kernel
theorem dX6_takesThing_68 : decode cX6_takesThing 68 = .ok (.invokevirtual 76, 3) := by decide +kernel
theorem dX6_takesThing_71 : decode cX6_takesThing 71 = .ok (.istore_n 2, 1) := by decide +kernel
theorem dX6_takesThing_72 : decode cX6_takesThing 72 = .ok (.iload_n 1, 1) := by decide +kernel
theorem dX6_takesThing_73 : decode cX6_takesThing 73 = .ok (.bipush 48, 2) := by decide +kernel
theorem dX6_takesThing_75 : decode cX6_takesThing 75 = .ok (.if_icmp .lt 13, 3) := by decide +kernel
theorem dX6_takesThing_78 : decode cX6_takesThing 78 = .ok (.iload_n 1, 1) := by decide +kernel
theorem dX6_takesThing_79 : decode cX6_takesThing 79 = .ok (.bipush 57, 2) := by decide +kernel
theorem dX6_takesThing_81 : decode cX6_takesThing 81 = .ok (.if_icmp .gt 7, 3) := by decide +kernel
theorem dX6_takesThing_84 : decode cX6_takesThing 84 = .ok (.iconst 1, 1) := by decide +kernel
theorem dX6_takesThing_85 : decode cX6_takesThing 85 = .ok (.goto 4, 3) := by decide +kernel
theorem dX6_takesThing_88 : decode cX6_takesThing 88 = .ok (.iconst 0, 1) := by decide +kernel
theorem dX6_takesThing_89 : decode cX6_takesThing 89 = .ok (.istore_n 3, 1) := by decide +kernel
theorem dX6_takesThing_90 : decode cX6_takesThing 90 = .ok (.iload_n 3, 1) := by decide +kernel
theorem dX6_takesThing_91 : decode cX6_takesThing 91 = .ok (.ifCond .ne 9, 3) := by decide +kernel
theorem dX6_takesThing_94 : decode cX6_takesThing 94 = .ok (.iload_n 2, 1) := by decide +kernel
theorem dX6_takesThing_95 : decode cX6_takesThing 95 = .ok (.ifCond .ge 5, 3) := by decide +kernel
theorem dX6_takesThing_98 : decode cX6_takesThing 98 = .ok (.iconst 0, 1) := by decide +kernel
theorem dX6_takesThing_99 : decode cX6_takesThing 99 = .ok (.ireturn, 1) := by decide +kernel
theorem dX6_takesThing_100 : decode cX6_takesThing 100 = .ok (.aload_n 0, 1) := by decide +kernel
theorem dX6_takesThing_101 : decode cX6_takesThing 101 = .ok (.iload_n 3, 1) := by decide +kernel
theorem dX6_takesThing_102 : decode cX6_takesThing 102 = .ok (.ifCond .eq 10, 3) := by decide +kernel
theorem dX6_takesThing_105 : decode cX6_takesThing 105 = .ok (.iload_n 1, 1) := by decide +kernel
theorem dX6_takesThing_106 : decode cX6_takesThing 106 = .ok (.bipush 48, 2) := by decide +kernel
theorem dX6_takesThing_108 : decode cX6_takesThing 108 = .ok (.isub, 1) := by decide +kernel
theorem dX6_takesThing_109 : decode cX6_takesThing 109 = .ok (.goto 8, 3) := by decide +kernel
theorem dX6_takesThing_112 : decode cX6_takesThing 112 = .ok (.sipush 1000, 3) := by decide +kernel
theorem dX6_takesThing_115 : decode cX6_takesThing 115 = .ok (.iload_n 2, 1) := by decide +kernel
theorem dX6_takesThing_116 : decode cX6_takesThing 116 = .ok (.iadd, 1) := by decide +kernel
theorem dX6_takesThing_117 : decode cX6_takesThing 117 = .ok (.invokevirtual 82, 3) := by decide +kernel
theorem dX6_takesThing_120 : decode cX6_takesThing 120 = .ok (.aload_n 0, 1) := by decide +kernel
theorem dX6_takesThing_121 : decode cX6_takesThing 121 = .ok (.iload_n 3, 1) := by decide +kernel
theorem dX6_takesThing_122 : decode cX6_takesThing 122 = .ok (.ifCond .eq 7, 3) := by decide +kernel
theorem dX6_takesThing_125 : decode cX6_takesThing 125 = .ok (.iconst 1, 1) := by decide +kernel
theorem dX6_takesThing_126 : decode cX6_takesThing 126 = .ok (.goto 4, 3) := by decide +kernel
theorem dX6_takesThing_129 : decode cX6_takesThing 129 = .ok (.iconst 0, 1) := by decide +kernel
theorem dX6_takesThing_130 : decode cX6_takesThing 130 = .ok (.putfield 32, 3) := by decide +kernel
theorem dX6_takesThing_133 : decode cX6_takesThing 133 = .ok (.aload_n 0, 1) := by decide +kernel
theorem dX6_takesThing_134 : decode cX6_takesThing 134 = .ok (.iconst 0, 1) := by decide +kernel
theorem dX6_takesThing_135 : decode cX6_takesThing 135 = .ok (.putfield 35, 3) := by decide +kernel
theorem dX6_takesThing_138 : decode cX6_takesThing 138 = .ok (.iconst 1, 1) := by decide +kernel
theorem dX6_takesThing_139 : decode cX6_takesThing 139 = .ok (.ireturn, 1) := by decide +kernel
theorem dX6_takesBehindThing_0 : decode cX6_takesBehindThing 0 = .ok (.iload_n 1, 1) := by decide +kernel
theorem dX6_takesBehindThing_1 : decode cX6_takesBehindThing 1 = .ok (.bipush 48, 2) := by decide +kernel
theorem dX6_takesBehindThing_3 : decode cX6_takesBehindThing 3 = .ok (.if_icmp .lt 18, 3) := by decide +kernel
theorem dX6_takesBehindThing_6 : decode cX6_takesBehindThing 6 = .ok (.iload_n 1, 1) := by decide +kernel
theorem dX6_takesBehindThing_7 : decode cX6_takesBehindThing 7 = .ok (.bipush 57, 2) := by decide +kernel
theorem dX6_takesBehindThing_9 : decode cX6_takesBehindThing 9 = .ok (.if_icmp .gt 12, 3) := by decide +kernel
theorem dX6_takesBehindThing_12 : decode cX6_takesBehindThing 12 = .ok (.aload_n 0, 1) := by decide +kernel
theorem dX6_takesBehindThing_13 : decode cX6_takesBehindThing 13 = .ok (.iload_n 1, 1) := by decide +kernel
theorem dX6_takesBehindThing_14 : decode cX6_takesBehindThing 14 = .ok (.bipush 48, 2) := by decide +kernel
theorem dX6_takesBehindThing_16 : decode cX6_takesBehindThing 16 = .ok (.isub, 1) := by decide +kernel
theorem dX6_takesBehindThing_17 : decode cX6_takesBehindThing 17 = .ok (.invokevirtual 85, 3) := by decide +kernel
theorem dX6_takesBehindThing_20 : decode cX6_takesBehindThing 20 = .ok (.ireturn, 1) := by decide +kernel
theorem dX6_takesBehindThing_21 : decode cX6_takesBehindThing 21 = .ok (.aload_n 0, 1) := by decide +kernel
theorem dX6_takesBehindThing_22 : decode cX6_takesBehindThing 22 = .ok (.iconst 0, 1) := by decide +kernel
theorem dX6_takesBehindThing_23 : decode cX6_takesBehindThing 23 = .ok (.putfield 32, 3) := by decide +kernel
theorem dX6_takesBehindThing_26 : decode cX6_takesBehindThing 26 = .ok (.iload_n 1, 1) := by decide +kernel
theorem dX6_takesBehindThing_27 : decode cX6_takesBehindThing 27 = .ok (.bipush 41, 2) := by decide +kernel
theorem dX6_takesBehindThing_29 : decode cX6_takesBehindThing 29 = .ok (.if_icmp .ne 8, 3) := by decide +kernel
theorem dX6_takesBehindThing_32 : decode cX6_takesBehindThing 32 = .ok (.aload_n 0, 1) := by decide +kernel
theorem dX6_takesBehindThing_33 : decode cX6_takesBehindThing 33 = .ok (.invokevirtual 89, 3) := by decide +kernel
theorem dX6_takesBehindThing_36 : decode cX6_takesBehindThing 36 = .ok (.ireturn, 1) := by decide +kernel
theorem dX6_takesBehindThing_37 : decode cX6_takesBehindThing 37 = .ok (.iload_n 1, 1) := by decide +kernel
theorem dX6_takesBehindThing_38 : decode cX6_takesBehindThing 38 = .ok (.invokestatic 93, 3) := by decide +kernel
theorem dX6_takesBehindThing_41 : decode cX6_takesBehindThing 41 = .ok (.istore_n 2, 1) := by decide +kernel
theorem dX6_takesBehindThing_42 : decode cX6_takesBehindThing 42 = .ok (.iload_n 2, 1) := by decide +kernel
theorem dX6_takesBehindThing_43 : decode cX6_takesBehindThing 43 = .ok (.iconst 1, 1) := by decide +kernel
theorem dX6_takesBehindThing_44 : decode cX6_takesBehindThing 44 = .ok (.if_icmp .ne 7, 3) := by decide +kernel
theorem dX6_takesBehindThing_47 : decode cX6_takesBehindThing 47 = .ok (.iconst 1, 1) := by decide +kernel
theorem dX6_takesBehindThing_48 : decode cX6_takesBehindThing 48 = .ok (.goto 4, 3) := by decide +kernel
theorem dX6_takesBehindThing_51 : decode cX6_takesBehindThing 51 = .ok (.iconst 0, 1) := by decide +kernel
theorem dX6_takesBehindThing_52 : decode cX6_takesBehindThing 52 = .ok (.istore_n 3, 1) := by decide +kernel
theorem dX6_takesBehindThing_53 : decode cX6_takesBehindThing 53 = .ok (.iload_n 2, 1) := by decide +kernel
theorem dX6_takesBehindThing_54 : decode cX6_takesBehindThing 54 = .ok (.ifCond .eq 22, 3) := by decide +kernel
theorem dX6_takesBehindThing_57 : decode cX6_takesBehindThing 57 = .ok (.iload_n 3, 1) := by decide +kernel
theorem dX6_takesBehindThing_58 : decode cX6_takesBehindThing 58 = .ok (.ifCond .eq 20, 3) := by decide +kernel
theorem dX6_takesBehindThing_61 : decode cX6_takesBehindThing 61 = .ok (.aload_n 0, 1) := by decide +kernel
theorem dX6_takesBehindThing_62 : decode cX6_takesBehindThing 62 = .ok (.getfield 29, 3) := by decide +kernel
theorem dX6_takesBehindThing_65 : decode cX6_takesBehindThing 65 = .ok (.aload_n 0, 1) := by decide +kernel
theorem dX6_takesBehindThing_66 : decode cX6_takesBehindThing 66 = .ok (.getfield 26, 3) := by decide +kernel
theorem dX6_takesBehindThing_69 : decode cX6_takesBehindThing 69 = .ok (.ishr, 1) := by decide +kernel
theorem dX6_takesBehindThing_70 : decode cX6_takesBehindThing 70 = .ok (.iconst 1, 1) := by decide +kernel
theorem dX6_takesBehindThing_71 : decode cX6_takesBehindThing 71 = .ok (.iand, 1) := by decide +kernel
theorem dX6_takesBehindThing_72 : decode cX6_takesBehindThing 72 = .ok (.iconst 1, 1) := by decide +kernel
theorem dX6_takesBehindThing_73 : decode cX6_takesBehindThing 73 = .ok (.if_icmp .ne 5, 3) := by decide +kernel
theorem dX6_takesBehindThing_76 : decode cX6_takesBehindThing 76 = .ok (.iconst 0, 1) := by decide +kernel
theorem dX6_takesBehindThing_77 : decode cX6_takesBehindThing 77 = .ok (.ireturn, 1) := by decide +kernel
theorem dX6_takesBehindThing_78 : decode cX6_takesBehindThing 78 = .ok (.iload_n 3, 1) := by decide +kernel
theorem dX6_takesBehindThing_79 : decode cX6_takesBehindThing 79 = .ok (.ifCond .eq 18, 3) := by decide +kernel
theorem dX6_takesBehindThing_82 : decode cX6_takesBehindThing 82 = .ok (.aload_n 0, 1) := by decide +kernel
theorem dX6_takesBehindThing_83 : decode cX6_takesBehindThing 83 = .ok (.dup, 1) := by decide +kernel
theorem dX6_takesBehindThing_84 : decode cX6_takesBehindThing 84 = .ok (.getfield 29, 3) := by decide +kernel
theorem dX6_takesBehindThing_87 : decode cX6_takesBehindThing 87 = .ok (.iconst 1, 1) := by decide +kernel
theorem dX6_takesBehindThing_88 : decode cX6_takesBehindThing 88 = .ok (.aload_n 0, 1) := by decide +kernel
theorem dX6_takesBehindThing_89 : decode cX6_takesBehindThing 89 = .ok (.getfield 26, 3) := by decide +kernel
theorem dX6_takesBehindThing_92 : decode cX6_takesBehindThing 92 = .ok (.ishl, 1) := by decide +kernel
theorem dX6_takesBehindThing_93 : decode cX6_takesBehindThing 93 = .ok (.ior, 1) := by decide +kernel
theorem dX6_takesBehindThing_94 : decode cX6_takesBehindThing 94 = .ok (.putfield 29, 3) := by decide +kernel
theorem dX6_takesBehindThing_97 : decode cX6_takesBehindThing 97 = .ok (.aload_n 0, 1) := by decide +kernel
theorem dX6_takesBehindThing_98 : decode cX6_takesBehindThing 98 = .ok (.iload_n 2, 1) := by decide +kernel
theorem dX6_takesBehindThing_99 : decode cX6_takesBehindThing 99 = .ok (.invokevirtual 66, 3) := by decide +kernel
theorem dX6_takesBehindThing_102 : decode cX6_takesBehindThing 102 = .ok (.aload_n 0, 1) := by decide +kernel
theorem dX6_takesBehindThing_103 : decode cX6_takesBehindThing 103 = .ok (.iload_n 1, 1) := by decide +kernel
theorem dX6_takesBehindThing_104 : decode cX6_takesBehindThing 104 = .ok (.invokevirtual 70, 3) := by decide +kernel
theorem dX6_takesBehindThing_107 : decode cX6_takesBehindThing 107 = .ok (.aload_n 0, 1) := by decide +kernel
theorem dX6_takesBehindThing_108 : decode cX6_takesBehindThing 108 = .ok (.iconst 1, 1) := by decide +kernel
theorem dX6_takesBehindThing_109 : decode cX6_takesBehindThing 109 = .ok (.putfield 35, 3) := by decide +kernel
theorem dX6_takesBehindThing_112 : decode cX6_takesBehindThing 112 = .ok (.iconst 1, 1) := by decide +kernel
theorem dX6_takesBehindThing_113 : decode cX6_takesBehindThing 113 = .ok (.ireturn, 1) := by decide +kernel
theorem dX6_takesDigit_0 : decode cX6_takesDigit 0 = .ok (.aload_n 0, 1) := by decide +kernel
theorem dX6_takesDigit_1 : decode cX6_takesDigit 1 = .ok (.getfield 32, 3) := by decide +kernel
theorem dX6_takesDigit_4 : decode cX6_takesDigit 4 = .ok (.ifCond .eq 18, 3) := by decide +kernel
theorem dX6_takesDigit_7 : decode cX6_takesDigit 7 = .ok (.aload_n 0, 1) := by decide +kernel
theorem dX6_takesDigit_8 : decode cX6_takesDigit 8 = .ok (.getfield 32, 3) := by decide +kernel
theorem dX6_takesDigit_11 : decode cX6_takesDigit 11 = .ok (.iconst 3, 1) := by decide +kernel
theorem dX6_takesDigit_12 : decode cX6_takesDigit 12 = .ok (.if_icmp .eq 10, 3) := by decide +kernel
theorem dX6_takesDigit_15 : decode cX6_takesDigit 15 = .ok (.aload_n 0, 1) := by decide +kernel
theorem dX6_takesDigit_16 : decode cX6_takesDigit 16 = .ok (.getfield 15, 3) := by decide +kernel
theorem dX6_takesDigit_19 : decode cX6_takesDigit 19 = .ok (.ifCond .ne 5, 3) := by decide +kernel
theorem dX6_takesDigit_22 : decode cX6_takesDigit 22 = .ok (.iconst 0, 1) := by decide +kernel
theorem dX6_takesDigit_23 : decode cX6_takesDigit 23 = .ok (.ireturn, 1) := by decide +kernel
theorem dX6_takesDigit_24 : decode cX6_takesDigit 24 = .ok (.aload_n 0, 1) := by decide +kernel
theorem dX6_takesDigit_25 : decode cX6_takesDigit 25 = .ok (.getfield 11, 3) := by decide +kernel
theorem dX6_takesDigit_28 : decode cX6_takesDigit 28 = .ok (.aload_n 0, 1) := by decide +kernel
theorem dX6_takesDigit_29 : decode cX6_takesDigit 29 = .ok (.getfield 15, 3) := by decide +kernel
theorem dX6_takesDigit_32 : decode cX6_takesDigit 32 = .ok (.iconst 1, 1) := by decide +kernel
theorem dX6_takesDigit_33 : decode cX6_takesDigit 33 = .ok (.isub, 1) := by decide +kernel
theorem dX6_takesDigit_34 : decode cX6_takesDigit 34 = .ok (.bipush 10, 2) := by decide +kernel
theorem dX6_takesDigit_36 : decode cX6_takesDigit 36 = .ok (.aload_n 0, 1) := by decide +kernel
theorem dX6_takesDigit_37 : decode cX6_takesDigit 37 = .ok (.getfield 11, 3) := by decide +kernel
theorem dX6_takesDigit_40 : decode cX6_takesDigit 40 = .ok (.aload_n 0, 1) := by decide +kernel
theorem dX6_takesDigit_41 : decode cX6_takesDigit 41 = .ok (.getfield 15, 3) := by decide +kernel
theorem dX6_takesDigit_44 : decode cX6_takesDigit 44 = .ok (.iconst 1, 1) := by decide +kernel
theorem dX6_takesDigit_45 : decode cX6_takesDigit 45 = .ok (.isub, 1) := by decide +kernel
theorem dX6_takesDigit_46 : decode cX6_takesDigit 46 = .ok (.iaload, 1) := by decide +kernel
theorem dX6_takesDigit_47 : decode cX6_takesDigit 47 = .ok (.imul, 1) := by decide +kernel
theorem dX6_takesDigit_48 : decode cX6_takesDigit 48 = .ok (.iload_n 1, 1) := by decide +kernel
theorem dX6_takesDigit_49 : decode cX6_takesDigit 49 = .ok (.iadd, 1) := by decide +kernel
theorem dX6_takesDigit_50 : decode cX6_takesDigit 50 = .ok (.iastore, 1) := by decide +kernel
theorem dX6_takesDigit_51 : decode cX6_takesDigit 51 = .ok (.aload_n 0, 1) := by decide +kernel
theorem dX6_takesDigit_52 : decode cX6_takesDigit 52 = .ok (.dup, 1) := by decide +kernel
theorem dX6_takesDigit_53 : decode cX6_takesDigit 53 = .ok (.getfield 32, 3) := by decide +kernel
theorem dX6_takesDigit_56 : decode cX6_takesDigit 56 = .ok (.iconst 1, 1) := by decide +kernel
theorem dX6_takesDigit_57 : decode cX6_takesDigit 57 = .ok (.iadd, 1) := by decide +kernel
theorem dX6_takesDigit_58 : decode cX6_takesDigit 58 = .ok (.putfield 32, 3) := by decide +kernel
theorem dX6_takesDigit_61 : decode cX6_takesDigit 61 = .ok (.iconst 1, 1) := by decide +kernel
theorem dX6_takesDigit_62 : decode cX6_takesDigit 62 = .ok (.ireturn, 1) := by decide +kernel
theorem dX6_closes_0 : decode cX6_closes 0 = .ok (.aload_n 0, 1) := by decide +kernel
theorem dX6_closes_1 : decode cX6_closes 1 = .ok (.getfield 26, 3) := by decide +kernel
theorem dX6_closes_4 : decode cX6_closes 4 = .ok (.ifCond .ne 5, 3) := by decide +kernel
theorem dX6_closes_7 : decode cX6_closes 7 = .ok (.iconst 0, 1) := by decide +kernel
theorem dX6_closes_8 : decode cX6_closes 8 = .ok (.ireturn, 1) := by decide +kernel
theorem dX6_closes_9 : decode cX6_closes 9 = .ok (.aload_n 0, 1) := by decide +kernel
theorem dX6_closes_10 : decode cX6_closes 10 = .ok (.iconst 1, 1) := by decide +kernel
theorem dX6_closes_11 : decode cX6_closes 11 = .ok (.invokevirtual 66, 3) := by decide +kernel
theorem dX6_closes_14 : decode cX6_closes 14 = .ok (.aload_n 0, 1) := by decide +kernel
theorem dX6_closes_15 : decode cX6_closes 15 = .ok (.iconst 0, 1) := by decide +kernel
theorem dX6_closes_16 : decode cX6_closes 16 = .ok (.aload_n 0, 1) := by decide +kernel
theorem dX6_closes_17 : decode cX6_closes 17 = .ok (.getfield 23, 3) := by decide +kernel
theorem dX6_closes_20 : decode cX6_closes 20 = .ok (.iconst 1, 1) := by decide +kernel
theorem dX6_closes_21 : decode cX6_closes 21 = .ok (.isub, 1) := by decide +kernel
theorem dX6_closes_22 : decode cX6_closes 22 = .ok (.invokestatic 97, 3) := by decide +kernel
theorem dX6_closes_25 : decode cX6_closes 25 = .ok (.putfield 23, 3) := by decide +kernel
theorem dX6_closes_28 : decode cX6_closes 28 = .ok (.aload_n 0, 1) := by decide +kernel
theorem dX6_closes_29 : decode cX6_closes 29 = .ok (.dup, 1) := by decide +kernel
theorem dX6_closes_30 : decode cX6_closes 30 = .ok (.getfield 26, 3) := by decide +kernel
theorem dX6_closes_33 : decode cX6_closes 33 = .ok (.iconst 1, 1) := by decide +kernel
theorem dX6_closes_34 : decode cX6_closes 34 = .ok (.isub, 1) := by decide +kernel
theorem dX6_closes_35 : decode cX6_closes 35 = .ok (.putfield 26, 3) := by decide +kernel
theorem dX6_closes_38 : decode cX6_closes 38 = .ok (.iconst 1, 1) := by decide +kernel
theorem dX6_closes_39 : decode cX6_closes 39 = .ok (.ireturn, 1) := by decide +kernel
theorem dX6_bindingOf_0 : decode cX6_bindingOf 0 = .ok (.iload_n 0, 1) := by decide +kernel
theorem dX6_bindingOf_1 : decode cX6_bindingOf 1 = .ok (.tableswitch 105 42 62 #[103, 101, 105, 101, 105, 103, 105, 105, 105, 105, 105, 105, 105, 105, 105, 105, 105, 105, 99, 99, 99], 99) := by decide +kernel
theorem dX6_bindingOf_100 : decode cX6_bindingOf 100 = .ok (.iconst 1, 1) := by decide +kernel
theorem dX6_bindingOf_101 : decode cX6_bindingOf 101 = .ok (.ireturn, 1) := by decide +kernel
theorem dX6_bindingOf_102 : decode cX6_bindingOf 102 = .ok (.iconst 2, 1) := by decide +kernel
theorem dX6_bindingOf_103 : decode cX6_bindingOf 103 = .ok (.ireturn, 1) := by decide +kernel
theorem dX6_bindingOf_104 : decode cX6_bindingOf 104 = .ok (.iconst 3, 1) := by decide +kernel
theorem dX6_bindingOf_105 : decode cX6_bindingOf 105 = .ok (.ireturn, 1) := by decide +kernel
theorem dX6_bindingOf_106 : decode cX6_bindingOf 106 = .ok (.iconst 0, 1) := by decide +kernel
theorem dX6_bindingOf_107 : decode cX6_bindingOf 107 = .ok (.ireturn, 1) := by decide +kernel
theorem dX6_hold_0 : decode cX6_hold 0 = .ok (.aload_n 0, 1) := by decide +kernel
theorem dX6_hold_1 : decode cX6_hold 1 = .ok (.getfield 23, 3) := by decide +kernel
theorem dX6_hold_4 : decode cX6_hold 4 = .ok (.bipush 40, 2) := by decide +kernel
theorem dX6_hold_6 : decode cX6_hold 6 = .ok (.if_icmp .ge 23, 3) := by decide +kernel
theorem dX6_hold_9 : decode cX6_hold 9 = .ok (.aload_n 0, 1) := by decide +kernel
theorem dX6_hold_10 : decode cX6_hold 10 = .ok (.getfield 19, 3) := by decide +kernel
theorem dX6_hold_13 : decode cX6_hold 13 = .ok (.aload_n 0, 1) := by decide +kernel
theorem dX6_hold_14 : decode cX6_hold 14 = .ok (.getfield 23, 3) := by decide +kernel
theorem dX6_hold_17 : decode cX6_hold 17 = .ok (.iload_n 1, 1) := by decide +kernel
theorem dX6_hold_18 : decode cX6_hold 18 = .ok (.castore, 1) := by decide +kernel
theorem dX6_hold_19 : decode cX6_hold 19 = .ok (.aload_n 0, 1) := by decide +kernel
theorem dX6_hold_20 : decode cX6_hold 20 = .ok (.dup, 1) := by decide +kernel
theorem dX6_hold_21 : decode cX6_hold 21 = .ok (.getfield 23, 3) := by decide +kernel
theorem dX6_hold_24 : decode cX6_hold 24 = .ok (.iconst 1, 1) := by decide +kernel
theorem dX6_hold_25 : decode cX6_hold 25 = .ok (.iadd, 1) := by decide +kernel
theorem dX6_hold_26 : decode cX6_hold 26 = .ok (.putfield 23, 3) := by decide +kernel
theorem dX6_hold_29 : decode cX6_hold 29 = .ok (.return_, 1) := by decide +kernel
theorem dX6_emit_0 : decode cX6_emit 0 = .ok (.aload_n 0, 1) := by decide +kernel
theorem dX6_emit_1 : decode cX6_emit 1 = .ok (.getfield 15, 3) := by decide +kernel
theorem dX6_emit_4 : decode cX6_emit 4 = .ok (.bipush 40, 2) := by decide +kernel
theorem dX6_emit_6 : decode cX6_emit 6 = .ok (.if_icmp .ge 23, 3) := by decide +kernel
theorem dX6_emit_9 : decode cX6_emit 9 = .ok (.aload_n 0, 1) := by decide +kernel
theorem dX6_emit_10 : decode cX6_emit 10 = .ok (.getfield 11, 3) := by decide +kernel
theorem dX6_emit_13 : decode cX6_emit 13 = .ok (.aload_n 0, 1) := by decide +kernel
theorem dX6_emit_14 : decode cX6_emit 14 = .ok (.getfield 15, 3) := by decide +kernel
theorem dX6_emit_17 : decode cX6_emit 17 = .ok (.iload_n 1, 1) := by decide +kernel
theorem dX6_emit_18 : decode cX6_emit 18 = .ok (.iastore, 1) := by decide +kernel
theorem dX6_emit_19 : decode cX6_emit 19 = .ok (.aload_n 0, 1) := by decide +kernel
theorem dX6_emit_20 : decode cX6_emit 20 = .ok (.dup, 1) := by decide +kernel
theorem dX6_emit_21 : decode cX6_emit 21 = .ok (.getfield 15, 3) := by decide +kernel
theorem dX6_emit_24 : decode cX6_emit 24 = .ok (.iconst 1, 1) := by decide +kernel
theorem dX6_emit_25 : decode cX6_emit 25 = .ok (.iadd, 1) := by decide +kernel
theorem dX6_emit_26 : decode cX6_emit 26 = .ok (.putfield 15, 3) := by decide +kernel
theorem dX6_emit_29 : decode cX6_emit 29 = .ok (.return_, 1) := by decide +kernel
theorem dX6_release_0 : decode cX6_release 0 = .ok (.aload_n 0, 1) := by decide +kernel
theorem dX6_release_1 : decode cX6_release 1 = .ok (.getfield 23, 3) := by decide +kernel
theorem dX6_release_4 : decode cX6_release 4 = .ok (.ifCond .le 51, 3) := by decide +kernel
theorem dX6_release_7 : decode cX6_release 7 = .ok (.aload_n 0, 1) := by decide +kernel
theorem dX6_release_8 : decode cX6_release 8 = .ok (.getfield 19, 3) := by decide +kernel
theorem dX6_release_11 : decode cX6_release 11 = .ok (.aload_n 0, 1) := by decide +kernel
theorem dX6_release_12 : decode cX6_release 12 = .ok (.getfield 23, 3) := by decide +kernel
theorem dX6_release_15 : decode cX6_release 15 = .ok (.iconst 1, 1) := by decide +kernel
theorem dX6_release_16 : decode cX6_release 16 = .ok (.isub, 1) := by decide +kernel
theorem dX6_release_17 : decode cX6_release 17 = .ok (.caload, 1) := by decide +kernel
theorem dX6_release_18 : decode cX6_release 18 = .ok (.iload_n 1, 1) := by decide +kernel
theorem dX6_release_19 : decode cX6_release 19 = .ok (.invokestatic 100, 3) := by decide +kernel
theorem dX6_release_22 : decode cX6_release 22 = .ok (.ifCond .eq 33, 3) := by decide +kernel
theorem dX6_release_25 : decode cX6_release 25 = .ok (.aload_n 0, 1) := by decide +kernel
theorem dX6_release_26 : decode cX6_release 26 = .ok (.dup, 1) := by decide +kernel
theorem dX6_release_27 : decode cX6_release 27 = .ok (.getfield 23, 3) := by decide +kernel
theorem dX6_release_30 : decode cX6_release 30 = .ok (.iconst 1, 1) := by decide +kernel
theorem dX6_release_31 : decode cX6_release 31 = .ok (.isub, 1) := by decide +kernel
theorem dX6_release_32 : decode cX6_release 32 = .ok (.putfield 23, 3) := by decide +kernel
theorem dX6_release_35 : decode cX6_release 35 = .ok (.aload_n 0, 1) := by decide +kernel
theorem dX6_release_36 : decode cX6_release 36 = .ok (.sipush 2000, 3) := by decide +kernel
theorem dX6_release_39 : decode cX6_release 39 = .ok (.aload_n 0, 1) := by decide +kernel
theorem dX6_release_40 : decode cX6_release 40 = .ok (.getfield 19, 3) := by decide +kernel
theorem dX6_release_43 : decode cX6_release 43 = .ok (.aload_n 0, 1) := by decide +kernel
theorem dX6_release_44 : decode cX6_release 44 = .ok (.getfield 23, 3) := by decide +kernel
theorem dX6_release_47 : decode cX6_release 47 = .ok (.caload, 1) := by decide +kernel
theorem dX6_release_48 : decode cX6_release 48 = .ok (.iadd, 1) := by decide +kernel
theorem dX6_release_49 : decode cX6_release 49 = .ok (.invokevirtual 82, 3) := by decide +kernel
theorem dX6_release_52 : decode cX6_release 52 = .ok (.goto (-52), 3) := by decide +kernel
theorem dX6_release_55 : decode cX6_release 55 = .ok (.return_, 1) := by decide +kernel
theorem dX6_bindsAtLeast_0 : decode cX6_bindsAtLeast 0 = .ok (.iload_n 0, 1) := by decide +kernel
theorem dX6_bindsAtLeast_1 : decode cX6_bindsAtLeast 1 = .ok (.bipush 126, 2) := by decide +kernel
theorem dX6_bindsAtLeast_3 : decode cX6_bindsAtLeast 3 = .ok (.if_icmp .eq 17, 3) := by decide +kernel
theorem dX6_bindsAtLeast_6 : decode cX6_bindsAtLeast 6 = .ok (.iload_n 0, 1) := by decide +kernel
theorem dX6_bindsAtLeast_7 : decode cX6_bindsAtLeast 7 = .ok (.bipush 40, 2) := by decide +kernel
theorem dX6_bindsAtLeast_9 : decode cX6_bindsAtLeast 9 = .ok (.if_icmp .eq 15, 3) := by decide +kernel
theorem dX6_bindsAtLeast_12 : decode cX6_bindsAtLeast 12 = .ok (.iload_n 0, 1) := by decide +kernel
theorem dX6_bindsAtLeast_13 : decode cX6_bindsAtLeast 13 = .ok (.invokestatic 93, 3) := by decide +kernel
theorem dX6_bindsAtLeast_16 : decode cX6_bindsAtLeast 16 = .ok (.iload_n 1, 1) := by decide +kernel
theorem dX6_bindsAtLeast_17 : decode cX6_bindsAtLeast 17 = .ok (.if_icmp .lt 7, 3) := by decide +kernel
theorem dX6_bindsAtLeast_20 : decode cX6_bindsAtLeast 20 = .ok (.iconst 1, 1) := by decide +kernel
theorem dX6_bindsAtLeast_21 : decode cX6_bindsAtLeast 21 = .ok (.goto 4, 3) := by decide +kernel
theorem dX6_bindsAtLeast_24 : decode cX6_bindsAtLeast 24 = .ok (.iconst 0, 1) := by decide +kernel
theorem dX6_bindsAtLeast_25 : decode cX6_bindsAtLeast 25 = .ok (.ireturn, 1) := by decide +kernel
theorem dX6_changed_0 : decode cX6_changed 0 = .ok (.aload_n 0, 1) := by decide +kernel
theorem dX6_changed_1 : decode cX6_changed 1 = .ok (.getfield 15, 3) := by decide +kernel
theorem dX6_changed_4 : decode cX6_changed 4 = .ok (.ifCond .ne 25, 3) := by decide +kernel
theorem dX6_changed_7 : decode cX6_changed 7 = .ok (.iload 5, 2) := by decide +kernel
theorem dX6_changed_9 : decode cX6_changed 9 = .ok (.aload_n 1, 1) := by decide +kernel
theorem dX6_changed_10 : decode cX6_changed 10 = .ok (.getfield 104, 3) := by decide +kernel
theorem dX6_changed_13 : decode cX6_changed 13 = .ok (.iload_n 2, 1) := by decide +kernel
theorem dX6_changed_14 : decode cX6_changed 14 = .ok (.iaload, 1) := by decide +kernel
theorem dX6_changed_15 : decode cX6_changed 15 = .ok (.iadd, 1) := by decide +kernel
theorem dX6_changed_16 : decode cX6_changed 16 = .ok (.aload_n 1, 1) := by decide +kernel
theorem dX6_changed_17 : decode cX6_changed 17 = .ok (.getfield 109, 3) := by decide +kernel
theorem dX6_changed_20 : decode cX6_changed 20 = .ok (.iload_n 2, 1) := by decide +kernel
theorem dX6_changed_21 : decode cX6_changed 21 = .ok (.iaload, 1) := by decide +kernel
theorem dX6_changed_22 : decode cX6_changed 22 = .ok (.iconst 3, 1) := by decide +kernel
theorem dX6_changed_23 : decode cX6_changed 23 = .ok (.idiv, 1) := by decide +kernel
theorem dX6_changed_24 : decode cX6_changed 24 = .ok (.isub, 1) := by decide +kernel
theorem dX6_changed_25 : decode cX6_changed 25 = .ok (.bipush 7, 2) := by decide +kernel
theorem dX6_changed_27 : decode cX6_changed 27 = .ok (.iand, 1) := by decide +kernel
theorem dX6_changed_28 : decode cX6_changed 28 = .ok (.ireturn, 1) := by decide +kernel
theorem dX6_changed_29 : decode cX6_changed 29 = .ok (.aload_n 0, 1) := by decide +kernel
theorem dX6_changed_30 : decode cX6_changed 30 = .ok (.getfield 39, 3) := by decide +kernel
theorem dX6_changed_33 : decode cX6_changed 33 = .ok (.iconst 0, 1) := by decide +kernel
theorem dX6_changed_34 : decode cX6_changed 34 = .ok (.iload 5, 2) := by decide +kernel
theorem dX6_changed_36 : decode cX6_changed 36 = .ok (.iastore, 1) := by decide +kernel
theorem dX6_changed_37 : decode cX6_changed 37 = .ok (.aload_n 0, 1) := by decide +kernel
theorem dX6_changed_38 : decode cX6_changed 38 = .ok (.getfield 39, 3) := by decide +kernel
theorem dX6_changed_41 : decode cX6_changed 41 = .ok (.iconst 1, 1) := by decide +kernel
theorem dX6_changed_42 : decode cX6_changed 42 = .ok (.aload_n 1, 1) := by decide +kernel
theorem dX6_changed_43 : decode cX6_changed 43 = .ok (.getfield 104, 3) := by decide +kernel
theorem dX6_changed_46 : decode cX6_changed 46 = .ok (.iload_n 2, 1) := by decide +kernel
theorem dX6_changed_47 : decode cX6_changed 47 = .ok (.iaload, 1) := by decide +kernel
theorem dX6_changed_48 : decode cX6_changed 48 = .ok (.iastore, 1) := by decide +kernel
theorem dX6_changed_49 : decode cX6_changed 49 = .ok (.aload_n 0, 1) := by decide +kernel
theorem dX6_changed_50 : decode cX6_changed 50 = .ok (.getfield 39, 3) := by decide +kernel
theorem dX6_changed_53 : decode cX6_changed 53 = .ok (.iconst 2, 1) := by decide +kernel
theorem dX6_changed_54 : decode cX6_changed 54 = .ok (.aload_n 1, 1) := by decide +kernel
theorem dX6_changed_55 : decode cX6_changed 55 = .ok (.getfield 109, 3) := by decide +kernel
theorem dX6_changed_58 : decode cX6_changed 58 = .ok (.iload_n 2, 1) := by decide +kernel
theorem dX6_changed_59 : decode cX6_changed 59 = .ok (.iaload, 1) := by decide +kernel
theorem dX6_changed_60 : decode cX6_changed 60 = .ok (.iastore, 1) := by decide +kernel
theorem dX6_changed_61 : decode cX6_changed 61 = .ok (.aload_n 0, 1) := by decide +kernel
theorem dX6_changed_62 : decode cX6_changed 62 = .ok (.getfield 39, 3) := by decide +kernel
theorem dX6_changed_65 : decode cX6_changed 65 = .ok (.iconst 3, 1) := by decide +kernel
theorem dX6_changed_66 : decode cX6_changed 66 = .ok (.aload_n 1, 1) := by decide +kernel
theorem dX6_changed_67 : decode cX6_changed 67 = .ok (.getfield 112, 3) := by decide +kernel
theorem dX6_changed_70 : decode cX6_changed 70 = .ok (.iload_n 2, 1) := by decide +kernel
theorem dX6_changed_71 : decode cX6_changed 71 = .ok (.iaload, 1) := by decide +kernel
theorem dX6_changed_72 : decode cX6_changed 72 = .ok (.iastore, 1) := by decide +kernel
theorem dX6_changed_73 : decode cX6_changed 73 = .ok (.aload_n 0, 1) := by decide +kernel
theorem dX6_changed_74 : decode cX6_changed 74 = .ok (.getfield 39, 3) := by decide +kernel
theorem dX6_changed_77 : decode cX6_changed 77 = .ok (.iconst 4, 1) := by decide +kernel
theorem dX6_changed_78 : decode cX6_changed 78 = .ok (.iload 4, 2) := by decide +kernel
theorem dX6_changed_80 : decode cX6_changed 80 = .ok (.iastore, 1) := by decide +kernel
theorem dX6_changed_81 : decode cX6_changed 81 = .ok (.aload_n 0, 1) := by decide +kernel
theorem dX6_changed_82 : decode cX6_changed 82 = .ok (.getfield 39, 3) := by decide +kernel
theorem dX6_changed_85 : decode cX6_changed 85 = .ok (.iconst 5, 1) := by decide +kernel
theorem dX6_changed_86 : decode cX6_changed 86 = .ok (.aload_n 1, 1) := by decide +kernel
theorem dX6_changed_87 : decode cX6_changed 87 = .ok (.getfield 115, 3) := by decide +kernel
theorem dX6_changed_90 : decode cX6_changed 90 = .ok (.bipush 7, 2) := by decide +kernel
theorem dX6_changed_92 : decode cX6_changed 92 = .ok (.irem, 1) := by decide +kernel
theorem dX6_changed_93 : decode cX6_changed 93 = .ok (.iastore, 1) := by decide +kernel
theorem dX6_changed_94 : decode cX6_changed 94 = .ok (.aload_n 0, 1) := by decide +kernel
theorem dX6_changed_95 : decode cX6_changed 95 = .ok (.getfield 39, 3) := by decide +kernel
theorem dX6_changed_98 : decode cX6_changed 98 = .ok (.bipush 6, 2) := by decide +kernel
theorem dX6_changed_100 : decode cX6_changed 100 = .ok (.iload_n 3, 1) := by decide +kernel
theorem dX6_changed_101 : decode cX6_changed 101 = .ok (.iastore, 1) := by decide +kernel
theorem dX6_changed_102 : decode cX6_changed 102 = .ok (.aload_n 0, 1) := by decide +kernel
theorem dX6_changed_103 : decode cX6_changed 103 = .ok (.invokevirtual 118, 3) := by decide +kernel
theorem dX6_changed_106 : decode cX6_changed 106 = .ok (.bipush 7, 2) := by decide +kernel
theorem dX6_changed_108 : decode cX6_changed 108 = .ok (.iand, 1) := by decide +kernel
theorem dX6_changed_109 : decode cX6_changed 109 = .ok (.ireturn, 1) := by decide +kernel
theorem dX6_valueOfThings_0 : decode cX6_valueOfThings 0 = .ok (.iconst 0, 1) := by decide +kernel
theorem dX6_valueOfThings_1 : decode cX6_valueOfThings 1 = .ok (.istore_n 1, 1) := by decide +kernel
theorem dX6_valueOfThings_2 : decode cX6_valueOfThings 2 = .ok (.iconst 0, 1) := by decide +kernel
theorem dX6_valueOfThings_3 : decode cX6_valueOfThings 3 = .ok (.istore_n 2, 1) := by decide +kernel
theorem dX6_valueOfThings_4 : decode cX6_valueOfThings 4 = .ok (.iload_n 2, 1) := by decide +kernel
theorem dX6_valueOfThings_5 : decode cX6_valueOfThings 5 = .ok (.aload_n 0, 1) := by decide +kernel
theorem dX6_valueOfThings_6 : decode cX6_valueOfThings 6 = .ok (.getfield 15, 3) := by decide +kernel
theorem dX6_valueOfThings_9 : decode cX6_valueOfThings 9 = .ok (.if_icmp .ge 134, 3) := by decide +kernel
theorem dX6_valueOfThings_12 : decode cX6_valueOfThings 12 = .ok (.aload_n 0, 1) := by decide +kernel
theorem dX6_valueOfThings_13 : decode cX6_valueOfThings 13 = .ok (.getfield 11, 3) := by decide +kernel
theorem dX6_valueOfThings_16 : decode cX6_valueOfThings 16 = .ok (.iload_n 2, 1) := by decide +kernel
theorem dX6_valueOfThings_17 : decode cX6_valueOfThings 17 = .ok (.iaload, 1) := by decide +kernel
theorem dX6_valueOfThings_18 : decode cX6_valueOfThings 18 = .ok (.istore_n 3, 1) := by decide +kernel
theorem dX6_valueOfThings_19 : decode cX6_valueOfThings 19 = .ok (.iload_n 3, 1) := by decide +kernel
theorem dX6_valueOfThings_20 : decode cX6_valueOfThings 20 = .ok (.sipush 1000, 3) := by decide +kernel
theorem dX6_valueOfThings_23 : decode cX6_valueOfThings 23 = .ok (.if_icmp .ge 16, 3) := by decide +kernel
theorem dX6_valueOfThings_26 : decode cX6_valueOfThings 26 = .ok (.aload_n 0, 1) := by decide +kernel
theorem dX6_valueOfThings_27 : decode cX6_valueOfThings 27 = .ok (.getfield 42, 3) := by decide +kernel
theorem dX6_valueOfThings_30 : decode cX6_valueOfThings 30 = .ok (.iload_n 1, 1) := by decide +kernel
theorem dX6_valueOfThings_31 : decode cX6_valueOfThings 31 = .ok (.iload_n 3, 1) := by decide +kernel
theorem dX6_valueOfThings_32 : decode cX6_valueOfThings 32 = .ok (.iastore, 1) := by decide +kernel
theorem dX6_valueOfThings_33 : decode cX6_valueOfThings 33 = .ok (.iinc 1 1, 3) := by decide +kernel
theorem dX6_valueOfThings_36 : decode cX6_valueOfThings 36 = .ok (.goto 101, 3) := by decide +kernel
theorem dX6_valueOfThings_39 : decode cX6_valueOfThings 39 = .ok (.iload_n 3, 1) := by decide +kernel
theorem dX6_valueOfThings_40 : decode cX6_valueOfThings 40 = .ok (.sipush 2000, 3) := by decide +kernel
theorem dX6_valueOfThings_43 : decode cX6_valueOfThings 43 = .ok (.if_icmp .ge 25, 3) := by decide +kernel
theorem dX6_valueOfThings_46 : decode cX6_valueOfThings 46 = .ok (.aload_n 0, 1) := by decide +kernel
theorem dX6_valueOfThings_47 : decode cX6_valueOfThings 47 = .ok (.getfield 42, 3) := by decide +kernel
theorem dX6_valueOfThings_50 : decode cX6_valueOfThings 50 = .ok (.iload_n 1, 1) := by decide +kernel
theorem dX6_valueOfThings_51 : decode cX6_valueOfThings 51 = .ok (.aload_n 0, 1) := by decide +kernel
theorem dX6_valueOfThings_52 : decode cX6_valueOfThings 52 = .ok (.getfield 39, 3) := by decide +kernel
theorem dX6_valueOfThings_55 : decode cX6_valueOfThings 55 = .ok (.iload_n 3, 1) := by decide +kernel
theorem dX6_valueOfThings_56 : decode cX6_valueOfThings 56 = .ok (.sipush 1000, 3) := by decide +kernel
theorem dX6_valueOfThings_59 : decode cX6_valueOfThings 59 = .ok (.isub, 1) := by decide +kernel
theorem dX6_valueOfThings_60 : decode cX6_valueOfThings 60 = .ok (.iaload, 1) := by decide +kernel
theorem dX6_valueOfThings_61 : decode cX6_valueOfThings 61 = .ok (.iastore, 1) := by decide +kernel
theorem dX6_valueOfThings_62 : decode cX6_valueOfThings 62 = .ok (.iinc 1 1, 3) := by decide +kernel
theorem dX6_valueOfThings_65 : decode cX6_valueOfThings 65 = .ok (.goto 72, 3) := by decide +kernel
theorem dX6_valueOfThings_68 : decode cX6_valueOfThings 68 = .ok (.iload_n 3, 1) := by decide +kernel
theorem dX6_valueOfThings_69 : decode cX6_valueOfThings 69 = .ok (.sipush 2126, 3) := by decide +kernel
theorem dX6_valueOfThings_72 : decode cX6_valueOfThings 72 = .ok (.if_icmp .ne 27, 3) := by decide +kernel
theorem dX6_valueOfThings_75 : decode cX6_valueOfThings 75 = .ok (.iload_n 1, 1) := by decide +kernel
theorem dX6_valueOfThings_76 : decode cX6_valueOfThings 76 = .ok (.ifCond .le 23, 3) := by decide +kernel
theorem dX6_valueOfThings_79 : decode cX6_valueOfThings 79 = .ok (.aload_n 0, 1) := by decide +kernel
theorem dX6_valueOfThings_80 : decode cX6_valueOfThings 80 = .ok (.getfield 42, 3) := by decide +kernel
theorem dX6_valueOfThings_83 : decode cX6_valueOfThings 83 = .ok (.iload_n 1, 1) := by decide +kernel
theorem dX6_valueOfThings_84 : decode cX6_valueOfThings 84 = .ok (.iconst 1, 1) := by decide +kernel
theorem dX6_valueOfThings_85 : decode cX6_valueOfThings 85 = .ok (.isub, 1) := by decide +kernel
theorem dX6_valueOfThings_86 : decode cX6_valueOfThings 86 = .ok (.aload_n 0, 1) := by decide +kernel
theorem dX6_valueOfThings_87 : decode cX6_valueOfThings 87 = .ok (.getfield 42, 3) := by decide +kernel
theorem dX6_valueOfThings_90 : decode cX6_valueOfThings 90 = .ok (.iload_n 1, 1) := by decide +kernel
theorem dX6_valueOfThings_91 : decode cX6_valueOfThings 91 = .ok (.iconst 1, 1) := by decide +kernel
