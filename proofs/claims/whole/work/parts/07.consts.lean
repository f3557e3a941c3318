abbrev inb (i : Int32) (n : Nat) : Prop := ¬ (i < 0 ∨ n ≤ i.toNatClampNeg)
abbrev isStr (i : Nat) : Prop := i < 5
abbrev isRule (o : Nat) : Prop := o = 110 ∨ o = 115
abbrev isState (o : Nat) : Prop := zk o = 7 ∧ o < zN
theorem nz {v : Int32} (h : v = 0 ∨ v = 1) : narrow .boolean (.int v) = .int v := by rcases h with rfl | rfl <;> rfl
theorem ru_lt {o : Nat} (h : isRule o) : o < 1000 := by rcases h with rfl | rfl <;> decide
theorem ru_o {o : Nat} (h : isRule o) : zO 6 o := by rcases h with rfl | rfl <;> exact ⟨by decide +kernel, by decide⟩
theorem ru_r0 {o : Nat} (h : isRule o) : zr o 0 = o + 1 := by rcases h with rfl | rfl <;> decide +kernel
theorem ru_r2 {o : Nat} (h : isRule o) : zr o 2 = o + 2 := by rcases h with rfl | rfl <;> decide +kernel
theorem ru_r8 {o : Nat} (h : isRule o) : zr o 8 = o + 3 := by rcases h with rfl | rfl <;> decide +kernel
theorem ru_r9 {o : Nat} (h : isRule o) : zr o 9 = o + 4 := by rcases h with rfl | rfl <;> decide +kernel
theorem ru_b1 {o : Nat} (h : isRule o) : zB 12 40 (o + 1) := by rcases h with rfl | rfl <;> exact ⟨by decide +kernel, by decide, by decide +kernel⟩
theorem ru_b2 {o : Nat} (h : isRule o) : zB 13 40 (o + 2) := by rcases h with rfl | rfl <;> exact ⟨by decide +kernel, by decide, by decide +kernel⟩
theorem ru_b3 {o : Nat} (h : isRule o) : zB 12 7 (o + 3) := by rcases h with rfl | rfl <;> exact ⟨by decide +kernel, by decide, by decide +kernel⟩
theorem ru_b4 {o : Nat} (h : isRule o) : zB 12 40 (o + 4) := by rcases h with rfl | rfl <;> exact ⟨by decide +kernel, by decide, by decide +kernel⟩
theorem st_all : ∀ o, o < 159 → zk o = 7 → (zr o 0 = o + 1 ∧ zr o 1 = o + 2 ∧ zr o 2 = o + 3) ∧ (zk (o + 1) = 12 ∧ o + 1 < 159 ∧ zl (o + 1) = 12) ∧ (zk (o + 2) = 12 ∧ o + 2 < 159 ∧ zl (o + 2) = 12) ∧ (zk (o + 3) = 12 ∧ o + 3 < 159 ∧ zl (o + 3) = 12) := by decide +kernel
theorem st_r0 {o : Nat} (h : isState o) : zr o 0 = o + 1 := (st_all o h.2 h.1).1.1
theorem st_r1 {o : Nat} (h : isState o) : zr o 1 = o + 2 := (st_all o h.2 h.1).1.2.1
theorem st_r2 {o : Nat} (h : isState o) : zr o 2 = o + 3 := (st_all o h.2 h.1).1.2.2
theorem st_b1 {o : Nat} (h : isState o) : zB 12 12 (o + 1) := (st_all o h.2 h.1).2.1
theorem st_b2 {o : Nat} (h : isState o) : zB 12 12 (o + 2) := (st_all o h.2 h.1).2.2.1
theorem st_b3 {o : Nat} (h : isState o) : zB 12 12 (o + 3) := (st_all o h.2 h.1).2.2.2
theorem ic_m8 : Int32.ofInt (-8) = (-8 : Int32) := by decide +kernel
theorem ic_m1 : Int32.ofInt (-1) = (-1 : Int32) := by decide +kernel
theorem ic_0 : Int32.ofInt (0) = (0 : Int32) := by decide +kernel
theorem ic_1 : Int32.ofInt (1) = (1 : Int32) := by decide +kernel
theorem ic_2 : Int32.ofInt (2) = (2 : Int32) := by decide +kernel
theorem ic_3 : Int32.ofInt (3) = (3 : Int32) := by decide +kernel
theorem ic_4 : Int32.ofInt (4) = (4 : Int32) := by decide +kernel
theorem ic_5 : Int32.ofInt (5) = (5 : Int32) := by decide +kernel
theorem ic_6 : Int32.ofInt (6) = (6 : Int32) := by decide +kernel
theorem ic_8 : Int32.ofInt (8) = (8 : Int32) := by decide +kernel
theorem ic_16 : Int32.ofInt (16) = (16 : Int32) := by decide +kernel
theorem bi_m100 : (Int8.ofInt (-100)).toInt32 = (-100 : Int32) := by decide +kernel
theorem bi_m3 : (Int8.ofInt (-3)).toInt32 = (-3 : Int32) := by decide +kernel
theorem bi_m2 : (Int8.ofInt (-2)).toInt32 = (-2 : Int32) := by decide +kernel
theorem bi_6 : (Int8.ofInt (6)).toInt32 = (6 : Int32) := by decide +kernel
theorem bi_7 : (Int8.ofInt (7)).toInt32 = (7 : Int32) := by decide +kernel
theorem bi_8 : (Int8.ofInt (8)).toInt32 = (8 : Int32) := by decide +kernel
theorem bi_9 : (Int8.ofInt (9)).toInt32 = (9 : Int32) := by decide +kernel
theorem bi_10 : (Int8.ofInt (10)).toInt32 = (10 : Int32) := by decide +kernel
theorem bi_12 : (Int8.ofInt (12)).toInt32 = (12 : Int32) := by decide +kernel
theorem bi_13 : (Int8.ofInt (13)).toInt32 = (13 : Int32) := by decide +kernel
theorem bi_15 : (Int8.ofInt (15)).toInt32 = (15 : Int32) := by decide +kernel
theorem bi_16 : (Int8.ofInt (16)).toInt32 = (16 : Int32) := by decide +kernel
theorem bi_17 : (Int8.ofInt (17)).toInt32 = (17 : Int32) := by decide +kernel
theorem bi_20 : (Int8.ofInt (20)).toInt32 = (20 : Int32) := by decide +kernel
theorem bi_24 : (Int8.ofInt (24)).toInt32 = (24 : Int32) := by decide +kernel
theorem bi_32 : (Int8.ofInt (32)).toInt32 = (32 : Int32) := by decide +kernel
theorem bi_36 : (Int8.ofInt (36)).toInt32 = (36 : Int32) := by decide +kernel
theorem bi_37 : (Int8.ofInt (37)).toInt32 = (37 : Int32) := by decide +kernel
theorem bi_38 : (Int8.ofInt (38)).toInt32 = (38 : Int32) := by decide +kernel
theorem bi_39 : (Int8.ofInt (39)).toInt32 = (39 : Int32) := by decide +kernel
theorem bi_40 : (Int8.ofInt (40)).toInt32 = (40 : Int32) := by decide +kernel
theorem bi_41 : (Int8.ofInt (41)).toInt32 = (41 : Int32) := by decide +kernel
theorem bi_45 : (Int8.ofInt (45)).toInt32 = (45 : Int32) := by decide +kernel
theorem bi_48 : (Int8.ofInt (48)).toInt32 = (48 : Int32) := by decide +kernel
theorem bi_49 : (Int8.ofInt (49)).toInt32 = (49 : Int32) := by decide +kernel
theorem bi_55 : (Int8.ofInt (55)).toInt32 = (55 : Int32) := by decide +kernel
theorem bi_57 : (Int8.ofInt (57)).toInt32 = (57 : Int32) := by decide +kernel
theorem bi_59 : (Int8.ofInt (59)).toInt32 = (59 : Int32) := by decide +kernel
theorem bi_60 : (Int8.ofInt (60)).toInt32 = (60 : Int32) := by decide +kernel
theorem bi_61 : (Int8.ofInt (61)).toInt32 = (61 : Int32) := by decide +kernel
theorem bi_63 : (Int8.ofInt (63)).toInt32 = (63 : Int32) := by decide +kernel
theorem bi_64 : (Int8.ofInt (64)).toInt32 = (64 : Int32) := by decide +kernel
theorem bi_65 : (Int8.ofInt (65)).toInt32 = (65 : Int32) := by decide +kernel
theorem bi_76 : (Int8.ofInt (76)).toInt32 = (76 : Int32) := by decide +kernel
theorem bi_80 : (Int8.ofInt (80)).toInt32 = (80 : Int32) := by decide +kernel
theorem bi_97 : (Int8.ofInt (97)).toInt32 = (97 : Int32) := by decide +kernel
theorem bi_100 : (Int8.ofInt (100)).toInt32 = (100 : Int32) := by decide +kernel
theorem bi_104 : (Int8.ofInt (104)).toInt32 = (104 : Int32) := by decide +kernel
theorem bi_109 : (Int8.ofInt (109)).toInt32 = (109 : Int32) := by decide +kernel
theorem bi_110 : (Int8.ofInt (110)).toInt32 = (110 : Int32) := by decide +kernel
theorem bi_115 : (Int8.ofInt (115)).toInt32 = (115 : Int32) := by decide +kernel
theorem bi_117 : (Int8.ofInt (117)).toInt32 = (117 : Int32) := by decide +kernel
theorem bi_120 : (Int8.ofInt (120)).toInt32 = (120 : Int32) := by decide +kernel
theorem bi_126 : (Int8.ofInt (126)).toInt32 = (126 : Int32) := by decide +kernel
theorem si_m10000 : (Int16.ofInt (-10000)).toInt32 = (-10000 : Int32) := by decide +kernel
theorem si_192 : (Int16.ofInt (192)).toInt32 = (192 : Int32) := by decide +kernel
theorem si_255 : (Int16.ofInt (255)).toInt32 = (255 : Int32) := by decide +kernel
theorem si_256 : (Int16.ofInt (256)).toInt32 = (256 : Int32) := by decide +kernel
theorem si_585 : (Int16.ofInt (585)).toInt32 = (585 : Int32) := by decide +kernel
theorem si_610 : (Int16.ofInt (610)).toInt32 = (610 : Int32) := by decide +kernel
theorem si_624 : (Int16.ofInt (624)).toInt32 = (624 : Int32) := by decide +kernel
theorem si_999 : (Int16.ofInt (999)).toInt32 = (999 : Int32) := by decide +kernel
theorem si_1000 : (Int16.ofInt (1000)).toInt32 = (1000 : Int32) := by decide +kernel
theorem si_1023 : (Int16.ofInt (1023)).toInt32 = (1023 : Int32) := by decide +kernel
theorem si_2000 : (Int16.ofInt (2000)).toInt32 = (2000 : Int32) := by decide +kernel
theorem si_2048 : (Int16.ofInt (2048)).toInt32 = (2048 : Int32) := by decide +kernel
theorem si_2126 : (Int16.ofInt (2126)).toInt32 = (2126 : Int32) := by decide +kernel
theorem si_3000 : (Int16.ofInt (3000)).toInt32 = (3000 : Int32) := by decide +kernel
theorem si_10000 : (Int16.ofInt (10000)).toInt32 = (10000 : Int32) := by decide +kernel
theorem si_12345 : (Int16.ofInt (12345)).toInt32 = (12345 : Int32) := by decide +kernel
theorem lc_0 : Int64.ofNat ((0 : Fin 2) : Nat) = (0 : Int64) := by decide +kernel
theorem lc_1 : Int64.ofNat ((1 : Fin 2) : Nat) = (1 : Int64) := by decide +kernel
theorem tn_0 : (0 : Int32).toNatClampNeg = 0 := by decide +kernel
theorem tn_1 : (1 : Int32).toNatClampNeg = 1 := by decide +kernel
theorem tn_2 : (2 : Int32).toNatClampNeg = 2 := by decide +kernel
theorem tn_3 : (3 : Int32).toNatClampNeg = 3 := by decide +kernel
theorem tn_4 : (4 : Int32).toNatClampNeg = 4 := by decide +kernel
theorem tn_5 : (5 : Int32).toNatClampNeg = 5 := by decide +kernel
theorem tn_6 : (6 : Int32).toNatClampNeg = 6 := by decide +kernel
theorem tn_7 : (7 : Int32).toNatClampNeg = 7 := by decide +kernel
theorem tn_8 : (8 : Int32).toNatClampNeg = 8 := by decide +kernel
theorem tn_9 : (9 : Int32).toNatClampNeg = 9 := by decide +kernel
theorem tn_10 : (10 : Int32).toNatClampNeg = 10 := by decide +kernel
theorem tn_12 : (12 : Int32).toNatClampNeg = 12 := by decide +kernel
theorem tn_13 : (13 : Int32).toNatClampNeg = 13 := by decide +kernel
theorem tn_15 : (15 : Int32).toNatClampNeg = 15 := by decide +kernel
theorem tn_16 : (16 : Int32).toNatClampNeg = 16 := by decide +kernel
theorem tn_17 : (17 : Int32).toNatClampNeg = 17 := by decide +kernel
theorem tn_20 : (20 : Int32).toNatClampNeg = 20 := by decide +kernel
theorem tn_24 : (24 : Int32).toNatClampNeg = 24 := by decide +kernel
theorem tn_32 : (32 : Int32).toNatClampNeg = 32 := by decide +kernel
theorem tn_36 : (36 : Int32).toNatClampNeg = 36 := by decide +kernel
theorem tn_37 : (37 : Int32).toNatClampNeg = 37 := by decide +kernel
theorem tn_38 : (38 : Int32).toNatClampNeg = 38 := by decide +kernel
theorem tn_39 : (39 : Int32).toNatClampNeg = 39 := by decide +kernel
theorem tn_40 : (40 : Int32).toNatClampNeg = 40 := by decide +kernel
theorem tn_41 : (41 : Int32).toNatClampNeg = 41 := by decide +kernel
theorem tn_45 : (45 : Int32).toNatClampNeg = 45 := by decide +kernel
theorem tn_48 : (48 : Int32).toNatClampNeg = 48 := by decide +kernel
theorem tn_49 : (49 : Int32).toNatClampNeg = 49 := by decide +kernel
theorem tn_55 : (55 : Int32).toNatClampNeg = 55 := by decide +kernel
theorem tn_57 : (57 : Int32).toNatClampNeg = 57 := by decide +kernel
theorem tn_59 : (59 : Int32).toNatClampNeg = 59 := by decide +kernel
theorem tn_60 : (60 : Int32).toNatClampNeg = 60 := by decide +kernel
theorem tn_61 : (61 : Int32).toNatClampNeg = 61 := by decide +kernel
theorem tn_63 : (63 : Int32).toNatClampNeg = 63 := by decide +kernel
theorem tn_64 : (64 : Int32).toNatClampNeg = 64 := by decide +kernel
theorem tn_65 : (65 : Int32).toNatClampNeg = 65 := by decide +kernel
theorem tn_76 : (76 : Int32).toNatClampNeg = 76 := by decide +kernel
theorem tn_80 : (80 : Int32).toNatClampNeg = 80 := by decide +kernel
theorem tn_97 : (97 : Int32).toNatClampNeg = 97 := by decide +kernel
theorem tn_100 : (100 : Int32).toNatClampNeg = 100 := by decide +kernel
theorem tn_104 : (104 : Int32).toNatClampNeg = 104 := by decide +kernel
theorem tn_109 : (109 : Int32).toNatClampNeg = 109 := by decide +kernel
theorem tn_110 : (110 : Int32).toNatClampNeg = 110 := by decide +kernel
theorem tn_115 : (115 : Int32).toNatClampNeg = 115 := by decide +kernel
theorem tn_117 : (117 : Int32).toNatClampNeg = 117 := by decide +kernel
theorem tn_120 : (120 : Int32).toNatClampNeg = 120 := by decide +kernel
theorem tn_126 : (126 : Int32).toNatClampNeg = 126 := by decide +kernel
theorem tn_192 : (192 : Int32).toNatClampNeg = 192 := by decide +kernel
theorem tn_255 : (255 : Int32).toNatClampNeg = 255 := by decide +kernel
theorem tn_256 : (256 : Int32).toNatClampNeg = 256 := by decide +kernel
theorem tn_585 : (585 : Int32).toNatClampNeg = 585 := by decide +kernel
theorem tn_610 : (610 : Int32).toNatClampNeg = 610 := by decide +kernel
theorem tn_624 : (624 : Int32).toNatClampNeg = 624 := by decide +kernel
theorem tn_999 : (999 : Int32).toNatClampNeg = 999 := by decide +kernel
theorem tn_1000 : (1000 : Int32).toNatClampNeg = 1000 := by decide +kernel
theorem tn_1023 : (1023 : Int32).toNatClampNeg = 1023 := by decide +kernel
theorem tn_2000 : (2000 : Int32).toNatClampNeg = 2000 := by decide +kernel
theorem tn_2048 : (2048 : Int32).toNatClampNeg = 2048 := by decide +kernel
theorem tn_2126 : (2126 : Int32).toNatClampNeg = 2126 := by decide +kernel
theorem tn_3000 : (3000 : Int32).toNatClampNeg = 3000 := by decide +kernel
theorem tn_10000 : (10000 : Int32).toNatClampNeg = 10000 := by decide +kernel
theorem tn_12345 : (12345 : Int32).toNatClampNeg = 12345 := by decide +kernel
theorem zf_0_0 : zf 0 0 = 1 := by decide +kernel
theorem zf_0_1 : zf 0 1 = 1 := by decide +kernel
theorem zf_0_2 : zf 0 2 = 0 := by decide +kernel
theorem zf_0_3 : zf 0 3 = 1 := by decide +kernel
theorem zf_1_0 : zf 1 0 = 1 := by decide +kernel
theorem zf_1_1 : zf 1 1 = 1 := by decide +kernel
theorem zf_1_2 : zf 1 2 = 1 := by decide +kernel
theorem zf_1_3 : zf 1 3 = 0 := by decide +kernel
theorem zf_2_0 : zf 2 0 = 1 := by decide +kernel
theorem zf_2_1 : zf 2 1 = 1 := by decide +kernel
theorem zf_2_2 : zf 2 2 = 1 := by decide +kernel
theorem zf_2_3 : zf 2 3 = 0 := by decide +kernel
theorem zf_2_4 : zf 2 4 = 0 := by decide +kernel
theorem zf_2_5 : zf 2 5 = 0 := by decide +kernel
theorem zf_2_6 : zf 2 6 = 1 := by decide +kernel
theorem zf_2_7 : zf 2 7 = 1 := by decide +kernel
theorem zf_2_8 : zf 2 8 = 1 := by decide +kernel
theorem zf_3_0 : zf 3 0 = 1 := by decide +kernel
theorem zf_3_1 : zf 3 1 = 1 := by decide +kernel
theorem zf_3_2 : zf 3 2 = 1 := by decide +kernel
theorem zf_3_3 : zf 3 3 = 0 := by decide +kernel
theorem zf_3_4 : zf 3 4 = 1 := by decide +kernel
theorem zf_3_5 : zf 3 5 = 0 := by decide +kernel
theorem zf_3_6 : zf 3 6 = 1 := by decide +kernel
theorem zf_4_0 : zf 4 0 = 1 := by decide +kernel
theorem zf_4_1 : zf 4 1 = 0 := by decide +kernel
theorem zf_4_2 : zf 4 2 = 0 := by decide +kernel
theorem zf_4_3 : zf 4 3 = 1 := by decide +kernel
theorem zf_4_4 : zf 4 4 = 1 := by decide +kernel
theorem zf_5_0 : zf 5 0 = 1 := by decide +kernel
theorem zf_5_1 : zf 5 1 = 0 := by decide +kernel
theorem zf_6_0 : zf 6 0 = 1 := by decide +kernel
theorem zf_6_1 : zf 6 1 = 0 := by decide +kernel
theorem zf_6_2 : zf 6 2 = 1 := by decide +kernel
theorem zf_6_3 : zf 6 3 = 0 := by decide +kernel
theorem zf_6_4 : zf 6 4 = 0 := by decide +kernel
theorem zf_6_5 : zf 6 5 = 0 := by decide +kernel
theorem zf_6_6 : zf 6 6 = 0 := by decide +kernel
theorem zf_6_7 : zf 6 7 = 0 := by decide +kernel
theorem zf_6_8 : zf 6 8 = 1 := by decide +kernel
theorem zf_6_9 : zf 6 9 = 1 := by decide +kernel
theorem zf_7_0 : zf 7 0 = 1 := by decide +kernel
theorem zf_7_1 : zf 7 1 = 1 := by decide +kernel
theorem zf_7_2 : zf 7 2 = 1 := by decide +kernel
theorem zf_7_3 : zf 7 3 = 0 := by decide +kernel
theorem zf_7_4 : zf 7 4 = 0 := by decide +kernel
theorem zf_7_5 : zf 7 5 = 0 := by decide +kernel
theorem zf_8_0 : zf 8 0 = 1 := by decide +kernel
theorem zf_8_1 : zf 8 1 = 0 := by decide +kernel
theorem zf_9_0 : zf 9 0 = 1 := by decide +kernel
theorem zf_9_1 : zf 9 1 = 1 := by decide +kernel
theorem zf_9_2 : zf 9 2 = 1 := by decide +kernel
theorem zf_10_0 : zf 10 0 = 1 := by decide +kernel
theorem zf_10_1 : zf 10 1 = 1 := by decide +kernel
theorem zf_10_2 : zf 10 2 = 1 := by decide +kernel
theorem zf_10_3 : zf 10 3 = 1 := by decide +kernel
theorem zf_10_4 : zf 10 4 = 1 := by decide +kernel
theorem zf_10_5 : zf 10 5 = 1 := by decide +kernel
theorem zf_10_6 : zf 10 6 = 1 := by decide +kernel
theorem zf_10_7 : zf 10 7 = 1 := by decide +kernel
theorem zf_10_8 : zf 10 8 = 2 := by decide +kernel
theorem zf_10_9 : zf 10 9 = 2 := by decide +kernel
theorem zf_10_10 : zf 10 10 = 1 := by decide +kernel
theorem zf_10_11 : zf 10 11 = 1 := by decide +kernel
theorem zf_10_12 : zf 10 12 = 0 := by decide +kernel
theorem zf_11_0 : zf 11 0 = 0 := by decide +kernel
theorem zf_11_1 : zf 11 1 = 0 := by decide +kernel
theorem zf_11_2 : zf 11 2 = 1 := by decide +kernel
theorem zf_11_3 : zf 11 3 = 0 := by decide +kernel
theorem zf_11_4 : zf 11 4 = 0 := by decide +kernel
theorem zf_11_5 : zf 11 5 = 1 := by decide +kernel
theorem zf_11_6 : zf 11 6 = 1 := by decide +kernel
theorem zf_11_7 : zf 11 7 = 1 := by decide +kernel
theorem zf_11_8 : zf 11 8 = 1 := by decide +kernel
theorem zf_11_9 : zf 11 9 = 1 := by decide +kernel
theorem zf_11_10 : zf 11 10 = 0 := by decide +kernel
theorem zf_11_11 : zf 11 11 = 0 := by decide +kernel
theorem zf_11_12 : zf 11 12 = 0 := by decide +kernel
theorem zf_11_13 : zf 11 13 = 0 := by decide +kernel
theorem zf_11_14 : zf 11 14 = 1 := by decide +kernel
theorem zf_11_15 : zf 11 15 = 0 := by decide +kernel
theorem zf_11_16 : zf 11 16 = 1 := by decide +kernel
theorem zf_11_17 : zf 11 17 = 1 := by decide +kernel
theorem zf_11_18 : zf 11 18 = 0 := by decide +kernel
theorem zf_11_19 : zf 11 19 = 0 := by decide +kernel
theorem zf_11_20 : zf 11 20 = 1 := by decide +kernel
theorem zf_11_21 : zf 11 21 = 1 := by decide +kernel
theorem zf_11_22 : zf 11 22 = 1 := by decide +kernel
theorem zf_11_23 : zf 11 23 = 1 := by decide +kernel
theorem zf_11_24 : zf 11 24 = 0 := by decide +kernel
theorem zf_11_25 : zf 11 25 = 0 := by decide +kernel
theorem zf_11_26 : zf 11 26 = 0 := by decide +kernel
theorem zf_11_27 : zf 11 27 = 1 := by decide +kernel
theorem zf_11_28 : zf 11 28 = 0 := by decide +kernel
theorem zf_11_29 : zf 11 29 = 1 := by decide +kernel
theorem zf_11_30 : zf 11 30 = 1 := by decide +kernel
theorem zf_11_31 : zf 11 31 = 1 := by decide +kernel
theorem zf_11_32 : zf 11 32 = 1 := by decide +kernel
theorem zf_11_33 : zf 11 33 = 1 := by decide +kernel
theorem zf_11_34 : zf 11 34 = 1 := by decide +kernel
theorem zf_11_35 : zf 11 35 = 0 := by decide +kernel
theorem zf_11_36 : zf 11 36 = 1 := by decide +kernel
theorem zf_11_37 : zf 11 37 = 1 := by decide +kernel
theorem zf_11_38 : zf 11 38 = 1 := by decide +kernel
theorem zf_11_39 : zf 11 39 = 0 := by decide +kernel
theorem zf_11_40 : zf 11 40 = 1 := by decide +kernel
theorem zf_11_41 : zf 11 41 = 1 := by decide +kernel
theorem zf_11_42 : zf 11 42 = 0 := by decide +kernel
theorem zf_11_43 : zf 11 43 = 1 := by decide +kernel
theorem zf_11_44 : zf 11 44 = 1 := by decide +kernel
theorem zf_11_45 : zf 11 45 = 1 := by decide +kernel
theorem zf_11_46 : zf 11 46 = 1 := by decide +kernel
theorem zf_11_47 : zf 11 47 = 1 := by decide +kernel
theorem zf_11_48 : zf 11 48 = 1 := by decide +kernel
theorem zf_11_49 : zf 11 49 = 1 := by decide +kernel
theorem zf_11_50 : zf 11 50 = 0 := by decide +kernel
theorem zf_11_51 : zf 11 51 = 1 := by decide +kernel
theorem zf_11_52 : zf 11 52 = 1 := by decide +kernel
theorem zf_11_53 : zf 11 53 = 1 := by decide +kernel
theorem st_aa13 : ∀ j, j < 16 → zk (zr 13 j) = 7 ∧ zr 13 j < 159 := by decide +kernel
theorem st_a13 {i : Int32} (h : inb i 16) : isState (zr 13 i.toNatClampNeg) := st_aa13 _ (Nat.not_le.mp fun q => h (Or.inr q))
theorem st_aa78 : ∀ j, j < 3 → zk (zr 78 j) = 7 ∧ zr 78 j < 159 := by decide +kernel
theorem st_a78 {i : Int32} (h : inb i 3) : isState (zr 78 i.toNatClampNeg) := st_aa78 _ (Nat.not_le.mp fun q => h (Or.inr q))
theorem hy_X0_init : yX0_init.cls ≠ "java/lang/invoke/MethodHandle" ∧ yX0_init.cls ≠ "java/lang/invoke/VarHandle" ∧ (parseMethodDescriptor yX0_init.desc).map (fun d => d.parameters.length) = some 0 := by decide +kernel
theorem hy_X0_add : yX0_add.cls ≠ "java/lang/invoke/MethodHandle" ∧ yX0_add.cls ≠ "java/lang/invoke/VarHandle" ∧ (parseMethodDescriptor yX0_add.desc).map (fun d => d.parameters.length) = some 4 := by decide +kernel
theorem hy_X0_has : yX0_has.cls ≠ "java/lang/invoke/MethodHandle" ∧ yX0_has.cls ≠ "java/lang/invoke/VarHandle" ∧ (parseMethodDescriptor yX0_has.desc).map (fun d => d.parameters.length) = some 1 := by decide +kernel
theorem hy_X0_isOpen : yX0_isOpen.cls ≠ "java/lang/invoke/MethodHandle" ∧ yX0_isOpen.cls ≠ "java/lang/invoke/VarHandle" ∧ (parseMethodDescriptor yX0_isOpen.desc).map (fun d => d.parameters.length) = some 1 := by decide +kernel
theorem hy_X0_isEnd : yX0_isEnd.cls ≠ "java/lang/invoke/MethodHandle" ∧ yX0_isEnd.cls ≠ "java/lang/invoke/VarHandle" ∧ (parseMethodDescriptor yX0_isEnd.desc).map (fun d => d.parameters.length) = some 2 := by decide +kernel
theorem hy_X0_acrossFrom : yX0_acrossFrom.cls ≠ "java/lang/invoke/MethodHandle" ∧ yX0_acrossFrom.cls ≠ "java/lang/invoke/VarHandle" ∧ (parseMethodDescriptor yX0_acrossFrom.desc).map (fun d => d.parameters.length) = some 2 := by decide +kernel
theorem hy_X0_endsOf : yX0_endsOf.cls ≠ "java/lang/invoke/MethodHandle" ∧ yX0_endsOf.cls ≠ "java/lang/invoke/VarHandle" ∧ (parseMethodDescriptor yX0_endsOf.desc).map (fun d => d.parameters.length) = some 1 := by decide +kernel
theorem hy_X0_endingAt : yX0_endingAt.cls ≠ "java/lang/invoke/MethodHandle" ∧ yX0_endingAt.cls ≠ "java/lang/invoke/VarHandle" ∧ (parseMethodDescriptor yX0_endingAt.desc).map (fun d => d.parameters.length) = some 1 := by decide +kernel
theorem hy_X0_openOf : yX0_openOf.cls ≠ "java/lang/invoke/MethodHandle" ∧ yX0_openOf.cls ≠ "java/lang/invoke/VarHandle" ∧ (parseMethodDescriptor yX0_openOf.desc).map (fun d => d.parameters.length) = some 1 := by decide +kernel
theorem hy_X0_enteredCaverns : yX0_enteredCaverns.cls ≠ "java/lang/invoke/MethodHandle" ∧ yX0_enteredCaverns.cls ≠ "java/lang/invoke/VarHandle" ∧ (parseMethodDescriptor yX0_enteredCaverns.desc).map (fun d => d.parameters.length) = some 0 := by decide +kernel
theorem hy_X0_heal : yX0_heal.cls ≠ "java/lang/invoke/MethodHandle" ∧ yX0_heal.cls ≠ "java/lang/invoke/VarHandle" ∧ (parseMethodDescriptor yX0_heal.desc).map (fun d => d.parameters.length) = some 1 := by decide +kernel
theorem hy_X0_wearOut : yX0_wearOut.cls ≠ "java/lang/invoke/MethodHandle" ∧ yX0_wearOut.cls ≠ "java/lang/invoke/VarHandle" ∧ (parseMethodDescriptor yX0_wearOut.desc).map (fun d => d.parameters.length) = some 1 := by decide +kernel
theorem hy_X0_wearOfAll : yX0_wearOfAll.cls ≠ "java/lang/invoke/MethodHandle" ∧ yX0_wearOfAll.cls ≠ "java/lang/invoke/VarHandle" ∧ (parseMethodDescriptor yX0_wearOfAll.desc).map (fun d => d.parameters.length) = some 0 := by decide +kernel
theorem hy_X0_delayOfAll : yX0_delayOfAll.cls ≠ "java/lang/invoke/MethodHandle" ∧ yX0_delayOfAll.cls ≠ "java/lang/invoke/VarHandle" ∧ (parseMethodDescriptor yX0_delayOfAll.desc).map (fun d => d.parameters.length) = some 0 := by decide +kernel
theorem hy_X1_init : yX1_init.cls ≠ "java/lang/invoke/MethodHandle" ∧ yX1_init.cls ≠ "java/lang/invoke/VarHandle" ∧ (parseMethodDescriptor yX1_init.desc).map (fun d => d.parameters.length) = some 1 := by decide +kernel
theorem hy_X1_add : yX1_add.cls ≠ "java/lang/invoke/MethodHandle" ∧ yX1_add.cls ≠ "java/lang/invoke/VarHandle" ∧ (parseMethodDescriptor yX1_add.desc).map (fun d => d.parameters.length) = some 2 := by decide +kernel
theorem hy_X1_fittingPassages : yX1_fittingPassages.cls ≠ "java/lang/invoke/MethodHandle" ∧ yX1_fittingPassages.cls ≠ "java/lang/invoke/VarHandle" ∧ (parseMethodDescriptor yX1_fittingPassages.desc).map (fun d => d.parameters.length) = some 0 := by decide +kernel
theorem hy_X1_fitsAll : yX1_fitsAll.cls ≠ "java/lang/invoke/MethodHandle" ∧ yX1_fitsAll.cls ≠ "java/lang/invoke/VarHandle" ∧ (parseMethodDescriptor yX1_fitsAll.desc).map (fun d => d.parameters.length) = some 1 := by decide +kernel
theorem hy_X1_agrees : yX1_agrees.cls ≠ "java/lang/invoke/MethodHandle" ∧ yX1_agrees.cls ≠ "java/lang/invoke/VarHandle" ∧ (parseMethodDescriptor yX1_agrees.desc).map (fun d => d.parameters.length) = some 3 := by decide +kernel
theorem hy_X2_init : yX2_init.cls ≠ "java/lang/invoke/MethodHandle" ∧ yX2_init.cls ≠ "java/lang/invoke/VarHandle" ∧ (parseMethodDescriptor yX2_init.desc).map (fun d => d.parameters.length) = some 1 := by decide +kernel
theorem hy_X2_goes : yX2_goes.cls ≠ "java/lang/invoke/MethodHandle" ∧ yX2_goes.cls ≠ "java/lang/invoke/VarHandle" ∧ (parseMethodDescriptor yX2_goes.desc).map (fun d => d.parameters.length) = some 2 := by decide +kernel
theorem hy_X2_leastOf : yX2_leastOf.cls ≠ "java/lang/invoke/MethodHandle" ∧ yX2_leastOf.cls ≠ "java/lang/invoke/VarHandle" ∧ (parseMethodDescriptor yX2_leastOf.desc).map (fun d => d.parameters.length) = some 1 := by decide +kernel
theorem hy_X2_comesOut : yX2_comesOut.cls ≠ "java/lang/invoke/MethodHandle" ∧ yX2_comesOut.cls ≠ "java/lang/invoke/VarHandle" ∧ (parseMethodDescriptor yX2_comesOut.desc).map (fun d => d.parameters.length) = some 3 := by decide +kernel
theorem hy_X2_imagesAt : yX2_imagesAt.cls ≠ "java/lang/invoke/MethodHandle" ∧ yX2_imagesAt.cls ≠ "java/lang/invoke/VarHandle" ∧ (parseMethodDescriptor yX2_imagesAt.desc).map (fun d => d.parameters.length) = some 3 := by decide +kernel
theorem hy_X2_learnSteps : yX2_learnSteps.cls ≠ "java/lang/invoke/MethodHandle" ∧ yX2_learnSteps.cls ≠ "java/lang/invoke/VarHandle" ∧ (parseMethodDescriptor yX2_learnSteps.desc).map (fun d => d.parameters.length) = some 1 := by decide +kernel
theorem hy_X2_stepAt : yX2_stepAt.cls ≠ "java/lang/invoke/MethodHandle" ∧ yX2_stepAt.cls ≠ "java/lang/invoke/VarHandle" ∧ (parseMethodDescriptor yX2_stepAt.desc).map (fun d => d.parameters.length) = some 3 := by decide +kernel
theorem hy_X2_keptByLearntSteps : yX2_keptByLearntSteps.cls ≠ "java/lang/invoke/MethodHandle" ∧ yX2_keptByLearntSteps.cls ≠ "java/lang/invoke/VarHandle" ∧ (parseMethodDescriptor yX2_keptByLearntSteps.desc).map (fun d => d.parameters.length) = some 0 := by decide +kernel
theorem hy_X2_spread : yX2_spread.cls ≠ "java/lang/invoke/MethodHandle" ∧ yX2_spread.cls ≠ "java/lang/invoke/VarHandle" ∧ (parseMethodDescriptor yX2_spread.desc).map (fun d => d.parameters.length) = some 3 := by decide +kernel
theorem hy_X3_init : yX3_init.cls ≠ "java/lang/invoke/MethodHandle" ∧ yX3_init.cls ≠ "java/lang/invoke/VarHandle" ∧ (parseMethodDescriptor yX3_init.desc).map (fun d => d.parameters.length) = some 0 := by decide +kernel
theorem hy_X3_add : yX3_add.cls ≠ "java/lang/invoke/MethodHandle" ∧ yX3_add.cls ≠ "java/lang/invoke/VarHandle" ∧ (parseMethodDescriptor yX3_add.desc).map (fun d => d.parameters.length) = some 3 := by decide +kernel
theorem hy_X3_becomesBy : yX3_becomesBy.cls ≠ "java/lang/invoke/MethodHandle" ∧ yX3_becomesBy.cls ≠ "java/lang/invoke/VarHandle" ∧ (parseMethodDescriptor yX3_becomesBy.desc).map (fun d => d.parameters.length) = some 3 := by decide +kernel
theorem hy_X3_findFitting : yX3_findFitting.cls ≠ "java/lang/invoke/MethodHandle" ∧ yX3_findFitting.cls ≠ "java/lang/invoke/VarHandle" ∧ (parseMethodDescriptor yX3_findFitting.desc).map (fun d => d.parameters.length) = some 0 := by decide +kernel
theorem hy_X3_fitsHeard : yX3_fitsHeard.cls ≠ "java/lang/invoke/MethodHandle" ∧ yX3_fitsHeard.cls ≠ "java/lang/invoke/VarHandle" ∧ (parseMethodDescriptor yX3_fitsHeard.desc).map (fun d => d.parameters.length) = some 1 := by decide +kernel
theorem hy_X3_mostLeft : yX3_mostLeft.cls ≠ "java/lang/invoke/MethodHandle" ∧ yX3_mostLeft.cls ≠ "java/lang/invoke/VarHandle" ∧ (parseMethodDescriptor yX3_mostLeft.desc).map (fun d => d.parameters.length) = some 2 := by decide +kernel
theorem hy_X4_init : yX4_init.cls ≠ "java/lang/invoke/MethodHandle" ∧ yX4_init.cls ≠ "java/lang/invoke/VarHandle" ∧ (parseMethodDescriptor yX4_init.desc).map (fun d => d.parameters.length) = some 0 := by decide +kernel
theorem hy_X4_mark : yX4_mark.cls ≠ "java/lang/invoke/MethodHandle" ∧ yX4_mark.cls ≠ "java/lang/invoke/VarHandle" ∧ (parseMethodDescriptor yX4_mark.desc).map (fun d => d.parameters.length) = some 1 := by decide +kernel
theorem hy_X4_marked : yX4_marked.cls ≠ "java/lang/invoke/MethodHandle" ∧ yX4_marked.cls ≠ "java/lang/invoke/VarHandle" ∧ (parseMethodDescriptor yX4_marked.desc).map (fun d => d.parameters.length) = some 0 := by decide +kernel
theorem hy_X4_settle : yX4_settle.cls ≠ "java/lang/invoke/MethodHandle" ∧ yX4_settle.cls ≠ "java/lang/invoke/VarHandle" ∧ (parseMethodDescriptor yX4_settle.desc).map (fun d => d.parameters.length) = some 1 := by decide +kernel
theorem hy_X4_latest : yX4_latest.cls ≠ "java/lang/invoke/MethodHandle" ∧ yX4_latest.cls ≠ "java/lang/invoke/VarHandle" ∧ (parseMethodDescriptor yX4_latest.desc).map (fun d => d.parameters.length) = some 0 := by decide +kernel
theorem hy_X4_store : yX4_store.cls ≠ "java/lang/invoke/MethodHandle" ∧ yX4_store.cls ≠ "java/lang/invoke/VarHandle" ∧ (parseMethodDescriptor yX4_store.desc).map (fun d => d.parameters.length) = some 2 := by decide +kernel
theorem hy_X4_hasStored : yX4_hasStored.cls ≠ "java/lang/invoke/MethodHandle" ∧ yX4_hasStored.cls ≠ "java/lang/invoke/VarHandle" ∧ (parseMethodDescriptor yX4_hasStored.desc).map (fun d => d.parameters.length) = some 1 := by decide +kernel
theorem hy_X4_lose : yX4_lose.cls ≠ "java/lang/invoke/MethodHandle" ∧ yX4_lose.cls ≠ "java/lang/invoke/VarHandle" ∧ (parseMethodDescriptor yX4_lose.desc).map (fun d => d.parameters.length) = some 0 := by decide +kernel
theorem hy_X5_init : yX5_init.cls ≠ "java/lang/invoke/MethodHandle" ∧ yX5_init.cls ≠ "java/lang/invoke/VarHandle" ∧ (parseMethodDescriptor yX5_init.desc).map (fun d => d.parameters.length) = some 0 := by decide +kernel
theorem hy_X5_begin : yX5_begin.cls ≠ "java/lang/invoke/MethodHandle" ∧ yX5_begin.cls ≠ "java/lang/invoke/VarHandle" ∧ (parseMethodDescriptor yX5_begin.desc).map (fun d => d.parameters.length) = some 0 := by decide +kernel
theorem hy_X5_put : yX5_put.cls ≠ "java/lang/invoke/MethodHandle" ∧ yX5_put.cls ≠ "java/lang/invoke/VarHandle" ∧ (parseMethodDescriptor yX5_put.desc).map (fun d => d.parameters.length) = some 1 := by decide +kernel
theorem hy_X5_at : yX5_at.cls ≠ "java/lang/invoke/MethodHandle" ∧ yX5_at.cls ≠ "java/lang/invoke/VarHandle" ∧ (parseMethodDescriptor yX5_at.desc).map (fun d => d.parameters.length) = some 1 := by decide +kernel
theorem hy_X6_init : yX6_init.cls ≠ "java/lang/invoke/MethodHandle" ∧ yX6_init.cls ≠ "java/lang/invoke/VarHandle" ∧ (parseMethodDescriptor yX6_init.desc).map (fun d => d.parameters.length) = some 0 := by decide +kernel
theorem hy_X6_read : yX6_read.cls ≠ "java/lang/invoke/MethodHandle" ∧ yX6_read.cls ≠ "java/lang/invoke/VarHandle" ∧ (parseMethodDescriptor yX6_read.desc).map (fun d => d.parameters.length) = some 1 := by decide +kernel
theorem hy_X6_takesThing : yX6_takesThing.cls ≠ "java/lang/invoke/MethodHandle" ∧ yX6_takesThing.cls ≠ "java/lang/invoke/VarHandle" ∧ (parseMethodDescriptor yX6_takesThing.desc).map (fun d => d.parameters.length) = some 1 := by decide +kernel
theorem hy_X6_takesBehindThing : yX6_takesBehindThing.cls ≠ "java/lang/invoke/MethodHandle" ∧ yX6_takesBehindThing.cls ≠ "java/lang/invoke/VarHandle" ∧ (parseMethodDescriptor yX6_takesBehindThing.desc).map (fun d => d.parameters.length) = some 1 := by decide +kernel
theorem hy_X6_takesDigit : yX6_takesDigit.cls ≠ "java/lang/invoke/MethodHandle" ∧ yX6_takesDigit.cls ≠ "java/lang/invoke/VarHandle" ∧ (parseMethodDescriptor yX6_takesDigit.desc).map (fun d => d.parameters.length) = some 1 := by decide +kernel
theorem hy_X6_closes : yX6_closes.cls ≠ "java/lang/invoke/MethodHandle" ∧ yX6_closes.cls ≠ "java/lang/invoke/VarHandle" ∧ (parseMethodDescriptor yX6_closes.desc).map (fun d => d.parameters.length) = some 0 := by decide +kernel
theorem hy_X6_bindingOf : yX6_bindingOf.cls ≠ "java/lang/invoke/MethodHandle" ∧ yX6_bindingOf.cls ≠ "java/lang/invoke/VarHandle" ∧ (parseMethodDescriptor yX6_bindingOf.desc).map (fun d => d.parameters.length) = some 1 := by decide +kernel
theorem hy_X6_hold : yX6_hold.cls ≠ "java/lang/invoke/MethodHandle" ∧ yX6_hold.cls ≠ "java/lang/invoke/VarHandle" ∧ (parseMethodDescriptor yX6_hold.desc).map (fun d => d.parameters.length) = some 1 := by decide +kernel
theorem hy_X6_emit : yX6_emit.cls ≠ "java/lang/invoke/MethodHandle" ∧ yX6_emit.cls ≠ "java/lang/invoke/VarHandle" ∧ (parseMethodDescriptor yX6_emit.desc).map (fun d => d.parameters.length) = some 1 := by decide +kernel
theorem hy_X6_release : yX6_release.cls ≠ "java/lang/invoke/MethodHandle" ∧ yX6_release.cls ≠ "java/lang/invoke/VarHandle" ∧ (parseMethodDescriptor yX6_release.desc).map (fun d => d.parameters.length) = some 1 := by decide +kernel
theorem hy_X6_bindsAtLeast : yX6_bindsAtLeast.cls ≠ "java/lang/invoke/MethodHandle" ∧ yX6_bindsAtLeast.cls ≠ "java/lang/invoke/VarHandle" ∧ (parseMethodDescriptor yX6_bindsAtLeast.desc).map (fun d => d.parameters.length) = some 2 := by decide +kernel
theorem hy_X6_changed : yX6_changed.cls ≠ "java/lang/invoke/MethodHandle" ∧ yX6_changed.cls ≠ "java/lang/invoke/VarHandle" ∧ (parseMethodDescriptor yX6_changed.desc).map (fun d => d.parameters.length) = some 5 := by decide +kernel
theorem hy_X6_valueOfThings : yX6_valueOfThings.cls ≠ "java/lang/invoke/MethodHandle" ∧ yX6_valueOfThings.cls ≠ "java/lang/invoke/VarHandle" ∧ (parseMethodDescriptor yX6_valueOfThings.desc).map (fun d => d.parameters.length) = some 0 := by decide +kernel
theorem hy_X6_joined : yX6_joined.cls ≠ "java/lang/invoke/MethodHandle" ∧ yX6_joined.cls ≠ "java/lang/invoke/VarHandle" ∧ (parseMethodDescriptor yX6_joined.desc).map (fun d => d.parameters.length) = some 3 := by decide +kernel
theorem hy_X7_init : yX7_init.cls ≠ "java/lang/invoke/MethodHandle" ∧ yX7_init.cls ≠ "java/lang/invoke/VarHandle" ∧ (parseMethodDescriptor yX7_init.desc).map (fun d => d.parameters.length) = some 0 := by decide +kernel
theorem hy_X7_take : yX7_take.cls ≠ "java/lang/invoke/MethodHandle" ∧ yX7_take.cls ≠ "java/lang/invoke/VarHandle" ∧ (parseMethodDescriptor yX7_take.desc).map (fun d => d.parameters.length) = some 1 := by decide +kernel
theorem hy_X8_init : yX8_init.cls ≠ "java/lang/invoke/MethodHandle" ∧ yX8_init.cls ≠ "java/lang/invoke/VarHandle" ∧ (parseMethodDescriptor yX8_init.desc).map (fun d => d.parameters.length) = some 0 := by decide +kernel
theorem hy_X8_within : yX8_within.cls ≠ "java/lang/invoke/MethodHandle" ∧ yX8_within.cls ≠ "java/lang/invoke/VarHandle" ∧ (parseMethodDescriptor yX8_within.desc).map (fun d => d.parameters.length) = some 3 := by decide +kernel
theorem hy_X8_digit : yX8_digit.cls ≠ "java/lang/invoke/MethodHandle" ∧ yX8_digit.cls ≠ "java/lang/invoke/VarHandle" ∧ (parseMethodDescriptor yX8_digit.desc).map (fun d => d.parameters.length) = some 1 := by decide +kernel
theorem hy_X8_letter : yX8_letter.cls ≠ "java/lang/invoke/MethodHandle" ∧ yX8_letter.cls ≠ "java/lang/invoke/VarHandle" ∧ (parseMethodDescriptor yX8_letter.desc).map (fun d => d.parameters.length) = some 1 := by decide +kernel
theorem hy_X8_lettersFrom : yX8_lettersFrom.cls ≠ "java/lang/invoke/MethodHandle" ∧ yX8_lettersFrom.cls ≠ "java/lang/invoke/VarHandle" ∧ (parseMethodDescriptor yX8_lettersFrom.desc).map (fun d => d.parameters.length) = some 1 := by decide +kernel
theorem hy_X8_faultOfLines : yX8_faultOfLines.cls ≠ "java/lang/invoke/MethodHandle" ∧ yX8_faultOfLines.cls ≠ "java/lang/invoke/VarHandle" ∧ (parseMethodDescriptor yX8_faultOfLines.desc).map (fun d => d.parameters.length) = some 1 := by decide +kernel
theorem hy_X8_standsInLine : yX8_standsInLine.cls ≠ "java/lang/invoke/MethodHandle" ∧ yX8_standsInLine.cls ≠ "java/lang/invoke/VarHandle" ∧ (parseMethodDescriptor yX8_standsInLine.desc).map (fun d => d.parameters.length) = some 2 := by decide +kernel
theorem hy_X8_faultOfCall : yX8_faultOfCall.cls ≠ "java/lang/invoke/MethodHandle" ∧ yX8_faultOfCall.cls ≠ "java/lang/invoke/VarHandle" ∧ (parseMethodDescriptor yX8_faultOfCall.desc).map (fun d => d.parameters.length) = some 0 := by decide +kernel
theorem hy_X8_faultOfPair : yX8_faultOfPair.cls ≠ "java/lang/invoke/MethodHandle" ∧ yX8_faultOfPair.cls ≠ "java/lang/invoke/VarHandle" ∧ (parseMethodDescriptor yX8_faultOfPair.desc).map (fun d => d.parameters.length) = some 0 := by decide +kernel
theorem hy_X8_faultOfSeason : yX8_faultOfSeason.cls ≠ "java/lang/invoke/MethodHandle" ∧ yX8_faultOfSeason.cls ≠ "java/lang/invoke/VarHandle" ∧ (parseMethodDescriptor yX8_faultOfSeason.desc).map (fun d => d.parameters.length) = some 0 := by decide +kernel
theorem hy_X8_digitsOfAct : yX8_digitsOfAct.cls ≠ "java/lang/invoke/MethodHandle" ∧ yX8_digitsOfAct.cls ≠ "java/lang/invoke/VarHandle" ∧ (parseMethodDescriptor yX8_digitsOfAct.desc).map (fun d => d.parameters.length) = some 1 := by decide +kernel
theorem hy_X8_signsOfAct : yX8_signsOfAct.cls ≠ "java/lang/invoke/MethodHandle" ∧ yX8_signsOfAct.cls ≠ "java/lang/invoke/VarHandle" ∧ (parseMethodDescriptor yX8_signsOfAct.desc).map (fun d => d.parameters.length) = some 1 := by decide +kernel
theorem hy_X9_init : yX9_init.cls ≠ "java/lang/invoke/MethodHandle" ∧ yX9_init.cls ≠ "java/lang/invoke/VarHandle" ∧ (parseMethodDescriptor yX9_init.desc).map (fun d => d.parameters.length) = some 1 := by decide +kernel
theorem hy_X9_measure : yX9_measure.cls ≠ "java/lang/invoke/MethodHandle" ∧ yX9_measure.cls ≠ "java/lang/invoke/VarHandle" ∧ (parseMethodDescriptor yX9_measure.desc).map (fun d => d.parameters.length) = some 0 := by decide +kernel
theorem hy_X9_shorten : yX9_shorten.cls ≠ "java/lang/invoke/MethodHandle" ∧ yX9_shorten.cls ≠ "java/lang/invoke/VarHandle" ∧ (parseMethodDescriptor yX9_shorten.desc).map (fun d => d.parameters.length) = some 3 := by decide +kernel
theorem hy_X9_farOf : yX9_farOf.cls ≠ "java/lang/invoke/MethodHandle" ∧ yX9_farOf.cls ≠ "java/lang/invoke/VarHandle" ∧ (parseMethodDescriptor yX9_farOf.desc).map (fun d => d.parameters.length) = some 2 := by decide +kernel
theorem hy_X9_joinedTo : yX9_joinedTo.cls ≠ "java/lang/invoke/MethodHandle" ∧ yX9_joinedTo.cls ≠ "java/lang/invoke/VarHandle" ∧ (parseMethodDescriptor yX9_joinedTo.desc).map (fun d => d.parameters.length) = some 1 := by decide +kernel
theorem hy_X9_farthestOf : yX9_farthestOf.cls ≠ "java/lang/invoke/MethodHandle" ∧ yX9_farthestOf.cls ≠ "java/lang/invoke/VarHandle" ∧ (parseMethodDescriptor yX9_farthestOf.desc).map (fun d => d.parameters.length) = some 1 := by decide +kernel
theorem hy_X9_laterOf : yX9_laterOf.cls ≠ "java/lang/invoke/MethodHandle" ∧ yX9_laterOf.cls ≠ "java/lang/invoke/VarHandle" ∧ (parseMethodDescriptor yX9_laterOf.desc).map (fun d => d.parameters.length) = some 3 := by decide +kernel
theorem hy_X9_firstStep : yX9_firstStep.cls ≠ "java/lang/invoke/MethodHandle" ∧ yX9_firstStep.cls ≠ "java/lang/invoke/VarHandle" ∧ (parseMethodDescriptor yX9_firstStep.desc).map (fun d => d.parameters.length) = some 2 := by decide +kernel
theorem hy_X9_reached : yX9_reached.cls ≠ "java/lang/invoke/MethodHandle" ∧ yX9_reached.cls ≠ "java/lang/invoke/VarHandle" ∧ (parseMethodDescriptor yX9_reached.desc).map (fun d => d.parameters.length) = some 2 := by decide +kernel
theorem hy_X9_joinsEnds : yX9_joinsEnds.cls ≠ "java/lang/invoke/MethodHandle" ∧ yX9_joinsEnds.cls ≠ "java/lang/invoke/VarHandle" ∧ (parseMethodDescriptor yX9_joinsEnds.desc).map (fun d => d.parameters.length) = some 2 := by decide +kernel
theorem hy_X9_heapsOf : yX9_heapsOf.cls ≠ "java/lang/invoke/MethodHandle" ∧ yX9_heapsOf.cls ≠ "java/lang/invoke/VarHandle" ∧ (parseMethodDescriptor yX9_heapsOf.desc).map (fun d => d.parameters.length) = some 1 := by decide +kernel
theorem hy_X9_planTours : yX9_planTours.cls ≠ "java/lang/invoke/MethodHandle" ∧ yX9_planTours.cls ≠ "java/lang/invoke/VarHandle" ∧ (parseMethodDescriptor yX9_planTours.desc).map (fun d => d.parameters.length) = some 2 := by decide +kernel
theorem hy_X9_minutesLeft : yX9_minutesLeft.cls ≠ "java/lang/invoke/MethodHandle" ∧ yX9_minutesLeft.cls ≠ "java/lang/invoke/VarHandle" ∧ (parseMethodDescriptor yX9_minutesLeft.desc).map (fun d => d.parameters.length) = some 2 := by decide +kernel
theorem hy_X9_minutesBy : yX9_minutesBy.cls ≠ "java/lang/invoke/MethodHandle" ∧ yX9_minutesBy.cls ≠ "java/lang/invoke/VarHandle" ∧ (parseMethodDescriptor yX9_minutesBy.desc).map (fun d => d.parameters.length) = some 3 := by decide +kernel
theorem hy_X9_nextOfTour : yX9_nextOfTour.cls ≠ "java/lang/invoke/MethodHandle" ∧ yX9_nextOfTour.cls ≠ "java/lang/invoke/VarHandle" ∧ (parseMethodDescriptor yX9_nextOfTour.desc).map (fun d => d.parameters.length) = some 2 := by decide +kernel
theorem hy_X9_firstHalf : yX9_firstHalf.cls ≠ "java/lang/invoke/MethodHandle" ∧ yX9_firstHalf.cls ≠ "java/lang/invoke/VarHandle" ∧ (parseMethodDescriptor yX9_firstHalf.desc).map (fun d => d.parameters.length) = some 0 := by decide +kernel
theorem hy_X9_acrossOf : yX9_acrossOf.cls ≠ "java/lang/invoke/MethodHandle" ∧ yX9_acrossOf.cls ≠ "java/lang/invoke/VarHandle" ∧ (parseMethodDescriptor yX9_acrossOf.desc).map (fun d => d.parameters.length) = some 1 := by decide +kernel
theorem hy_X9_guarded : yX9_guarded.cls ≠ "java/lang/invoke/MethodHandle" ∧ yX9_guarded.cls ≠ "java/lang/invoke/VarHandle" ∧ (parseMethodDescriptor yX9_guarded.desc).map (fun d => d.parameters.length) = some 1 := by decide +kernel
theorem hy_X9_mostApart : yX9_mostApart.cls ≠ "java/lang/invoke/MethodHandle" ∧ yX9_mostApart.cls ≠ "java/lang/invoke/VarHandle" ∧ (parseMethodDescriptor yX9_mostApart.desc).map (fun d => d.parameters.length) = some 5 := by decide +kernel
theorem hy_X10_init : yX10_init.cls ≠ "java/lang/invoke/MethodHandle" ∧ yX10_init.cls ≠ "java/lang/invoke/VarHandle" ∧ (parseMethodDescriptor yX10_init.desc).map (fun d => d.parameters.length) = some 0 := by decide +kernel
theorem hy_X10_sign : yX10_sign.cls ≠ "java/lang/invoke/MethodHandle" ∧ yX10_sign.cls ≠ "java/lang/invoke/VarHandle" ∧ (parseMethodDescriptor yX10_sign.desc).map (fun d => d.parameters.length) = some 1 := by decide +kernel
theorem hy_X10_end : yX10_end.cls ≠ "java/lang/invoke/MethodHandle" ∧ yX10_end.cls ≠ "java/lang/invoke/VarHandle" ∧ (parseMethodDescriptor yX10_end.desc).map (fun d => d.parameters.length) = some 1 := by decide +kernel
theorem hy_X10_passages : yX10_passages.cls ≠ "java/lang/invoke/MethodHandle" ∧ yX10_passages.cls ≠ "java/lang/invoke/VarHandle" ∧ (parseMethodDescriptor yX10_passages.desc).map (fun d => d.parameters.length) = some 0 := by decide +kernel
theorem hy_X10_rule : yX10_rule.cls ≠ "java/lang/invoke/MethodHandle" ∧ yX10_rule.cls ≠ "java/lang/invoke/VarHandle" ∧ (parseMethodDescriptor yX10_rule.desc).map (fun d => d.parameters.length) = some 0 := by decide +kernel
theorem hy_X10_passage : yX10_passage.cls ≠ "java/lang/invoke/MethodHandle" ∧ yX10_passage.cls ≠ "java/lang/invoke/VarHandle" ∧ (parseMethodDescriptor yX10_passage.desc).map (fun d => d.parameters.length) = some 2 := by decide +kernel
theorem hy_X10_cavern : yX10_cavern.cls ≠ "java/lang/invoke/MethodHandle" ∧ yX10_cavern.cls ≠ "java/lang/invoke/VarHandle" ∧ (parseMethodDescriptor yX10_cavern.desc).map (fun d => d.parameters.length) = some 2 := by decide +kernel
theorem hy_X10_sheet : yX10_sheet.cls ≠ "java/lang/invoke/MethodHandle" ∧ yX10_sheet.cls ≠ "java/lang/invoke/VarHandle" ∧ (parseMethodDescriptor yX10_sheet.desc).map (fun d => d.parameters.length) = some 4 := by decide +kernel
theorem hy_X10_wearToldBy : yX10_wearToldBy.cls ≠ "java/lang/invoke/MethodHandle" ∧ yX10_wearToldBy.cls ≠ "java/lang/invoke/VarHandle" ∧ (parseMethodDescriptor yX10_wearToldBy.desc).map (fun d => d.parameters.length) = some 2 := by decide +kernel
theorem hy_X10_calls : yX10_calls.cls ≠ "java/lang/invoke/MethodHandle" ∧ yX10_calls.cls ≠ "java/lang/invoke/VarHandle" ∧ (parseMethodDescriptor yX10_calls.desc).map (fun d => d.parameters.length) = some 2 := by decide +kernel
theorem hy_X10_hours : yX10_hours.cls ≠ "java/lang/invoke/MethodHandle" ∧ yX10_hours.cls ≠ "java/lang/invoke/VarHandle" ∧ (parseMethodDescriptor yX10_hours.desc).map (fun d => d.parameters.length) = some 1 := by decide +kernel
theorem hy_X10_falls : yX10_falls.cls ≠ "java/lang/invoke/MethodHandle" ∧ yX10_falls.cls ≠ "java/lang/invoke/VarHandle" ∧ (parseMethodDescriptor yX10_falls.desc).map (fun d => d.parameters.length) = some 1 := by decide +kernel
theorem hy_X10_digs : yX10_digs.cls ≠ "java/lang/invoke/MethodHandle" ∧ yX10_digs.cls ≠ "java/lang/invoke/VarHandle" ∧ (parseMethodDescriptor yX10_digs.desc).map (fun d => d.parameters.length) = some 3 := by decide +kernel
theorem hy_X10_season : yX10_season.cls ≠ "java/lang/invoke/MethodHandle" ∧ yX10_season.cls ≠ "java/lang/invoke/VarHandle" ∧ (parseMethodDescriptor yX10_season.desc).map (fun d => d.parameters.length) = some 0 := by decide +kernel
theorem hy_X10_undo : yX10_undo.cls ≠ "java/lang/invoke/MethodHandle" ∧ yX10_undo.cls ≠ "java/lang/invoke/VarHandle" ∧ (parseMethodDescriptor yX10_undo.desc).map (fun d => d.parameters.length) = some 0 := by decide +kernel
theorem hy_X10_refusalOfCall : yX10_refusalOfCall.cls ≠ "java/lang/invoke/MethodHandle" ∧ yX10_refusalOfCall.cls ≠ "java/lang/invoke/VarHandle" ∧ (parseMethodDescriptor yX10_refusalOfCall.desc).map (fun d => d.parameters.length) = some 2 := by decide +kernel
theorem hy_X10_putLetters : yX10_putLetters.cls ≠ "java/lang/invoke/MethodHandle" ∧ yX10_putLetters.cls ≠ "java/lang/invoke/VarHandle" ∧ (parseMethodDescriptor yX10_putLetters.desc).map (fun d => d.parameters.length) = some 1 := by decide +kernel
theorem hy_X10_wearByEcho : yX10_wearByEcho.cls ≠ "java/lang/invoke/MethodHandle" ∧ yX10_wearByEcho.cls ≠ "java/lang/invoke/VarHandle" ∧ (parseMethodDescriptor yX10_wearByEcho.desc).map (fun d => d.parameters.length) = some 0 := by decide +kernel
theorem hy_X10_passHours : yX10_passHours.cls ≠ "java/lang/invoke/MethodHandle" ∧ yX10_passHours.cls ≠ "java/lang/invoke/VarHandle" ∧ (parseMethodDescriptor yX10_passHours.desc).map (fun d => d.parameters.length) = some 1 := by decide +kernel
theorem hy_X10_turnPassage : yX10_turnPassage.cls ≠ "java/lang/invoke/MethodHandle" ∧ yX10_turnPassage.cls ≠ "java/lang/invoke/VarHandle" ∧ (parseMethodDescriptor yX10_turnPassage.desc).map (fun d => d.parameters.length) = some 1 := by decide +kernel
theorem hy_X10_digPassage : yX10_digPassage.cls ≠ "java/lang/invoke/MethodHandle" ∧ yX10_digPassage.cls ≠ "java/lang/invoke/VarHandle" ∧ (parseMethodDescriptor yX10_digPassage.desc).map (fun d => d.parameters.length) = some 3 := by decide +kernel
theorem hy_X10_doAct : yX10_doAct.cls ≠ "java/lang/invoke/MethodHandle" ∧ yX10_doAct.cls ≠ "java/lang/invoke/VarHandle" ∧ (parseMethodDescriptor yX10_doAct.desc).map (fun d => d.parameters.length) = some 1 := by decide +kernel
theorem hy_X10_route : yX10_route.cls ≠ "java/lang/invoke/MethodHandle" ∧ yX10_route.cls ≠ "java/lang/invoke/VarHandle" ∧ (parseMethodDescriptor yX10_route.desc).map (fun d => d.parameters.length) = some 2 := by decide +kernel
theorem hy_X10_hears : yX10_hears.cls ≠ "java/lang/invoke/MethodHandle" ∧ yX10_hears.cls ≠ "java/lang/invoke/VarHandle" ∧ (parseMethodDescriptor yX10_hears.desc).map (fun d => d.parameters.length) = some 2 := by decide +kernel
theorem hy_X10_asks : yX10_asks.cls ≠ "java/lang/invoke/MethodHandle" ∧ yX10_asks.cls ≠ "java/lang/invoke/VarHandle" ∧ (parseMethodDescriptor yX10_asks.desc).map (fun d => d.parameters.length) = some 2 := by decide +kernel
theorem hy_X10_becomes : yX10_becomes.cls ≠ "java/lang/invoke/MethodHandle" ∧ yX10_becomes.cls ≠ "java/lang/invoke/VarHandle" ∧ (parseMethodDescriptor yX10_becomes.desc).map (fun d => d.parameters.length) = some 0 := by decide +kernel
theorem hy_X10_keeps : yX10_keeps.cls ≠ "java/lang/invoke/MethodHandle" ∧ yX10_keeps.cls ≠ "java/lang/invoke/VarHandle" ∧ (parseMethodDescriptor yX10_keeps.desc).map (fun d => d.parameters.length) = some 2 := by decide +kernel
theorem hy_X10_apart : yX10_apart.cls ≠ "java/lang/invoke/MethodHandle" ∧ yX10_apart.cls ≠ "java/lang/invoke/VarHandle" ∧ (parseMethodDescriptor yX10_apart.desc).map (fun d => d.parameters.length) = some 3 := by decide +kernel
theorem hy_X10_longest : yX10_longest.cls ≠ "java/lang/invoke/MethodHandle" ∧ yX10_longest.cls ≠ "java/lang/invoke/VarHandle" ∧ (parseMethodDescriptor yX10_longest.desc).map (fun d => d.parameters.length) = some 1 := by decide +kernel
theorem hy_X10_rounds : yX10_rounds.cls ≠ "java/lang/invoke/MethodHandle" ∧ yX10_rounds.cls ≠ "java/lang/invoke/VarHandle" ∧ (parseMethodDescriptor yX10_rounds.desc).map (fun d => d.parameters.length) = some 0 := by decide +kernel
theorem hy_X10_putIfFirst : yX10_putIfFirst.cls ≠ "java/lang/invoke/MethodHandle" ∧ yX10_putIfFirst.cls ≠ "java/lang/invoke/VarHandle" ∧ (parseMethodDescriptor yX10_putIfFirst.desc).map (fun d => d.parameters.length) = some 2 := by decide +kernel
theorem hy_X10_timesAmongImages : yX10_timesAmongImages.cls ≠ "java/lang/invoke/MethodHandle" ∧ yX10_timesAmongImages.cls ≠ "java/lang/invoke/VarHandle" ∧ (parseMethodDescriptor yX10_timesAmongImages.desc).map (fun d => d.parameters.length) = some 1 := by decide +kernel
theorem hy_X10_firstImage : yX10_firstImage.cls ≠ "java/lang/invoke/MethodHandle" ∧ yX10_firstImage.cls ≠ "java/lang/invoke/VarHandle" ∧ (parseMethodDescriptor yX10_firstImage.desc).map (fun d => d.parameters.length) = some 1 := by decide +kernel
theorem hy_X10_turnsIntoOther : yX10_turnsIntoOther.cls ≠ "java/lang/invoke/MethodHandle" ∧ yX10_turnsIntoOther.cls ≠ "java/lang/invoke/VarHandle" ∧ (parseMethodDescriptor yX10_turnsIntoOther.desc).map (fun d => d.parameters.length) = some 1 := by decide +kernel
theorem hy_X10_way : yX10_way.cls ≠ "java/lang/invoke/MethodHandle" ∧ yX10_way.cls ≠ "java/lang/invoke/VarHandle" ∧ (parseMethodDescriptor yX10_way.desc).map (fun d => d.parameters.length) = some 2 := by decide +kernel
theorem hy_X10_meets : yX10_meets.cls ≠ "java/lang/invoke/MethodHandle" ∧ yX10_meets.cls ≠ "java/lang/invoke/VarHandle" ∧ (parseMethodDescriptor yX10_meets.desc).map (fun d => d.parameters.length) = some 2 := by decide +kernel
theorem hy_X10_heart : yX10_heart.cls ≠ "java/lang/invoke/MethodHandle" ∧ yX10_heart.cls ≠ "java/lang/invoke/VarHandle" ∧ (parseMethodDescriptor yX10_heart.desc).map (fun d => d.parameters.length) = some 0 := by decide +kernel
theorem hy_X10_ropes : yX10_ropes.cls ≠ "java/lang/invoke/MethodHandle" ∧ yX10_ropes.cls ≠ "java/lang/invoke/VarHandle" ∧ (parseMethodDescriptor yX10_ropes.desc).map (fun d => d.parameters.length) = some 0 := by decide +kernel
theorem hy_X10_needed : yX10_needed.cls ≠ "java/lang/invoke/MethodHandle" ∧ yX10_needed.cls ≠ "java/lang/invoke/VarHandle" ∧ (parseMethodDescriptor yX10_needed.desc).map (fun d => d.parameters.length) = some 0 := by decide +kernel
theorem hy_X10_tour : yX10_tour.cls ≠ "java/lang/invoke/MethodHandle" ∧ yX10_tour.cls ≠ "java/lang/invoke/VarHandle" ∧ (parseMethodDescriptor yX10_tour.desc).map (fun d => d.parameters.length) = some 2 := by decide +kernel
theorem hy_X10_halves : yX10_halves.cls ≠ "java/lang/invoke/MethodHandle" ∧ yX10_halves.cls ≠ "java/lang/invoke/VarHandle" ∧ (parseMethodDescriptor yX10_halves.desc).map (fun d => d.parameters.length) = some 0 := by decide +kernel
theorem hy_X10_guides : yX10_guides.cls ≠ "java/lang/invoke/MethodHandle" ∧ yX10_guides.cls ≠ "java/lang/invoke/VarHandle" ∧ (parseMethodDescriptor yX10_guides.desc).map (fun d => d.parameters.length) = some 0 := by decide +kernel
theorem hy_X10_most : yX10_most.cls ≠ "java/lang/invoke/MethodHandle" ∧ yX10_most.cls ≠ "java/lang/invoke/VarHandle" ∧ (parseMethodDescriptor yX10_most.desc).map (fun d => d.parameters.length) = some 0 := by decide +kernel
theorem hy_X10_joinedCount : yX10_joinedCount.cls ≠ "java/lang/invoke/MethodHandle" ∧ yX10_joinedCount.cls ≠ "java/lang/invoke/VarHandle" ∧ (parseMethodDescriptor yX10_joinedCount.desc).map (fun d => d.parameters.length) = some 1 := by decide +kernel
theorem hy_X10_told : yX10_told.cls ≠ "java/lang/invoke/MethodHandle" ∧ yX10_told.cls ≠ "java/lang/invoke/VarHandle" ∧ (parseMethodDescriptor yX10_told.desc).map (fun d => d.parameters.length) = some 2 := by decide +kernel
theorem hy_X10_forget : yX10_forget.cls ≠ "java/lang/invoke/MethodHandle" ∧ yX10_forget.cls ≠ "java/lang/invoke/VarHandle" ∧ (parseMethodDescriptor yX10_forget.desc).map (fun d => d.parameters.length) = some 0 := by decide +kernel
theorem hy_X10_fits : yX10_fits.cls ≠ "java/lang/invoke/MethodHandle" ∧ yX10_fits.cls ≠ "java/lang/invoke/VarHandle" ∧ (parseMethodDescriptor yX10_fits.desc).map (fun d => d.parameters.length) = some 0 := by decide +kernel
theorem hy_X10_next : yX10_next.cls ≠ "java/lang/invoke/MethodHandle" ∧ yX10_next.cls ≠ "java/lang/invoke/VarHandle" ∧ (parseMethodDescriptor yX10_next.desc).map (fun d => d.parameters.length) = some 0 := by decide +kernel
theorem hy_X10_heard : yX10_heard.cls ≠ "java/lang/invoke/MethodHandle" ∧ yX10_heard.cls ≠ "java/lang/invoke/VarHandle" ∧ (parseMethodDescriptor yX10_heard.desc).map (fun d => d.parameters.length) = some 3 := by decide +kernel
theorem hy_X10_denied : yX10_denied.cls ≠ "java/lang/invoke/MethodHandle" ∧ yX10_denied.cls ≠ "java/lang/invoke/VarHandle" ∧ (parseMethodDescriptor yX10_denied.desc).map (fun d => d.parameters.length) = some 0 := by decide +kernel
theorem hy_X10_laws : yX10_laws.cls ≠ "java/lang/invoke/MethodHandle" ∧ yX10_laws.cls ≠ "java/lang/invoke/VarHandle" ∧ (parseMethodDescriptor yX10_laws.desc).map (fun d => d.parameters.length) = some 0 := by decide +kernel
theorem hy_X10_listens : yX10_listens.cls ≠ "java/lang/invoke/MethodHandle" ∧ yX10_listens.cls ≠ "java/lang/invoke/VarHandle" ∧ (parseMethodDescriptor yX10_listens.desc).map (fun d => d.parameters.length) = some 0 := by decide +kernel
theorem hy_X10_hints : yX10_hints.cls ≠ "java/lang/invoke/MethodHandle" ∧ yX10_hints.cls ≠ "java/lang/invoke/VarHandle" ∧ (parseMethodDescriptor yX10_hints.desc).map (fun d => d.parameters.length) = some 5 := by decide +kernel
theorem hy_X10_game : yX10_game.cls ≠ "java/lang/invoke/MethodHandle" ∧ yX10_game.cls ≠ "java/lang/invoke/VarHandle" ∧ (parseMethodDescriptor yX10_game.desc).map (fun d => d.parameters.length) = some 2 := by decide +kernel
theorem hy_X10_goodMoves : yX10_goodMoves.cls ≠ "java/lang/invoke/MethodHandle" ∧ yX10_goodMoves.cls ≠ "java/lang/invoke/VarHandle" ∧ (parseMethodDescriptor yX10_goodMoves.desc).map (fun d => d.parameters.length) = some 2 := by decide +kernel
theorem hy_X10_winsBehind : yX10_winsBehind.cls ≠ "java/lang/invoke/MethodHandle" ∧ yX10_winsBehind.cls ≠ "java/lang/invoke/VarHandle" ∧ (parseMethodDescriptor yX10_winsBehind.desc).map (fun d => d.parameters.length) = some 3 := by decide +kernel
theorem hy_X10_commonDivisor : yX10_commonDivisor.cls ≠ "java/lang/invoke/MethodHandle" ∧ yX10_commonDivisor.cls ≠ "java/lang/invoke/VarHandle" ∧ (parseMethodDescriptor yX10_commonDivisor.desc).map (fun d => d.parameters.length) = some 2 := by decide +kernel
theorem hy_X10_law : yX10_law.cls ≠ "java/lang/invoke/MethodHandle" ∧ yX10_law.cls ≠ "java/lang/invoke/VarHandle" ∧ (parseMethodDescriptor yX10_law.desc).map (fun d => d.parameters.length) = some 0 := by decide +kernel
theorem hy_X10_rests : yX10_rests.cls ≠ "java/lang/invoke/MethodHandle" ∧ yX10_rests.cls ≠ "java/lang/invoke/VarHandle" ∧ (parseMethodDescriptor yX10_rests.desc).map (fun d => d.parameters.length) = some 1 := by decide +kernel
theorem hy_X10_years : yX10_years.cls ≠ "java/lang/invoke/MethodHandle" ∧ yX10_years.cls ≠ "java/lang/invoke/VarHandle" ∧ (parseMethodDescriptor yX10_years.desc).map (fun d => d.parameters.length) = some 2 := by decide +kernel
theorem hy_X10_keptBy : yX10_keptBy.cls ≠ "java/lang/invoke/MethodHandle" ∧ yX10_keptBy.cls ≠ "java/lang/invoke/VarHandle" ∧ (parseMethodDescriptor yX10_keptBy.desc).map (fun d => d.parameters.length) = some 1 := by decide +kernel
theorem hy_X10_isBestAnswer : yX10_isBestAnswer.cls ≠ "java/lang/invoke/MethodHandle" ∧ yX10_isBestAnswer.cls ≠ "java/lang/invoke/VarHandle" ∧ (parseMethodDescriptor yX10_isBestAnswer.desc).map (fun d => d.parameters.length) = some 3 := by decide +kernel
theorem hy_X10_gainOf : yX10_gainOf.cls ≠ "java/lang/invoke/MethodHandle" ∧ yX10_gainOf.cls ≠ "java/lang/invoke/VarHandle" ∧ (parseMethodDescriptor yX10_gainOf.desc).map (fun d => d.parameters.length) = some 3 := by decide +kernel
theorem hy_X10_liveYear : yX10_liveYear.cls ≠ "java/lang/invoke/MethodHandle" ∧ yX10_liveYear.cls ≠ "java/lang/invoke/VarHandle" ∧ (parseMethodDescriptor yX10_liveYear.desc).map (fun d => d.parameters.length) = some 0 := by decide +kernel
theorem hy_X10_draw : yX10_draw.cls ≠ "java/lang/invoke/MethodHandle" ∧ yX10_draw.cls ≠ "java/lang/invoke/VarHandle" ∧ (parseMethodDescriptor yX10_draw.desc).map (fun d => d.parameters.length) = some 1 := by decide +kernel
theorem hy_X10_keep : yX10_keep.cls ≠ "java/lang/invoke/MethodHandle" ∧ yX10_keep.cls ≠ "java/lang/invoke/VarHandle" ∧ (parseMethodDescriptor yX10_keep.desc).map (fun d => d.parameters.length) = some 1 := by decide +kernel
theorem hy_X10_again : yX10_again.cls ≠ "java/lang/invoke/MethodHandle" ∧ yX10_again.cls ≠ "java/lang/invoke/VarHandle" ∧ (parseMethodDescriptor yX10_again.desc).map (fun d => d.parameters.length) = some 1 := by decide +kernel
theorem hy_X10_count : yX10_count.cls ≠ "java/lang/invoke/MethodHandle" ∧ yX10_count.cls ≠ "java/lang/invoke/VarHandle" ∧ (parseMethodDescriptor yX10_count.desc).map (fun d => d.parameters.length) = some 1 := by decide +kernel
theorem hy_X10_row : yX10_row.cls ≠ "java/lang/invoke/MethodHandle" ∧ yX10_row.cls ≠ "java/lang/invoke/VarHandle" ∧ (parseMethodDescriptor yX10_row.desc).map (fun d => d.parameters.length) = some 1 := by decide +kernel
theorem hy_X10_isCavern : yX10_isCavern.cls ≠ "java/lang/invoke/MethodHandle" ∧ yX10_isCavern.cls ≠ "java/lang/invoke/VarHandle" ∧ (parseMethodDescriptor yX10_isCavern.desc).map (fun d => d.parameters.length) = some 1 := by decide +kernel
theorem hy_X10_isLetter : yX10_isLetter.cls ≠ "java/lang/invoke/MethodHandle" ∧ yX10_isLetter.cls ≠ "java/lang/invoke/VarHandle" ∧ (parseMethodDescriptor yX10_isLetter.desc).map (fun d => d.parameters.length) = some 1 := by decide +kernel
theorem hy_X11_thrown : yX11_thrown.cls ≠ "java/lang/invoke/MethodHandle" ∧ yX11_thrown.cls ≠ "java/lang/invoke/VarHandle" ∧ (parseMethodDescriptor yX11_thrown.desc).map (fun d => d.parameters.length) = some 0 := by decide +kernel
theorem hy_X11_refuse : yX11_refuse.cls ≠ "java/lang/invoke/MethodHandle" ∧ yX11_refuse.cls ≠ "java/lang/invoke/VarHandle" ∧ (parseMethodDescriptor yX11_refuse.desc).map (fun d => d.parameters.length) = some 0 := by decide +kernel
theorem hy_X11_in : yX11_in.cls ≠ "java/lang/invoke/MethodHandle" ∧ yX11_in.cls ≠ "java/lang/invoke/VarHandle" ∧ (parseMethodDescriptor yX11_in.desc).map (fun d => d.parameters.length) = some 3 := by decide +kernel
theorem hy_X11_has : yX11_has.cls ≠ "java/lang/invoke/MethodHandle" ∧ yX11_has.cls ≠ "java/lang/invoke/VarHandle" ∧ (parseMethodDescriptor yX11_has.desc).map (fun d => d.parameters.length) = some 2 := by decide +kernel
theorem hy_X11_flag : yX11_flag.cls ≠ "java/lang/invoke/MethodHandle" ∧ yX11_flag.cls ≠ "java/lang/invoke/VarHandle" ∧ (parseMethodDescriptor yX11_flag.desc).map (fun d => d.parameters.length) = some 1 := by decide +kernel
theorem hy_X11_common : yX11_common.cls ≠ "java/lang/invoke/MethodHandle" ∧ yX11_common.cls ≠ "java/lang/invoke/VarHandle" ∧ (parseMethodDescriptor yX11_common.desc).map (fun d => d.parameters.length) = some 2 := by decide +kernel
theorem hy_X11_enters : yX11_enters.cls ≠ "java/lang/invoke/MethodHandle" ∧ yX11_enters.cls ≠ "java/lang/invoke/VarHandle" ∧ (parseMethodDescriptor yX11_enters.desc).map (fun d => d.parameters.length) = some 1 := by decide +kernel
theorem hy_X11_init : yX11_init.cls ≠ "java/lang/invoke/MethodHandle" ∧ yX11_init.cls ≠ "java/lang/invoke/VarHandle" ∧ (parseMethodDescriptor yX11_init.desc).map (fun d => d.parameters.length) = some 0 := by decide +kernel
theorem hy_X11_isPassage : yX11_isPassage.cls ≠ "java/lang/invoke/MethodHandle" ∧ yX11_isPassage.cls ≠ "java/lang/invoke/VarHandle" ∧ (parseMethodDescriptor yX11_isPassage.desc).map (fun d => d.parameters.length) = some 1 := by decide +kernel
theorem hy_X11_isCavern : yX11_isCavern.cls ≠ "java/lang/invoke/MethodHandle" ∧ yX11_isCavern.cls ≠ "java/lang/invoke/VarHandle" ∧ (parseMethodDescriptor yX11_isCavern.desc).map (fun d => d.parameters.length) = some 1 := by decide +kernel
theorem hy_X11_isEnd : yX11_isEnd.cls ≠ "java/lang/invoke/MethodHandle" ∧ yX11_isEnd.cls ≠ "java/lang/invoke/VarHandle" ∧ (parseMethodDescriptor yX11_isEnd.desc).map (fun d => d.parameters.length) = some 2 := by decide +kernel
theorem hy_X11_beyond : yX11_beyond.cls ≠ "java/lang/invoke/MethodHandle" ∧ yX11_beyond.cls ≠ "java/lang/invoke/VarHandle" ∧ (parseMethodDescriptor yX11_beyond.desc).map (fun d => d.parameters.length) = some 2 := by decide +kernel
theorem hy_X11_sumOf : yX11_sumOf.cls ≠ "java/lang/invoke/MethodHandle" ∧ yX11_sumOf.cls ≠ "java/lang/invoke/VarHandle" ∧ (parseMethodDescriptor yX11_sumOf.desc).map (fun d => d.parameters.length) = some 2 := by decide +kernel
theorem hy_X11_sign : yX11_sign.cls ≠ "java/lang/invoke/MethodHandle" ∧ yX11_sign.cls ≠ "java/lang/invoke/VarHandle" ∧ (parseMethodDescriptor yX11_sign.desc).map (fun d => d.parameters.length) = some 1 := by decide +kernel
theorem hy_X11_end : yX11_end.cls ≠ "java/lang/invoke/MethodHandle" ∧ yX11_end.cls ≠ "java/lang/invoke/VarHandle" ∧ (parseMethodDescriptor yX11_end.desc).map (fun d => d.parameters.length) = some 1 := by decide +kernel
theorem hy_X11_begins : yX11_begins.cls ≠ "java/lang/invoke/MethodHandle" ∧ yX11_begins.cls ≠ "java/lang/invoke/VarHandle" ∧ (parseMethodDescriptor yX11_begins.desc).map (fun d => d.parameters.length) = some 1 := by decide +kernel
theorem hy_X11_takes : yX11_takes.cls ≠ "java/lang/invoke/MethodHandle" ∧ yX11_takes.cls ≠ "java/lang/invoke/VarHandle" ∧ (parseMethodDescriptor yX11_takes.desc).map (fun d => d.parameters.length) = some 1 := by decide +kernel
theorem hy_X11_isDigit : yX11_isDigit.cls ≠ "java/lang/invoke/MethodHandle" ∧ yX11_isDigit.cls ≠ "java/lang/invoke/VarHandle" ∧ (parseMethodDescriptor yX11_isDigit.desc).map (fun d => d.parameters.length) = some 0 := by decide +kernel
theorem hy_X11_isLetter : yX11_isLetter.cls ≠ "java/lang/invoke/MethodHandle" ∧ yX11_isLetter.cls ≠ "java/lang/invoke/VarHandle" ∧ (parseMethodDescriptor yX11_isLetter.desc).map (fun d => d.parameters.length) = some 0 := by decide +kernel
theorem hy_X11_takesOf : yX11_takesOf.cls ≠ "java/lang/invoke/MethodHandle" ∧ yX11_takesOf.cls ≠ "java/lang/invoke/VarHandle" ∧ (parseMethodDescriptor yX11_takesOf.desc).map (fun d => d.parameters.length) = some 1 := by decide +kernel
theorem hy_X11_number : yX11_number.cls ≠ "java/lang/invoke/MethodHandle" ∧ yX11_number.cls ≠ "java/lang/invoke/VarHandle" ∧ (parseMethodDescriptor yX11_number.desc).map (fun d => d.parameters.length) = some 1 := by decide +kernel
theorem hy_X11_digitIn : yX11_digitIn.cls ≠ "java/lang/invoke/MethodHandle" ∧ yX11_digitIn.cls ≠ "java/lang/invoke/VarHandle" ∧ (parseMethodDescriptor yX11_digitIn.desc).map (fun d => d.parameters.length) = some 3 := by decide +kernel
theorem hy_X11_faultOf : yX11_faultOf.cls ≠ "java/lang/invoke/MethodHandle" ∧ yX11_faultOf.cls ≠ "java/lang/invoke/VarHandle" ∧ (parseMethodDescriptor yX11_faultOf.desc).map (fun d => d.parameters.length) = some 3 := by decide +kernel
theorem hy_X11_readsPassage : yX11_readsPassage.cls ≠ "java/lang/invoke/MethodHandle" ∧ yX11_readsPassage.cls ≠ "java/lang/invoke/VarHandle" ∧ (parseMethodDescriptor yX11_readsPassage.desc).map (fun d => d.parameters.length) = some 0 := by decide +kernel
theorem hy_X11_passages : yX11_passages.cls ≠ "java/lang/invoke/MethodHandle" ∧ yX11_passages.cls ≠ "java/lang/invoke/VarHandle" ∧ (parseMethodDescriptor yX11_passages.desc).map (fun d => d.parameters.length) = some 0 := by decide +kernel
theorem hy_X11_codes : yX11_codes.cls ≠ "java/lang/invoke/MethodHandle" ∧ yX11_codes.cls ≠ "java/lang/invoke/VarHandle" ∧ (parseMethodDescriptor yX11_codes.desc).map (fun d => d.parameters.length) = some 1 := by decide +kernel
theorem hy_X11_readsThing : yX11_readsThing.cls ≠ "java/lang/invoke/MethodHandle" ∧ yX11_readsThing.cls ≠ "java/lang/invoke/VarHandle" ∧ (parseMethodDescriptor yX11_readsThing.desc).map (fun d => d.parameters.length) = some 0 := by decide +kernel
theorem hy_X11_readsRank : yX11_readsRank.cls ≠ "java/lang/invoke/MethodHandle" ∧ yX11_readsRank.cls ≠ "java/lang/invoke/VarHandle" ∧ (parseMethodDescriptor yX11_readsRank.desc).map (fun d => d.parameters.length) = some 1 := by decide +kernel
theorem hy_X11_readsRule : yX11_readsRule.cls ≠ "java/lang/invoke/MethodHandle" ∧ yX11_readsRule.cls ≠ "java/lang/invoke/VarHandle" ∧ (parseMethodDescriptor yX11_readsRule.desc).map (fun d => d.parameters.length) = some 0 := by decide +kernel
theorem hy_X11_laysCode : yX11_laysCode.cls ≠ "java/lang/invoke/MethodHandle" ∧ yX11_laysCode.cls ≠ "java/lang/invoke/VarHandle" ∧ (parseMethodDescriptor yX11_laysCode.desc).map (fun d => d.parameters.length) = some 2 := by decide +kernel
theorem hy_X11_rule : yX11_rule.cls ≠ "java/lang/invoke/MethodHandle" ∧ yX11_rule.cls ≠ "java/lang/invoke/VarHandle" ∧ (parseMethodDescriptor yX11_rule.desc).map (fun d => d.parameters.length) = some 0 := by decide +kernel
theorem hy_X11_worked : yX11_worked.cls ≠ "java/lang/invoke/MethodHandle" ∧ yX11_worked.cls ≠ "java/lang/invoke/VarHandle" ∧ (parseMethodDescriptor yX11_worked.desc).map (fun d => d.parameters.length) = some 3 := by decide +kernel
theorem hy_X11_ruled : yX11_ruled.cls ≠ "java/lang/invoke/MethodHandle" ∧ yX11_ruled.cls ≠ "java/lang/invoke/VarHandle" ∧ (parseMethodDescriptor yX11_ruled.desc).map (fun d => d.parameters.length) = some 0 := by decide +kernel
theorem hy_X11_becomesBy : yX11_becomesBy.cls ≠ "java/lang/invoke/MethodHandle" ∧ yX11_becomesBy.cls ≠ "java/lang/invoke/VarHandle" ∧ (parseMethodDescriptor yX11_becomesBy.desc).map (fun d => d.parameters.length) = some 5 := by decide +kernel
theorem hy_X11_isEcho : yX11_isEcho.cls ≠ "java/lang/invoke/MethodHandle" ∧ yX11_isEcho.cls ≠ "java/lang/invoke/VarHandle" ∧ (parseMethodDescriptor yX11_isEcho.desc).map (fun d => d.parameters.length) = some 3 := by decide +kernel
theorem hy_X11_laysEcho : yX11_laysEcho.cls ≠ "java/lang/invoke/MethodHandle" ∧ yX11_laysEcho.cls ≠ "java/lang/invoke/VarHandle" ∧ (parseMethodDescriptor yX11_laysEcho.desc).map (fun d => d.parameters.length) = some 3 := by decide +kernel
theorem hy_X11_comesOut : yX11_comesOut.cls ≠ "java/lang/invoke/MethodHandle" ∧ yX11_comesOut.cls ≠ "java/lang/invoke/VarHandle" ∧ (parseMethodDescriptor yX11_comesOut.desc).map (fun d => d.parameters.length) = some 3 := by decide +kernel
theorem hy_X11_passage : yX11_passage.cls ≠ "java/lang/invoke/MethodHandle" ∧ yX11_passage.cls ≠ "java/lang/invoke/VarHandle" ∧ (parseMethodDescriptor yX11_passage.desc).map (fun d => d.parameters.length) = some 2 := by decide +kernel
theorem hy_X11_farOf : yX11_farOf.cls ≠ "java/lang/invoke/MethodHandle" ∧ yX11_farOf.cls ≠ "java/lang/invoke/VarHandle" ∧ (parseMethodDescriptor yX11_farOf.desc).map (fun d => d.parameters.length) = some 2 := by decide +kernel
theorem hy_X11_laysFar : yX11_laysFar.cls ≠ "java/lang/invoke/MethodHandle" ∧ yX11_laysFar.cls ≠ "java/lang/invoke/VarHandle" ∧ (parseMethodDescriptor yX11_laysFar.desc).map (fun d => d.parameters.length) = some 1 := by decide +kernel
theorem hy_X11_areJoined : yX11_areJoined.cls ≠ "java/lang/invoke/MethodHandle" ∧ yX11_areJoined.cls ≠ "java/lang/invoke/VarHandle" ∧ (parseMethodDescriptor yX11_areJoined.desc).map (fun d => d.parameters.length) = some 2 := by decide +kernel
theorem hy_X11_joinedTo : yX11_joinedTo.cls ≠ "java/lang/invoke/MethodHandle" ∧ yX11_joinedTo.cls ≠ "java/lang/invoke/VarHandle" ∧ (parseMethodDescriptor yX11_joinedTo.desc).map (fun d => d.parameters.length) = some 1 := by decide +kernel
theorem hy_X11_farthest : yX11_farthest.cls ≠ "java/lang/invoke/MethodHandle" ∧ yX11_farthest.cls ≠ "java/lang/invoke/VarHandle" ∧ (parseMethodDescriptor yX11_farthest.desc).map (fun d => d.parameters.length) = some 1 := by decide +kernel
theorem hy_X11_openOf : yX11_openOf.cls ≠ "java/lang/invoke/MethodHandle" ∧ yX11_openOf.cls ≠ "java/lang/invoke/VarHandle" ∧ (parseMethodDescriptor yX11_openOf.desc).map (fun d => d.parameters.length) = some 1 := by decide +kernel
theorem hy_X11_cavern : yX11_cavern.cls ≠ "java/lang/invoke/MethodHandle" ∧ yX11_cavern.cls ≠ "java/lang/invoke/VarHandle" ∧ (parseMethodDescriptor yX11_cavern.desc).map (fun d => d.parameters.length) = some 2 := by decide +kernel
theorem hy_X11_sheet : yX11_sheet.cls ≠ "java/lang/invoke/MethodHandle" ∧ yX11_sheet.cls ≠ "java/lang/invoke/VarHandle" ∧ (parseMethodDescriptor yX11_sheet.desc).map (fun d => d.parameters.length) = some 4 := by decide +kernel
theorem hy_X11_putsBy : yX11_putsBy.cls ≠ "java/lang/invoke/MethodHandle" ∧ yX11_putsBy.cls ≠ "java/lang/invoke/VarHandle" ∧ (parseMethodDescriptor yX11_putsBy.desc).map (fun d => d.parameters.length) = some 0 := by decide +kernel
theorem hy_X11_adds : yX11_adds.cls ≠ "java/lang/invoke/MethodHandle" ∧ yX11_adds.cls ≠ "java/lang/invoke/VarHandle" ∧ (parseMethodDescriptor yX11_adds.desc).map (fun d => d.parameters.length) = some 1 := by decide +kernel
theorem hy_X11_counted : yX11_counted.cls ≠ "java/lang/invoke/MethodHandle" ∧ yX11_counted.cls ≠ "java/lang/invoke/VarHandle" ∧ (parseMethodDescriptor yX11_counted.desc).map (fun d => d.parameters.length) = some 1 := by decide +kernel
theorem hy_X11_undo : yX11_undo.cls ≠ "java/lang/invoke/MethodHandle" ∧ yX11_undo.cls ≠ "java/lang/invoke/VarHandle" ∧ (parseMethodDescriptor yX11_undo.desc).map (fun d => d.parameters.length) = some 0 := by decide +kernel
theorem hy_X11_readsLetters : yX11_readsLetters.cls ≠ "java/lang/invoke/MethodHandle" ∧ yX11_readsLetters.cls ≠ "java/lang/invoke/VarHandle" ∧ (parseMethodDescriptor yX11_readsLetters.desc).map (fun d => d.parameters.length) = some 0 := by decide +kernel
theorem hy_X11_readsCall : yX11_readsCall.cls ≠ "java/lang/invoke/MethodHandle" ∧ yX11_readsCall.cls ≠ "java/lang/invoke/VarHandle" ∧ (parseMethodDescriptor yX11_readsCall.desc).map (fun d => d.parameters.length) = some 2 := by decide +kernel
theorem hy_X11_wears : yX11_wears.cls ≠ "java/lang/invoke/MethodHandle" ∧ yX11_wears.cls ≠ "java/lang/invoke/VarHandle" ∧ (parseMethodDescriptor yX11_wears.desc).map (fun d => d.parameters.length) = some 1 := by decide +kernel
theorem hy_X11_calls : yX11_calls.cls ≠ "java/lang/invoke/MethodHandle" ∧ yX11_calls.cls ≠ "java/lang/invoke/VarHandle" ∧ (parseMethodDescriptor yX11_calls.desc).map (fun d => d.parameters.length) = some 2 := by decide +kernel
theorem hy_X11_hoursGo : yX11_hoursGo.cls ≠ "java/lang/invoke/MethodHandle" ∧ yX11_hoursGo.cls ≠ "java/lang/invoke/VarHandle" ∧ (parseMethodDescriptor yX11_hoursGo.desc).map (fun d => d.parameters.length) = some 2 := by decide +kernel
theorem hy_X11_fallsOne : yX11_fallsOne.cls ≠ "java/lang/invoke/MethodHandle" ∧ yX11_fallsOne.cls ≠ "java/lang/invoke/VarHandle" ∧ (parseMethodDescriptor yX11_fallsOne.desc).map (fun d => d.parameters.length) = some 2 := by decide +kernel
theorem hy_X11_digsOne : yX11_digsOne.cls ≠ "java/lang/invoke/MethodHandle" ∧ yX11_digsOne.cls ≠ "java/lang/invoke/VarHandle" ∧ (parseMethodDescriptor yX11_digsOne.desc).map (fun d => d.parameters.length) = some 3 := by decide +kernel
theorem hy_X11_hours : yX11_hours.cls ≠ "java/lang/invoke/MethodHandle" ∧ yX11_hours.cls ≠ "java/lang/invoke/VarHandle" ∧ (parseMethodDescriptor yX11_hours.desc).map (fun d => d.parameters.length) = some 1 := by decide +kernel
theorem hy_X11_falls : yX11_falls.cls ≠ "java/lang/invoke/MethodHandle" ∧ yX11_falls.cls ≠ "java/lang/invoke/VarHandle" ∧ (parseMethodDescriptor yX11_falls.desc).map (fun d => d.parameters.length) = some 1 := by decide +kernel
theorem hy_X11_digs : yX11_digs.cls ≠ "java/lang/invoke/MethodHandle" ∧ yX11_digs.cls ≠ "java/lang/invoke/VarHandle" ∧ (parseMethodDescriptor yX11_digs.desc).map (fun d => d.parameters.length) = some 3 := by decide +kernel
theorem hy_X11_readsAct : yX11_readsAct.cls ≠ "java/lang/invoke/MethodHandle" ∧ yX11_readsAct.cls ≠ "java/lang/invoke/VarHandle" ∧ (parseMethodDescriptor yX11_readsAct.desc).map (fun d => d.parameters.length) = some 0 := by decide +kernel
theorem hy_X11_does : yX11_does.cls ≠ "java/lang/invoke/MethodHandle" ∧ yX11_does.cls ≠ "java/lang/invoke/VarHandle" ∧ (parseMethodDescriptor yX11_does.desc).map (fun d => d.parameters.length) = some 1 := by decide +kernel
theorem hy_X11_season : yX11_season.cls ≠ "java/lang/invoke/MethodHandle" ∧ yX11_season.cls ≠ "java/lang/invoke/VarHandle" ∧ (parseMethodDescriptor yX11_season.desc).map (fun d => d.parameters.length) = some 0 := by decide +kernel
theorem hy_X11_copies : yX11_copies.cls ≠ "java/lang/invoke/MethodHandle" ∧ yX11_copies.cls ≠ "java/lang/invoke/VarHandle" ∧ (parseMethodDescriptor yX11_copies.desc).map (fun d => d.parameters.length) = some 0 := by decide +kernel
theorem hy_X11_route : yX11_route.cls ≠ "java/lang/invoke/MethodHandle" ∧ yX11_route.cls ≠ "java/lang/invoke/VarHandle" ∧ (parseMethodDescriptor yX11_route.desc).map (fun d => d.parameters.length) = some 2 := by decide +kernel
theorem hy_X11_hears : yX11_hears.cls ≠ "java/lang/invoke/MethodHandle" ∧ yX11_hears.cls ≠ "java/lang/invoke/VarHandle" ∧ (parseMethodDescriptor yX11_hears.desc).map (fun d => d.parameters.length) = some 2 := by decide +kernel
theorem hy_X11_asks : yX11_asks.cls ≠ "java/lang/invoke/MethodHandle" ∧ yX11_asks.cls ≠ "java/lang/invoke/VarHandle" ∧ (parseMethodDescriptor yX11_asks.desc).map (fun d => d.parameters.length) = some 2 := by decide +kernel
theorem hy_X11_becomes : yX11_becomes.cls ≠ "java/lang/invoke/MethodHandle" ∧ yX11_becomes.cls ≠ "java/lang/invoke/VarHandle" ∧ (parseMethodDescriptor yX11_becomes.desc).map (fun d => d.parameters.length) = some 0 := by decide +kernel
theorem hy_X11_kept : yX11_kept.cls ≠ "java/lang/invoke/MethodHandle" ∧ yX11_kept.cls ≠ "java/lang/invoke/VarHandle" ∧ (parseMethodDescriptor yX11_kept.desc).map (fun d => d.parameters.length) = some 1 := by decide +kernel
theorem hy_X11_keeps : yX11_keeps.cls ≠ "java/lang/invoke/MethodHandle" ∧ yX11_keeps.cls ≠ "java/lang/invoke/VarHandle" ∧ (parseMethodDescriptor yX11_keeps.desc).map (fun d => d.parameters.length) = some 2 := by decide +kernel
theorem hy_X11_apart : yX11_apart.cls ≠ "java/lang/invoke/MethodHandle" ∧ yX11_apart.cls ≠ "java/lang/invoke/VarHandle" ∧ (parseMethodDescriptor yX11_apart.desc).map (fun d => d.parameters.length) = some 3 := by decide +kernel
theorem hy_X11_longest : yX11_longest.cls ≠ "java/lang/invoke/MethodHandle" ∧ yX11_longest.cls ≠ "java/lang/invoke/VarHandle" ∧ (parseMethodDescriptor yX11_longest.desc).map (fun d => d.parameters.length) = some 1 := by decide +kernel
theorem hy_X11_rounds : yX11_rounds.cls ≠ "java/lang/invoke/MethodHandle" ∧ yX11_rounds.cls ≠ "java/lang/invoke/VarHandle" ∧ (parseMethodDescriptor yX11_rounds.desc).map (fun d => d.parameters.length) = some 0 := by decide +kernel
theorem hy_X11_way : yX11_way.cls ≠ "java/lang/invoke/MethodHandle" ∧ yX11_way.cls ≠ "java/lang/invoke/VarHandle" ∧ (parseMethodDescriptor yX11_way.desc).map (fun d => d.parameters.length) = some 2 := by decide +kernel
theorem hy_X11_meets : yX11_meets.cls ≠ "java/lang/invoke/MethodHandle" ∧ yX11_meets.cls ≠ "java/lang/invoke/VarHandle" ∧ (parseMethodDescriptor yX11_meets.desc).map (fun d => d.parameters.length) = some 2 := by decide +kernel
theorem hy_X11_heart : yX11_heart.cls ≠ "java/lang/invoke/MethodHandle" ∧ yX11_heart.cls ≠ "java/lang/invoke/VarHandle" ∧ (parseMethodDescriptor yX11_heart.desc).map (fun d => d.parameters.length) = some 0 := by decide +kernel
theorem hy_X11_ropes : yX11_ropes.cls ≠ "java/lang/invoke/MethodHandle" ∧ yX11_ropes.cls ≠ "java/lang/invoke/VarHandle" ∧ (parseMethodDescriptor yX11_ropes.desc).map (fun d => d.parameters.length) = some 0 := by decide +kernel
theorem hy_X11_withPassages : yX11_withPassages.cls ≠ "java/lang/invoke/MethodHandle" ∧ yX11_withPassages.cls ≠ "java/lang/invoke/VarHandle" ∧ (parseMethodDescriptor yX11_withPassages.desc).map (fun d => d.parameters.length) = some 0 := by decide +kernel
theorem hy_X11_needed : yX11_needed.cls ≠ "java/lang/invoke/MethodHandle" ∧ yX11_needed.cls ≠ "java/lang/invoke/VarHandle" ∧ (parseMethodDescriptor yX11_needed.desc).map (fun d => d.parameters.length) = some 0 := by decide +kernel
theorem hy_X11_place : yX11_place.cls ≠ "java/lang/invoke/MethodHandle" ∧ yX11_place.cls ≠ "java/lang/invoke/VarHandle" ∧ (parseMethodDescriptor yX11_place.desc).map (fun d => d.parameters.length) = some 2 := by decide +kernel
theorem hy_X11_tour : yX11_tour.cls ≠ "java/lang/invoke/MethodHandle" ∧ yX11_tour.cls ≠ "java/lang/invoke/VarHandle" ∧ (parseMethodDescriptor yX11_tour.desc).map (fun d => d.parameters.length) = some 2 := by decide +kernel
theorem hy_X11_halves : yX11_halves.cls ≠ "java/lang/invoke/MethodHandle" ∧ yX11_halves.cls ≠ "java/lang/invoke/VarHandle" ∧ (parseMethodDescriptor yX11_halves.desc).map (fun d => d.parameters.length) = some 0 := by decide +kernel
theorem hy_X11_isFewer : yX11_isFewer.cls ≠ "java/lang/invoke/MethodHandle" ∧ yX11_isFewer.cls ≠ "java/lang/invoke/VarHandle" ∧ (parseMethodDescriptor yX11_isFewer.desc).map (fun d => d.parameters.length) = some 2 := by decide +kernel
theorem hy_X11_guides : yX11_guides.cls ≠ "java/lang/invoke/MethodHandle" ∧ yX11_guides.cls ≠ "java/lang/invoke/VarHandle" ∧ (parseMethodDescriptor yX11_guides.desc).map (fun d => d.parameters.length) = some 0 := by decide +kernel
theorem hy_X11_most : yX11_most.cls ≠ "java/lang/invoke/MethodHandle" ∧ yX11_most.cls ≠ "java/lang/invoke/VarHandle" ∧ (parseMethodDescriptor yX11_most.desc).map (fun d => d.parameters.length) = some 0 := by decide +kernel
theorem hy_X11_told : yX11_told.cls ≠ "java/lang/invoke/MethodHandle" ∧ yX11_told.cls ≠ "java/lang/invoke/VarHandle" ∧ (parseMethodDescriptor yX11_told.desc).map (fun d => d.parameters.length) = some 2 := by decide +kernel
theorem hy_X11_forget : yX11_forget.cls ≠ "java/lang/invoke/MethodHandle" ∧ yX11_forget.cls ≠ "java/lang/invoke/VarHandle" ∧ (parseMethodDescriptor yX11_forget.desc).map (fun d => d.parameters.length) = some 0 := by decide +kernel
theorem hy_X11_isSo : yX11_isSo.cls ≠ "java/lang/invoke/MethodHandle" ∧ yX11_isSo.cls ≠ "java/lang/invoke/VarHandle" ∧ (parseMethodDescriptor yX11_isSo.desc).map (fun d => d.parameters.length) = some 3 := by decide +kernel
theorem hy_X11_fitting : yX11_fitting.cls ≠ "java/lang/invoke/MethodHandle" ∧ yX11_fitting.cls ≠ "java/lang/invoke/VarHandle" ∧ (parseMethodDescriptor yX11_fitting.desc).map (fun d => d.parameters.length) = some 0 := by decide +kernel
theorem hy_X11_fits : yX11_fits.cls ≠ "java/lang/invoke/MethodHandle" ∧ yX11_fits.cls ≠ "java/lang/invoke/VarHandle" ∧ (parseMethodDescriptor yX11_fits.desc).map (fun d => d.parameters.length) = some 0 := by decide +kernel
theorem hy_X11_next : yX11_next.cls ≠ "java/lang/invoke/MethodHandle" ∧ yX11_next.cls ≠ "java/lang/invoke/VarHandle" ∧ (parseMethodDescriptor yX11_next.desc).map (fun d => d.parameters.length) = some 0 := by decide +kernel
theorem hy_X11_heard : yX11_heard.cls ≠ "java/lang/invoke/MethodHandle" ∧ yX11_heard.cls ≠ "java/lang/invoke/VarHandle" ∧ (parseMethodDescriptor yX11_heard.desc).map (fun d => d.parameters.length) = some 3 := by decide +kernel
theorem hy_X11_denied : yX11_denied.cls ≠ "java/lang/invoke/MethodHandle" ∧ yX11_denied.cls ≠ "java/lang/invoke/VarHandle" ∧ (parseMethodDescriptor yX11_denied.desc).map (fun d => d.parameters.length) = some 0 := by decide +kernel
theorem hy_X11_lawOf : yX11_lawOf.cls ≠ "java/lang/invoke/MethodHandle" ∧ yX11_lawOf.cls ≠ "java/lang/invoke/VarHandle" ∧ (parseMethodDescriptor yX11_lawOf.desc).map (fun d => d.parameters.length) = some 3 := by decide +kernel
theorem hy_X11_isLaw : yX11_isLaw.cls ≠ "java/lang/invoke/MethodHandle" ∧ yX11_isLaw.cls ≠ "java/lang/invoke/VarHandle" ∧ (parseMethodDescriptor yX11_isLaw.desc).map (fun d => d.parameters.length) = some 1 := by decide +kernel
theorem hy_X11_laws : yX11_laws.cls ≠ "java/lang/invoke/MethodHandle" ∧ yX11_laws.cls ≠ "java/lang/invoke/VarHandle" ∧ (parseMethodDescriptor yX11_laws.desc).map (fun d => d.parameters.length) = some 0 := by decide +kernel
theorem hy_X11_listens : yX11_listens.cls ≠ "java/lang/invoke/MethodHandle" ∧ yX11_listens.cls ≠ "java/lang/invoke/VarHandle" ∧ (parseMethodDescriptor yX11_listens.desc).map (fun d => d.parameters.length) = some 0 := by decide +kernel
theorem hy_X11_hints : yX11_hints.cls ≠ "java/lang/invoke/MethodHandle" ∧ yX11_hints.cls ≠ "java/lang/invoke/VarHandle" ∧ (parseMethodDescriptor yX11_hints.desc).map (fun d => d.parameters.length) = some 5 := by decide +kernel
theorem hy_X11_game : yX11_game.cls ≠ "java/lang/invoke/MethodHandle" ∧ yX11_game.cls ≠ "java/lang/invoke/VarHandle" ∧ (parseMethodDescriptor yX11_game.desc).map (fun d => d.parameters.length) = some 2 := by decide +kernel
theorem hy_X11_keptByAll : yX11_keptByAll.cls ≠ "java/lang/invoke/MethodHandle" ∧ yX11_keptByAll.cls ≠ "java/lang/invoke/VarHandle" ∧ (parseMethodDescriptor yX11_keptByAll.desc).map (fun d => d.parameters.length) = some 0 := by decide +kernel
theorem hy_X11_law : yX11_law.cls ≠ "java/lang/invoke/MethodHandle" ∧ yX11_law.cls ≠ "java/lang/invoke/VarHandle" ∧ (parseMethodDescriptor yX11_law.desc).map (fun d => d.parameters.length) = some 0 := by decide +kernel
theorem hy_X11_gets : yX11_gets.cls ≠ "java/lang/invoke/MethodHandle" ∧ yX11_gets.cls ≠ "java/lang/invoke/VarHandle" ∧ (parseMethodDescriptor yX11_gets.desc).map (fun d => d.parameters.length) = some 3 := by decide +kernel
theorem hy_X11_isRest : yX11_isRest.cls ≠ "java/lang/invoke/MethodHandle" ∧ yX11_isRest.cls ≠ "java/lang/invoke/VarHandle" ∧ (parseMethodDescriptor yX11_isRest.desc).map (fun d => d.parameters.length) = some 3 := by decide +kernel
theorem hy_X11_rests : yX11_rests.cls ≠ "java/lang/invoke/MethodHandle" ∧ yX11_rests.cls ≠ "java/lang/invoke/VarHandle" ∧ (parseMethodDescriptor yX11_rests.desc).map (fun d => d.parameters.length) = some 1 := by decide +kernel
theorem hy_X11_draws : yX11_draws.cls ≠ "java/lang/invoke/MethodHandle" ∧ yX11_draws.cls ≠ "java/lang/invoke/VarHandle" ∧ (parseMethodDescriptor yX11_draws.desc).map (fun d => d.parameters.length) = some 1 := by decide +kernel
theorem hy_X11_years : yX11_years.cls ≠ "java/lang/invoke/MethodHandle" ∧ yX11_years.cls ≠ "java/lang/invoke/VarHandle" ∧ (parseMethodDescriptor yX11_years.desc).map (fun d => d.parameters.length) = some 2 := by decide +kernel
theorem hy_X11_keep : yX11_keep.cls ≠ "java/lang/invoke/MethodHandle" ∧ yX11_keep.cls ≠ "java/lang/invoke/VarHandle" ∧ (parseMethodDescriptor yX11_keep.desc).map (fun d => d.parameters.length) = some 1 := by decide +kernel
theorem hy_X11_again : yX11_again.cls ≠ "java/lang/invoke/MethodHandle" ∧ yX11_again.cls ≠ "java/lang/invoke/VarHandle" ∧ (parseMethodDescriptor yX11_again.desc).map (fun d => d.parameters.length) = some 1 := by decide +kernel
theorem hy_X11_count : yX11_count.cls ≠ "java/lang/invoke/MethodHandle" ∧ yX11_count.cls ≠ "java/lang/invoke/VarHandle" ∧ (parseMethodDescriptor yX11_count.desc).map (fun d => d.parameters.length) = some 1 := by decide +kernel
theorem hy_X11_row : yX11_row.cls ≠ "java/lang/invoke/MethodHandle" ∧ yX11_row.cls ≠ "java/lang/invoke/VarHandle" ∧ (parseMethodDescriptor yX11_row.desc).map (fun d => d.parameters.length) = some 1 := by decide +kernel
theorem hy_J11_isValidCodePoint_9a6ad : yJ11_isValidCodePoint_9a6ad.cls ≠ "java/lang/invoke/MethodHandle" ∧ yJ11_isValidCodePoint_9a6ad.cls ≠ "java/lang/invoke/VarHandle" ∧ (parseMethodDescriptor yJ11_isValidCodePoint_9a6ad.desc).map (fun d => d.parameters.length) = some 1 := by decide +kernel
theorem hy_J11_highSurrogate_5068e : yJ11_highSurrogate_5068e.cls ≠ "java/lang/invoke/MethodHandle" ∧ yJ11_highSurrogate_5068e.cls ≠ "java/lang/invoke/VarHandle" ∧ (parseMethodDescriptor yJ11_highSurrogate_5068e.desc).map (fun d => d.parameters.length) = some 1 := by decide +kernel
theorem hy_J11_lowSurrogate_5068e : yJ11_lowSurrogate_5068e.cls ≠ "java/lang/invoke/MethodHandle" ∧ yJ11_lowSurrogate_5068e.cls ≠ "java/lang/invoke/VarHandle" ∧ (parseMethodDescriptor yJ11_lowSurrogate_5068e.desc).map (fun d => d.parameters.length) = some 1 := by decide +kernel
theorem hy_J6_numberOfTrailingZeros_0f7a4 : yJ6_numberOfTrailingZeros_0f7a4.cls ≠ "java/lang/invoke/MethodHandle" ∧ yJ6_numberOfTrailingZeros_0f7a4.cls ≠ "java/lang/invoke/VarHandle" ∧ (parseMethodDescriptor yJ6_numberOfTrailingZeros_0f7a4.desc).map (fun d => d.parameters.length) = some 1 := by decide +kernel
theorem hy_J6_bitCount_0f7a4 : yJ6_bitCount_0f7a4.cls ≠ "java/lang/invoke/MethodHandle" ∧ yJ6_bitCount_0f7a4.cls ≠ "java/lang/invoke/VarHandle" ∧ (parseMethodDescriptor yJ6_bitCount_0f7a4.desc).map (fun d => d.parameters.length) = some 1 := by decide +kernel
theorem hy_J9_floorMod_7cf53 : yJ9_floorMod_7cf53.cls ≠ "java/lang/invoke/MethodHandle" ∧ yJ9_floorMod_7cf53.cls ≠ "java/lang/invoke/VarHandle" ∧ (parseMethodDescriptor yJ9_floorMod_7cf53.desc).map (fun d => d.parameters.length) = some 2 := by decide +kernel
theorem hy_J0_length_8abf5 : yJ0_length_8abf5.cls ≠ "java/lang/invoke/MethodHandle" ∧ yJ0_length_8abf5.cls ≠ "java/lang/invoke/VarHandle" ∧ (parseMethodDescriptor yJ0_length_8abf5.desc).map (fun d => d.parameters.length) = some 0 := by decide +kernel
theorem hy_J0_charAt_5068e : yJ0_charAt_5068e.cls ≠ "java/lang/invoke/MethodHandle" ∧ yJ0_charAt_5068e.cls ≠ "java/lang/invoke/VarHandle" ∧ (parseMethodDescriptor yJ0_charAt_5068e.desc).map (fun d => d.parameters.length) = some 1 := by decide +kernel
theorem hy_J0_indexOf_0f7a4 : yJ0_indexOf_0f7a4.cls ≠ "java/lang/invoke/MethodHandle" ∧ yJ0_indexOf_0f7a4.cls ≠ "java/lang/invoke/VarHandle" ∧ (parseMethodDescriptor yJ0_indexOf_0f7a4.desc).map (fun d => d.parameters.length) = some 1 := by decide +kernel
theorem hy_J0_indexOf_7cf53 : yJ0_indexOf_7cf53.cls ≠ "java/lang/invoke/MethodHandle" ∧ yJ0_indexOf_7cf53.cls ≠ "java/lang/invoke/VarHandle" ∧ (parseMethodDescriptor yJ0_indexOf_7cf53.desc).map (fun d => d.parameters.length) = some 2 := by decide +kernel
theorem hy_J0_coder_7d493 : yJ0_coder_7d493.cls ≠ "java/lang/invoke/MethodHandle" ∧ yJ0_coder_7d493.cls ≠ "java/lang/invoke/VarHandle" ∧ (parseMethodDescriptor yJ0_coder_7d493.desc).map (fun d => d.parameters.length) = some 0 := by decide +kernel
theorem hy_J0_isLatin1_aae02 : yJ0_isLatin1_aae02.cls ≠ "java/lang/invoke/MethodHandle" ∧ yJ0_isLatin1_aae02.cls ≠ "java/lang/invoke/VarHandle" ∧ (parseMethodDescriptor yJ0_isLatin1_aae02.desc).map (fun d => d.parameters.length) = some 0 := by decide +kernel
theorem hy_J0_checkIndex_df160 : yJ0_checkIndex_df160.cls ≠ "java/lang/invoke/MethodHandle" ∧ yJ0_checkIndex_df160.cls ≠ "java/lang/invoke/VarHandle" ∧ (parseMethodDescriptor yJ0_checkIndex_df160.desc).map (fun d => d.parameters.length) = some 2 := by decide +kernel
theorem hy_J0_checkBoundsBeginEnd_23922 : yJ0_checkBoundsBeginEnd_23922.cls ≠ "java/lang/invoke/MethodHandle" ∧ yJ0_checkBoundsBeginEnd_23922.cls ≠ "java/lang/invoke/VarHandle" ∧ (parseMethodDescriptor yJ0_checkBoundsBeginEnd_23922.desc).map (fun d => d.parameters.length) = some 3 := by decide +kernel
theorem hy_J1_charAt_3b067 : yJ1_charAt_3b067.cls ≠ "java/lang/invoke/MethodHandle" ∧ yJ1_charAt_3b067.cls ≠ "java/lang/invoke/VarHandle" ∧ (parseMethodDescriptor yJ1_charAt_3b067.desc).map (fun d => d.parameters.length) = some 2 := by decide +kernel
theorem hy_J1_canEncode_9a6ad : yJ1_canEncode_9a6ad.cls ≠ "java/lang/invoke/MethodHandle" ∧ yJ1_canEncode_9a6ad.cls ≠ "java/lang/invoke/VarHandle" ∧ (parseMethodDescriptor yJ1_canEncode_9a6ad.desc).map (fun d => d.parameters.length) = some 1 := by decide +kernel
theorem hy_J1_indexOf_4cfef : yJ1_indexOf_4cfef.cls ≠ "java/lang/invoke/MethodHandle" ∧ yJ1_indexOf_4cfef.cls ≠ "java/lang/invoke/VarHandle" ∧ (parseMethodDescriptor yJ1_indexOf_4cfef.desc).map (fun d => d.parameters.length) = some 4 := by decide +kernel
theorem hy_J1_indexOfChar_4cfef : yJ1_indexOfChar_4cfef.cls ≠ "java/lang/invoke/MethodHandle" ∧ yJ1_indexOfChar_4cfef.cls ≠ "java/lang/invoke/VarHandle" ∧ (parseMethodDescriptor yJ1_indexOfChar_4cfef.desc).map (fun d => d.parameters.length) = some 4 := by decide +kernel
theorem hy_J2_getChar_3b067 : yJ2_getChar_3b067.cls ≠ "java/lang/invoke/MethodHandle" ∧ yJ2_getChar_3b067.cls ≠ "java/lang/invoke/VarHandle" ∧ (parseMethodDescriptor yJ2_getChar_3b067.desc).map (fun d => d.parameters.length) = some 2 := by decide +kernel
theorem hy_J2_length_9d52b : yJ2_length_9d52b.cls ≠ "java/lang/invoke/MethodHandle" ∧ yJ2_length_9d52b.cls ≠ "java/lang/invoke/VarHandle" ∧ (parseMethodDescriptor yJ2_length_9d52b.desc).map (fun d => d.parameters.length) = some 1 := by decide +kernel
theorem hy_J2_indexOf_4cfef : yJ2_indexOf_4cfef.cls ≠ "java/lang/invoke/MethodHandle" ∧ yJ2_indexOf_4cfef.cls ≠ "java/lang/invoke/VarHandle" ∧ (parseMethodDescriptor yJ2_indexOf_4cfef.desc).map (fun d => d.parameters.length) = some 4 := by decide +kernel
theorem hy_J2_indexOfChar_4cfef : yJ2_indexOfChar_4cfef.cls ≠ "java/lang/invoke/MethodHandle" ∧ yJ2_indexOfChar_4cfef.cls ≠ "java/lang/invoke/VarHandle" ∧ (parseMethodDescriptor yJ2_indexOfChar_4cfef.desc).map (fun d => d.parameters.length) = some 4 := by decide +kernel
theorem hy_J2_indexOfCharUnsafe_4cfef : yJ2_indexOfCharUnsafe_4cfef.cls ≠ "java/lang/invoke/MethodHandle" ∧ yJ2_indexOfCharUnsafe_4cfef.cls ≠ "java/lang/invoke/VarHandle" ∧ (parseMethodDescriptor yJ2_indexOfCharUnsafe_4cfef.desc).map (fun d => d.parameters.length) = some 4 := by decide +kernel
theorem hy_J2_indexOfSupplementary_4cfef : yJ2_indexOfSupplementary_4cfef.cls ≠ "java/lang/invoke/MethodHandle" ∧ yJ2_indexOfSupplementary_4cfef.cls ≠ "java/lang/invoke/VarHandle" ∧ (parseMethodDescriptor yJ2_indexOfSupplementary_4cfef.desc).map (fun d => d.parameters.length) = some 4 := by decide +kernel
theorem hy_J2_charAt_3b067 : yJ2_charAt_3b067.cls ≠ "java/lang/invoke/MethodHandle" ∧ yJ2_charAt_3b067.cls ≠ "java/lang/invoke/VarHandle" ∧ (parseMethodDescriptor yJ2_charAt_3b067.desc).map (fun d => d.parameters.length) = some 2 := by decide +kernel
theorem hy_J2_checkIndex_2214a : yJ2_checkIndex_2214a.cls ≠ "java/lang/invoke/MethodHandle" ∧ yJ2_checkIndex_2214a.cls ≠ "java/lang/invoke/VarHandle" ∧ (parseMethodDescriptor yJ2_checkIndex_2214a.desc).map (fun d => d.parameters.length) = some 2 := by decide +kernel
theorem hy_J2_checkBoundsBeginEnd_d044e : yJ2_checkBoundsBeginEnd_d044e.cls ≠ "java/lang/invoke/MethodHandle" ∧ yJ2_checkBoundsBeginEnd_d044e.cls ≠ "java/lang/invoke/VarHandle" ∧ (parseMethodDescriptor yJ2_checkBoundsBeginEnd_d044e.desc).map (fun d => d.parameters.length) = some 3 := by decide +kernel
theorem hy_J3_checkIndex_8e157 : yJ3_checkIndex_8e157.cls ≠ "java/lang/invoke/MethodHandle" ∧ yJ3_checkIndex_8e157.cls ≠ "java/lang/invoke/VarHandle" ∧ (parseMethodDescriptor yJ3_checkIndex_8e157.desc).map (fun d => d.parameters.length) = some 3 := by decide +kernel
theorem hy_J3_checkFromToIndex_8c36e : yJ3_checkFromToIndex_8c36e.cls ≠ "java/lang/invoke/MethodHandle" ∧ yJ3_checkFromToIndex_8c36e.cls ≠ "java/lang/invoke/VarHandle" ∧ (parseMethodDescriptor yJ3_checkFromToIndex_8c36e.desc).map (fun d => d.parameters.length) = some 4 := by decide +kernel
section KR
variable {K : CT} {cc : ByteArray} {own : String} {nL d pc : Nat} {rt : Option FieldType} {L L' : List (Nat × Value)} {st st0 : List Value} {S : St}
theorem k_iald (hK : KO K cc own nL d rt) {o n k : Nat} {i : Int32} (hd : decode cc pc = .ok (.iaload, 1)) (ho : zB 12 n o) (hin : inb i n) (hk : i.toNatClampNeg = k) (kk : J K (pc + 1) L (.int (gI S o k) :: st) S) : J K pc L (.int i :: .ref o :: st) S := by subst hk; exact j_iald hK hd ho hin kk
theorem k_cald (hK : KO K cc own nL d rt) {o n k : Nat} {i : Int32} (hd : decode cc pc = .ok (.caload, 1)) (ho : zB 13 n o) (hin : inb i n) (hk : i.toNatClampNeg = k) (kk : J K (pc + 1) L (.int (gI S o k) :: st) S) : J K pc L (.int i :: .ref o :: st) S := by subst hk; exact j_cald hK hd ho hin kk
theorem k_zald (hK : KO K cc own nL d rt) {o n k : Nat} {i : Int32} (hd : decode cc pc = .ok (.baload, 1)) (ho : zB 15 n o) (hin : inb i n) (hk : i.toNatClampNeg = k) (kk : J K (pc + 1) L (.int (gI S o k) :: st) S) : J K pc L (.int i :: .ref o :: st) S := by subst hk; exact j_zald hK hd ho hin kk
theorem k_lald (hK : KO K cc own nL d rt) {o n k : Nat} {i : Int32} (hd : decode cc pc = .ok (.laload, 1)) (ho : zB 14 n o) (hin : inb i n) (hk : i.toNatClampNeg = k) (kk : J K (pc + 1) L (.long (gL S o k) :: st) S) : J K pc L (.int i :: .ref o :: st) S := by subst hk; exact j_lald hK hd ho hin kk
theorem k_iast (hK : KO K cc own nL d rt) {o n k : Nat} {i x : Int32} (hd : decode cc pc = .ok (.iastore, 1)) (ho : zB 12 n o) (hin : inb i n) (hk : i.toNatClampNeg = k) (kk : J K (pc + 1) L st (sI S o k x)) : J K pc L (.int x :: .int i :: .ref o :: st) S := by subst hk; exact j_iast hK hd ho hin kk
theorem k_cast (hK : KO K cc own nL d rt) {o n k : Nat} {i x : Int32} (hd : decode cc pc = .ok (.castore, 1)) (ho : zB 13 n o) (hin : inb i n) (hk : i.toNatClampNeg = k) (kk : J K (pc + 1) L st (sI S o k (vp_nar .char x))) : J K pc L (.int x :: .int i :: .ref o :: st) S := by subst hk; exact j_cast hK hd ho hin kk
theorem k_zast (hK : KO K cc own nL d rt) {o n k : Nat} {i x : Int32} (hd : decode cc pc = .ok (.bastore, 1)) (ho : zB 15 n o) (hin : inb i n) (hk : i.toNatClampNeg = k) (kk : J K (pc + 1) L st (sI S o k (vp_nar .boolean x))) : J K pc L (.int x :: .int i :: .ref o :: st) S := by subst hk; exact j_zast hK hd ho hin kk
theorem k_last (hK : KO K cc own nL d rt) {o n k : Nat} {i : Int32} {x : Int64} (hd : decode cc pc = .ok (.lastore, 1)) (ho : zB 14 n o) (hin : inb i n) (hk : i.toNatClampNeg = k) (kk : J K (pc + 1) L st (sL S o k x)) : J K pc L (.long x :: .int i :: .ref o :: st) S := by subst hk; exact j_last hK hd ho hin kk
theorem k_copyI (hK : KO K cc own nL d rt) {index o1 o2 n1 n2 a b c : Nat} {sp dp n : Int32} (w1 : Cond.methodLink own index arraycopyName ∈ zT) (hd : decode cc pc = .ok (.invokestatic index, 3)) (h1 : zB 12 n1 o1) (h2 : zB 12 n2 o2) (c1 : ¬ sp < 0) (c2 : ¬ dp < 0) (c3 : ¬ n < 0) (c4 : sp.toNatClampNeg + n.toNatClampNeg ≤ n1) (c5 : dp.toNatClampNeg + n.toNatClampNeg ≤ n2) (ea : sp.toNatClampNeg = a) (eb : dp.toNatClampNeg = b) (ec : n.toNatClampNeg = c) (hdd : 0 < d) (hw : (st.map fun v => v.category).sum ≤ 8) (kk : J K (pc + 3) L st (sC S o1 a o2 b c)) : J K pc L (.int n :: .int dp :: .ref o2 :: .int sp :: .ref o1 :: st) S := by subst ea; subst eb; subst ec; exact j_copyI hK w1 hd h1 h2 c1 c2 c3 c4 c5 hdd hw kk
theorem k_copyL (hK : KO K cc own nL d rt) {index o1 o2 n1 n2 a b c : Nat} {sp dp n : Int32} (w1 : Cond.methodLink own index arraycopyName ∈ zT) (hd : decode cc pc = .ok (.invokestatic index, 3)) (h1 : zB 14 n1 o1) (h2 : zB 14 n2 o2) (c1 : ¬ sp < 0) (c2 : ¬ dp < 0) (c3 : ¬ n < 0) (c4 : sp.toNatClampNeg + n.toNatClampNeg ≤ n1) (c5 : dp.toNatClampNeg + n.toNatClampNeg ≤ n2) (ea : sp.toNatClampNeg = a) (eb : dp.toNatClampNeg = b) (ec : n.toNatClampNeg = c) (hdd : 0 < d) (hw : (st.map fun v => v.category).sum ≤ 8) (kk : J K (pc + 3) L st (sM S o1 a o2 b c)) : J K pc L (.int n :: .int dp :: .ref o2 :: .int sp :: .ref o1 :: st) S := by subst ea; subst eb; subst ec; exact j_copyL hK w1 hd h1 h2 c1 c2 c3 c4 c5 hdd hw kk
theorem k_callVi (hK : KO K cc own nL d rt) {index : Nat} {y : MethodName} {code' : ByteArray} {nL' d' ci o : Nat} {rt' : Option FieldType} {As : List Value} {r : Int32} {Sa : St} {T : u_T} {N : Nat}
    (hM : zM y code' nL' d' rt' (.ref o :: As) S (some (.int r)) Sa) (hd : decode cc pc = .ok (.invokevirtual index, 3)) (hcl : zCL ci y.cls T N) (ho : zO ci o)
    (w1 : Cond.methodLink own index y ∈ zT) (w2 : Cond.instanceMethod y ∈ zT) (w3 : Cond.selects y.cls y y ∈ zT) (w4 : Cond.initialized y.cls ∈ zT) (w5 : Cond.code y code' nL' rt' ∈ zT)
    (hy : y.cls ≠ "java/lang/invoke/MethodHandle" ∧ y.cls ≠ "java/lang/invoke/VarHandle" ∧ (parseMethodDescriptor y.desc).map (fun d => d.parameters.length) = some As.length)
    (hdd : d' < d ∧ nL' ≤ 60) (hst : st0 = As.reverse ++ .ref o :: st) (hw : (st.map fun v => v.category).sum ≤ 8) (kk : J K (pc + 3) L (.int r :: st) Sa) : J K pc L st0 S := j_callV hK hM hd hcl ho w1 w2 w3 w4 w5 hy hdd hst hw kk
theorem k_callTi (hK : KO K cc own nL d rt) {index : Nat} {y : MethodName} {code' : ByteArray} {nL' d' i : Nat} {rt' : Option FieldType} {As : List Value} {r : Int32} {Sa : St}
    (hM : zM y code' nL' d' rt' (.ref (1000 + i) :: As) S (some (.int r)) Sa) (hd : decode cc pc = .ok (.invokevirtual index, 3)) (hi : i < 5) (hyc : y.cls = "java/lang/String")
    (w1 : Cond.methodLink own index y ∈ zT) (w2 : Cond.instanceMethod y ∈ zT) (w3 : Cond.selects y.cls y y ∈ zT) (w4 : Cond.initialized y.cls ∈ zT) (w5 : Cond.code y code' nL' rt' ∈ zT)
    (hy : y.cls ≠ "java/lang/invoke/MethodHandle" ∧ y.cls ≠ "java/lang/invoke/VarHandle" ∧ (parseMethodDescriptor y.desc).map (fun d => d.parameters.length) = some As.length)
    (hdd : d' < d ∧ nL' ≤ 60) (hst : st0 = As.reverse ++ .ref (1000 + i) :: st) (hw : (st.map fun v => v.category).sum ≤ 8) (kk : J K (pc + 3) L (.int r :: st) Sa) : J K pc L st0 S := j_callT hK hM hd hi hyc w1 w2 w3 w4 w5 hy hdd hst hw kk
theorem k_callNi (hK : KO K cc own nL d rt) {index : Nat} {y : MethodName} {code' : ByteArray} {nL' d' : Nat} {rt' : Option FieldType} {As : List Value} {r : Int32} {Sa : St}
    (hM : zM y code' nL' d' rt' As S (some (.int r)) Sa) (hd : decode cc pc = .ok (.invokestatic index, 3))
    {host : String} (w1 : ∀ (ad : Nat → Nat) (U : State) (H : Heap), zX ad U H → va_Nw (.methodLinkNest own index y host) U) (w2 : Cond.static y ∈ zT) (w4 : Cond.initialized y.cls ∈ zT) (w5 : Cond.code y code' nL' rt' ∈ zT)
    (hy : y.cls ≠ "java/lang/invoke/MethodHandle" ∧ y.cls ≠ "java/lang/invoke/VarHandle" ∧ (parseMethodDescriptor y.desc).map (fun d => d.parameters.length) = some As.length)
    (hdd : d' < d ∧ nL' ≤ 60) (hst : st0 = As.reverse ++ st) (hw : (st.map fun v => v.category).sum ≤ 8) (kk : J K (pc + 3) L (.int r :: st) Sa) : J K pc L st0 S := j_callN hK hM hd w1 w2 w4 w5 hy hdd hst hw kk
theorem k_callSi (hK : KO K cc own nL d rt) {index : Nat} {y : MethodName} {code' : ByteArray} {nL' d' : Nat} {rt' : Option FieldType} {As : List Value} {r : Int32} {Sa : St}
    (hM : zM y code' nL' d' rt' As S (some (.int r)) Sa) (hd : decode cc pc = .ok (.invokestatic index, 3))
    (w1 : Cond.methodLink own index y ∈ zT) (w2 : Cond.static y ∈ zT) (w4 : Cond.initialized y.cls ∈ zT) (w5 : Cond.code y code' nL' rt' ∈ zT)
    (hy : y.cls ≠ "java/lang/invoke/MethodHandle" ∧ y.cls ≠ "java/lang/invoke/VarHandle" ∧ (parseMethodDescriptor y.desc).map (fun d => d.parameters.length) = some As.length)
    (hdd : d' < d ∧ nL' ≤ 60) (hst : st0 = As.reverse ++ st) (hw : (st.map fun v => v.category).sum ≤ 8) (kk : J K (pc + 3) L (.int r :: st) Sa) : J K pc L st0 S := j_callS hK hM hd w1 w2 w4 w5 hy hdd hst hw kk
theorem k_callVl (hK : KO K cc own nL d rt) {index : Nat} {y : MethodName} {code' : ByteArray} {nL' d' ci o : Nat} {rt' : Option FieldType} {As : List Value} {r : Int64} {Sa : St} {T : u_T} {N : Nat}
    (hM : zM y code' nL' d' rt' (.ref o :: As) S (some (.long r)) Sa) (hd : decode cc pc = .ok (.invokevirtual index, 3)) (hcl : zCL ci y.cls T N) (ho : zO ci o)
    (w1 : Cond.methodLink own index y ∈ zT) (w2 : Cond.instanceMethod y ∈ zT) (w3 : Cond.selects y.cls y y ∈ zT) (w4 : Cond.initialized y.cls ∈ zT) (w5 : Cond.code y code' nL' rt' ∈ zT)
    (hy : y.cls ≠ "java/lang/invoke/MethodHandle" ∧ y.cls ≠ "java/lang/invoke/VarHandle" ∧ (parseMethodDescriptor y.desc).map (fun d => d.parameters.length) = some As.length)
    (hdd : d' < d ∧ nL' ≤ 60) (hst : st0 = As.reverse ++ .ref o :: st) (hw : (st.map fun v => v.category).sum ≤ 8) (kk : J K (pc + 3) L (.long r :: st) Sa) : J K pc L st0 S := j_callV hK hM hd hcl ho w1 w2 w3 w4 w5 hy hdd hst hw kk
theorem k_callTl (hK : KO K cc own nL d rt) {index : Nat} {y : MethodName} {code' : ByteArray} {nL' d' i : Nat} {rt' : Option FieldType} {As : List Value} {r : Int64} {Sa : St}
    (hM : zM y code' nL' d' rt' (.ref (1000 + i) :: As) S (some (.long r)) Sa) (hd : decode cc pc = .ok (.invokevirtual index, 3)) (hi : i < 5) (hyc : y.cls = "java/lang/String")
    (w1 : Cond.methodLink own index y ∈ zT) (w2 : Cond.instanceMethod y ∈ zT) (w3 : Cond.selects y.cls y y ∈ zT) (w4 : Cond.initialized y.cls ∈ zT) (w5 : Cond.code y code' nL' rt' ∈ zT)
    (hy : y.cls ≠ "java/lang/invoke/MethodHandle" ∧ y.cls ≠ "java/lang/invoke/VarHandle" ∧ (parseMethodDescriptor y.desc).map (fun d => d.parameters.length) = some As.length)
    (hdd : d' < d ∧ nL' ≤ 60) (hst : st0 = As.reverse ++ .ref (1000 + i) :: st) (hw : (st.map fun v => v.category).sum ≤ 8) (kk : J K (pc + 3) L (.long r :: st) Sa) : J K pc L st0 S := j_callT hK hM hd hi hyc w1 w2 w3 w4 w5 hy hdd hst hw kk
theorem k_callNl (hK : KO K cc own nL d rt) {index : Nat} {y : MethodName} {code' : ByteArray} {nL' d' : Nat} {rt' : Option FieldType} {As : List Value} {r : Int64} {Sa : St}
    (hM : zM y code' nL' d' rt' As S (some (.long r)) Sa) (hd : decode cc pc = .ok (.invokestatic index, 3))
    {host : String} (w1 : ∀ (ad : Nat → Nat) (U : State) (H : Heap), zX ad U H → va_Nw (.methodLinkNest own index y host) U) (w2 : Cond.static y ∈ zT) (w4 : Cond.initialized y.cls ∈ zT) (w5 : Cond.code y code' nL' rt' ∈ zT)
    (hy : y.cls ≠ "java/lang/invoke/MethodHandle" ∧ y.cls ≠ "java/lang/invoke/VarHandle" ∧ (parseMethodDescriptor y.desc).map (fun d => d.parameters.length) = some As.length)
    (hdd : d' < d ∧ nL' ≤ 60) (hst : st0 = As.reverse ++ st) (hw : (st.map fun v => v.category).sum ≤ 8) (kk : J K (pc + 3) L (.long r :: st) Sa) : J K pc L st0 S := j_callN hK hM hd w1 w2 w4 w5 hy hdd hst hw kk
theorem k_callSl (hK : KO K cc own nL d rt) {index : Nat} {y : MethodName} {code' : ByteArray} {nL' d' : Nat} {rt' : Option FieldType} {As : List Value} {r : Int64} {Sa : St}
    (hM : zM y code' nL' d' rt' As S (some (.long r)) Sa) (hd : decode cc pc = .ok (.invokestatic index, 3))
    (w1 : Cond.methodLink own index y ∈ zT) (w2 : Cond.static y ∈ zT) (w4 : Cond.initialized y.cls ∈ zT) (w5 : Cond.code y code' nL' rt' ∈ zT)
    (hy : y.cls ≠ "java/lang/invoke/MethodHandle" ∧ y.cls ≠ "java/lang/invoke/VarHandle" ∧ (parseMethodDescriptor y.desc).map (fun d => d.parameters.length) = some As.length)
    (hdd : d' < d ∧ nL' ≤ 60) (hst : st0 = As.reverse ++ st) (hw : (st.map fun v => v.category).sum ≤ 8) (kk : J K (pc + 3) L (.long r :: st) Sa) : J K pc L st0 S := j_callS hK hM hd w1 w2 w4 w5 hy hdd hst hw kk
theorem k_callVr (hK : KO K cc own nL d rt) {index : Nat} {y : MethodName} {code' : ByteArray} {nL' d' ci o : Nat} {rt' : Option FieldType} {As : List Value} {r : Nat} {Sa : St} {T : u_T} {N : Nat}
    (hM : zM y code' nL' d' rt' (.ref o :: As) S (some (.ref r)) Sa) (hd : decode cc pc = .ok (.invokevirtual index, 3)) (hcl : zCL ci y.cls T N) (ho : zO ci o)
    (w1 : Cond.methodLink own index y ∈ zT) (w2 : Cond.instanceMethod y ∈ zT) (w3 : Cond.selects y.cls y y ∈ zT) (w4 : Cond.initialized y.cls ∈ zT) (w5 : Cond.code y code' nL' rt' ∈ zT)
    (hy : y.cls ≠ "java/lang/invoke/MethodHandle" ∧ y.cls ≠ "java/lang/invoke/VarHandle" ∧ (parseMethodDescriptor y.desc).map (fun d => d.parameters.length) = some As.length)
    (hdd : d' < d ∧ nL' ≤ 60) (hst : st0 = As.reverse ++ .ref o :: st) (hw : (st.map fun v => v.category).sum ≤ 8) (kk : J K (pc + 3) L (.ref r :: st) Sa) : J K pc L st0 S := j_callV hK hM hd hcl ho w1 w2 w3 w4 w5 hy hdd hst hw kk
theorem k_callTr (hK : KO K cc own nL d rt) {index : Nat} {y : MethodName} {code' : ByteArray} {nL' d' i : Nat} {rt' : Option FieldType} {As : List Value} {r : Nat} {Sa : St}
    (hM : zM y code' nL' d' rt' (.ref (1000 + i) :: As) S (some (.ref r)) Sa) (hd : decode cc pc = .ok (.invokevirtual index, 3)) (hi : i < 5) (hyc : y.cls = "java/lang/String")
    (w1 : Cond.methodLink own index y ∈ zT) (w2 : Cond.instanceMethod y ∈ zT) (w3 : Cond.selects y.cls y y ∈ zT) (w4 : Cond.initialized y.cls ∈ zT) (w5 : Cond.code y code' nL' rt' ∈ zT)
    (hy : y.cls ≠ "java/lang/invoke/MethodHandle" ∧ y.cls ≠ "java/lang/invoke/VarHandle" ∧ (parseMethodDescriptor y.desc).map (fun d => d.parameters.length) = some As.length)
    (hdd : d' < d ∧ nL' ≤ 60) (hst : st0 = As.reverse ++ .ref (1000 + i) :: st) (hw : (st.map fun v => v.category).sum ≤ 8) (kk : J K (pc + 3) L (.ref r :: st) Sa) : J K pc L st0 S := j_callT hK hM hd hi hyc w1 w2 w3 w4 w5 hy hdd hst hw kk
theorem k_callNr (hK : KO K cc own nL d rt) {index : Nat} {y : MethodName} {code' : ByteArray} {nL' d' : Nat} {rt' : Option FieldType} {As : List Value} {r : Nat} {Sa : St}
    (hM : zM y code' nL' d' rt' As S (some (.ref r)) Sa) (hd : decode cc pc = .ok (.invokestatic index, 3))
    {host : String} (w1 : ∀ (ad : Nat → Nat) (U : State) (H : Heap), zX ad U H → va_Nw (.methodLinkNest own index y host) U) (w2 : Cond.static y ∈ zT) (w4 : Cond.initialized y.cls ∈ zT) (w5 : Cond.code y code' nL' rt' ∈ zT)
    (hy : y.cls ≠ "java/lang/invoke/MethodHandle" ∧ y.cls ≠ "java/lang/invoke/VarHandle" ∧ (parseMethodDescriptor y.desc).map (fun d => d.parameters.length) = some As.length)
    (hdd : d' < d ∧ nL' ≤ 60) (hst : st0 = As.reverse ++ st) (hw : (st.map fun v => v.category).sum ≤ 8) (kk : J K (pc + 3) L (.ref r :: st) Sa) : J K pc L st0 S := j_callN hK hM hd w1 w2 w4 w5 hy hdd hst hw kk
theorem k_callSr (hK : KO K cc own nL d rt) {index : Nat} {y : MethodName} {code' : ByteArray} {nL' d' : Nat} {rt' : Option FieldType} {As : List Value} {r : Nat} {Sa : St}
    (hM : zM y code' nL' d' rt' As S (some (.ref r)) Sa) (hd : decode cc pc = .ok (.invokestatic index, 3))
    (w1 : Cond.methodLink own index y ∈ zT) (w2 : Cond.static y ∈ zT) (w4 : Cond.initialized y.cls ∈ zT) (w5 : Cond.code y code' nL' rt' ∈ zT)
    (hy : y.cls ≠ "java/lang/invoke/MethodHandle" ∧ y.cls ≠ "java/lang/invoke/VarHandle" ∧ (parseMethodDescriptor y.desc).map (fun d => d.parameters.length) = some As.length)
    (hdd : d' < d ∧ nL' ≤ 60) (hst : st0 = As.reverse ++ st) (hw : (st.map fun v => v.category).sum ≤ 8) (kk : J K (pc + 3) L (.ref r :: st) Sa) : J K pc L st0 S := j_callS hK hM hd w1 w2 w4 w5 hy hdd hst hw kk
theorem k_callVv (hK : KO K cc own nL d rt) {index : Nat} {y : MethodName} {code' : ByteArray} {nL' d' ci o : Nat} {rt' : Option FieldType} {As : List Value} {Sa : St} {T : u_T} {N : Nat}
    (hM : zM y code' nL' d' rt' (.ref o :: As) S none Sa) (hd : decode cc pc = .ok (.invokevirtual index, 3)) (hcl : zCL ci y.cls T N) (ho : zO ci o)
    (w1 : Cond.methodLink own index y ∈ zT) (w2 : Cond.instanceMethod y ∈ zT) (w3 : Cond.selects y.cls y y ∈ zT) (w4 : Cond.initialized y.cls ∈ zT) (w5 : Cond.code y code' nL' rt' ∈ zT)
    (hy : y.cls ≠ "java/lang/invoke/MethodHandle" ∧ y.cls ≠ "java/lang/invoke/VarHandle" ∧ (parseMethodDescriptor y.desc).map (fun d => d.parameters.length) = some As.length)
    (hdd : d' < d ∧ nL' ≤ 60) (hst : st0 = As.reverse ++ .ref o :: st) (hw : (st.map fun v => v.category).sum ≤ 8) (kk : J K (pc + 3) L (st) Sa) : J K pc L st0 S := j_callV hK hM hd hcl ho w1 w2 w3 w4 w5 hy hdd hst hw kk
theorem k_callTv (hK : KO K cc own nL d rt) {index : Nat} {y : MethodName} {code' : ByteArray} {nL' d' i : Nat} {rt' : Option FieldType} {As : List Value} {Sa : St}
    (hM : zM y code' nL' d' rt' (.ref (1000 + i) :: As) S none Sa) (hd : decode cc pc = .ok (.invokevirtual index, 3)) (hi : i < 5) (hyc : y.cls = "java/lang/String")
    (w1 : Cond.methodLink own index y ∈ zT) (w2 : Cond.instanceMethod y ∈ zT) (w3 : Cond.selects y.cls y y ∈ zT) (w4 : Cond.initialized y.cls ∈ zT) (w5 : Cond.code y code' nL' rt' ∈ zT)
    (hy : y.cls ≠ "java/lang/invoke/MethodHandle" ∧ y.cls ≠ "java/lang/invoke/VarHandle" ∧ (parseMethodDescriptor y.desc).map (fun d => d.parameters.length) = some As.length)
    (hdd : d' < d ∧ nL' ≤ 60) (hst : st0 = As.reverse ++ .ref (1000 + i) :: st) (hw : (st.map fun v => v.category).sum ≤ 8) (kk : J K (pc + 3) L (st) Sa) : J K pc L st0 S := j_callT hK hM hd hi hyc w1 w2 w3 w4 w5 hy hdd hst hw kk
theorem k_callNv (hK : KO K cc own nL d rt) {index : Nat} {y : MethodName} {code' : ByteArray} {nL' d' : Nat} {rt' : Option FieldType} {As : List Value} {Sa : St}
    (hM : zM y code' nL' d' rt' As S none Sa) (hd : decode cc pc = .ok (.invokestatic index, 3))
    {host : String} (w1 : ∀ (ad : Nat → Nat) (U : State) (H : Heap), zX ad U H → va_Nw (.methodLinkNest own index y host) U) (w2 : Cond.static y ∈ zT) (w4 : Cond.initialized y.cls ∈ zT) (w5 : Cond.code y code' nL' rt' ∈ zT)
    (hy : y.cls ≠ "java/lang/invoke/MethodHandle" ∧ y.cls ≠ "java/lang/invoke/VarHandle" ∧ (parseMethodDescriptor y.desc).map (fun d => d.parameters.length) = some As.length)
    (hdd : d' < d ∧ nL' ≤ 60) (hst : st0 = As.reverse ++ st) (hw : (st.map fun v => v.category).sum ≤ 8) (kk : J K (pc + 3) L (st) Sa) : J K pc L st0 S := j_callN hK hM hd w1 w2 w4 w5 hy hdd hst hw kk
theorem k_callSv (hK : KO K cc own nL d rt) {index : Nat} {y : MethodName} {code' : ByteArray} {nL' d' : Nat} {rt' : Option FieldType} {As : List Value} {Sa : St}
    (hM : zM y code' nL' d' rt' As S none Sa) (hd : decode cc pc = .ok (.invokestatic index, 3))
    (w1 : Cond.methodLink own index y ∈ zT) (w2 : Cond.static y ∈ zT) (w4 : Cond.initialized y.cls ∈ zT) (w5 : Cond.code y code' nL' rt' ∈ zT)
    (hy : y.cls ≠ "java/lang/invoke/MethodHandle" ∧ y.cls ≠ "java/lang/invoke/VarHandle" ∧ (parseMethodDescriptor y.desc).map (fun d => d.parameters.length) = some As.length)
    (hdd : d' < d ∧ nL' ≤ 60) (hst : st0 = As.reverse ++ st) (hw : (st.map fun v => v.category).sum ≤ 8) (kk : J K (pc + 3) L (st) Sa) : J K pc L st0 S := j_callS hK hM hd w1 w2 w4 w5 hy hdd hst hw kk
end KR
