def f_X10_needed_61 (x1 : Int32) (x2 : Int32) (x3 : Int32) (k e : Int32 × Int32 → St → Option (Int32 × St)) (S : St) : Option (Int32 × St) := k (x2, (x3 + (1 : Int32))) S
theorem t_X10_needed_61 {K : CT} (hK : KO K cX10_needed RX10 4 4 (some .int)) {r : Int32} {S' : St} (hA : zans K = (some (.int r), S')) {x1 : Int32} {x2 : Int32} {x3 : Int32} {k e : Int32 × Int32 → St → Option (Int32 × St)} (hk : ∀ (v : Int32 × Int32) (S : St), k v S = some (r, S') → J K 15 [(0, .ref 0), (1, .int x1), (2, .int v.1), (3, .int v.2)] [] S) (he : ∀ (v : Int32 × Int32) (S : St), e v S = some (r, S') → J K 67 [(0, .ref 0), (2, .int v.1)] [] S) {S : St} (hf : f_X10_needed_61 x1 x2 x3 k e S = some (r, S')) : J K 61 [(0, .ref 0), (1, .int x1), (2, .int x2), (3, .int x3)] [] S := by
  unfold f_X10_needed_61 at hf
  refine j_iinc hK (L' := [(3, .int (x3 + (1 : Int32))), (0, .ref 0), (1, .int x1), (2, .int x2)]) dX10_needed_61 3 rfl (congrArg (fun y => x3 + y) ic_1) (by decide) rfl ?_
  refine j_goto hK 15 dX10_needed_64 (by decide) ?_
  refine j_sub [1, 2, 3, 0] rfl ?_
  exact hk _ _ hf
def f_X10_needed_15b (x1 : Int32) (e : Int32 × Int32 → St → Option (Int32 × St)) (k : Int32 × Int32 → St → Option (Int32 × St)) (v : Int32 × Int32) (S : St) : Option (Int32 × St) := (if (gI S 3 2) ≤ v.2 then e (v.1, v.2) S else bd (f_X0_isOpen v.2 S) (fun r1 S2 => (if r1 = 0 then f_X10_needed_61 x1 v.1 v.2 k e S2 else bd (f_X9_joinsEnds (x1 &&& (((1 : Int32) <<< (v.2 &&& 31)) ^^^ (-1 : Int32))) v.2 S2) (fun r4 S5 => (if r4 = 0 then lt (v.1 ||| ((1 : Int32) <<< (v.2 &&& 31))) (fun y7 => f_X10_needed_61 x1 y7 v.2 k e S5) else f_X10_needed_61 x1 v.1 v.2 k e S5)))))
theorem t_X10_needed_15 {K : CT} (hK : KO K cX10_needed RX10 4 4 (some .int)) {r : Int32} {S' : St} (hA : zans K = (some (.int r), S')) {x1 : Int32} {e : Int32 × Int32 → St → Option (Int32 × St)} (he : ∀ (v : Int32 × Int32) (S : St), e v S = some (r, S') → J K 67 [(0, .ref 0), (2, .int v.1)] [] S) : ∀ (n : Nat) (v : Int32 × Int32) (S : St), lp (f_X10_needed_15b x1 e) n v S = some (r, S') → J K 15 [(0, .ref 0), (1, .int x1), (2, .int v.1), (3, .int v.2)] [] S :=
  lp_J (P := fun (v : Int32 × Int32) (S : St) => J K 15 [(0, .ref 0), (1, .int x1), (2, .int v.1), (3, .int v.2)] [] S) (fun k hk v S hf => by
    unfold f_X10_needed_15b at hf
    refine j_iload_n hK dX10_needed_15 3 rfl rfl ?_
    refine j_aload_n hK dX10_needed_16 0 rfl rfl ?_
    refine j_getR hK fl_X10_19 dX10_needed_17 zo_0 zf_10_1 zr_0_1 ?_
    refine j_getI hK fl_X10_95 dX10_needed_20 zo_3 zf_0_2 ?_
    refine j_icmp_ge hK 67 dX10_needed_23 (by decide) (fun hc => ?_) (fun hc => ?_)
    · replace hf := if_1 hc hf
      refine j_sub [0, 2] rfl ?_
      exact he _ _ hf
    · replace hf := if_2 hc hf
      refine j_aload_n hK dX10_needed_26 0 rfl rfl ?_
      refine j_getR hK fl_X10_19 dX10_needed_27 zo_0 zf_10_1 zr_0_1 ?_
      refine j_iload_n hK dX10_needed_30 3 rfl rfl ?_
      obtain ⟨r1, S2, h3, hf⟩ := bd_J hf
      refine k_callVi hK (c_X0_isOpen h3) dX10_needed_31 zclX0 zo_3 ml_X10_144 mi_X0_isOpen mx_X0_isOpen in_X0 mc_X0_isOpen hy_X0_isOpen ⟨by decide, by decide⟩ rfl (Nat.le_of_ble_eq_true rfl) ?_
      refine j_if_eq hK 61 dX10_needed_34 (by decide) (fun hc => ?_) (fun hc => ?_)
      · replace hf := if_1 hc hf
        exact t_X10_needed_61 hK hA hk he hf
      · replace hf := if_2 hc hf
        refine j_aload_n hK dX10_needed_37 0 rfl rfl ?_
        refine j_getR hK fl_X10_49 dX10_needed_38 zo_0 zf_10_5 zr_0_5 ?_
        refine j_iload_n hK dX10_needed_41 1 rfl rfl ?_
        refine j_iconst hK (1 : Int32) dX10_needed_42 ic_1 ?_
        refine j_iload_n hK dX10_needed_43 3 rfl rfl ?_
        refine j_ishl hK dX10_needed_44 ?_
        refine j_iconst hK (-1 : Int32) dX10_needed_45 ic_m1 ?_
        refine j_pc (pc' := 46) rfl ?_
        refine j_ixor hK dX10_needed_46 ?_
        refine j_iand hK dX10_needed_47 ?_
        refine j_iload_n hK dX10_needed_48 3 rfl rfl ?_
        obtain ⟨r4, S5, h6, hf⟩ := bd_J hf
        refine k_callVi hK (c_X9_joinsEnds h6) dX10_needed_49 zclX9 zo_98 ml_X10_312 mi_X9_joinsEnds mx_X9_joinsEnds in_X9 mc_X9_joinsEnds hy_X9_joinsEnds ⟨by decide, by decide⟩ rfl (Nat.le_of_ble_eq_true rfl) ?_
        refine j_if_ne hK 61 dX10_needed_52 (by decide) (fun hc => ?_) (fun hc => ?_)
        · replace hf := if_2 hc hf
          exact t_X10_needed_61 hK hA hk he hf
        · replace hf := if_1 hc hf
          refine j_iload_n hK dX10_needed_55 2 rfl rfl ?_
          refine j_iconst hK (1 : Int32) dX10_needed_56 ic_1 ?_
          refine j_iload_n hK dX10_needed_57 3 rfl rfl ?_
          refine j_ishl hK dX10_needed_58 ?_
          refine j_ior hK dX10_needed_59 ?_
          refine lt_I hf (fun y7 hf => ?_)
          refine j_istore_n hK (L' := [(2, .int y7), (0, .ref 0), (1, .int x1), (3, .int v.2)]) dX10_needed_60 rfl (by decide) rfl ?_
          refine j_sub [1, 2, 0, 3] rfl ?_
          exact t_X10_needed_61 hK hA hk he hf)
def f_X10_needed (S : St) : Option (Int32 × St) := lt (gI S 6 3) (fun y8 => lp (f_X10_needed_15b y8 (fun v9 S10 => bd (f_X0_enteredCaverns S10) (fun r11 S12 => bd (f_X5_begin S12) (fun r14 S15 => bd (f_J6_bitCount_0f7a4 v9.1 S15) (fun r17 S18 => bd (f_X5_put r17.toInt64 S18) (fun r20 S21 => bd (f_J6_bitCount_0f7a4 r11 S21) (fun r23 S24 => bd (f_X5_put r23.toInt64 S24) (fun r26 S27 => bd (f_X9_heapsOf r11 S27) (fun r29 S30 => bd (f_X5_put r29.toInt64 S30) (fun r32 S33 => some (v9.1, S33))))))))))) FU ((0 : Int32), (0 : Int32)) S)
theorem c_X10_needed {S : St} {r : Int32} {S' : St} (hf : f_X10_needed S = some (r, S')) : zM yX10_needed cX10_needed 4 4 (some .int) [.ref 0] S (some (.int r)) S' := by
  refine zM_of (zpl (by decide)) (Nat.le_of_ble_eq_true rfl) rfl (fun K hK hA => ?_)
  unfold f_X10_needed at hf
  refine j_aload_n hK dX10_needed_0 0 rfl rfl ?_
  refine j_getR hK fl_X10_19 dX10_needed_1 zo_0 zf_10_1 zr_0_1 ?_
  refine j_getR hK fl_X10_129 dX10_needed_4 zo_3 zf_0_3 zr_3_3 ?_
  refine j_getI hK fl_X10_260 dX10_needed_7 zo_6 zf_7_3 ?_
  refine lt_I hf (fun y8 hf => ?_)
  refine j_istore_n hK (L' := [(1, .int y8), (0, .ref 0)]) dX10_needed_10 rfl (by decide) rfl ?_
  refine j_iconst hK (0 : Int32) dX10_needed_11 ic_0 ?_
  refine j_istore_n hK (L' := [(2, .int (0 : Int32)), (1, .int y8), (0, .ref 0)]) dX10_needed_12 rfl (by decide) rfl ?_
  refine j_iconst hK (0 : Int32) dX10_needed_13 ic_0 ?_
  refine j_pc (pc' := 14) rfl ?_
  refine j_istore_n hK (L' := [(3, .int (0 : Int32)), (2, .int (0 : Int32)), (1, .int y8), (0, .ref 0)]) dX10_needed_14 rfl (by decide) rfl ?_
  refine j_sub [3, 2, 1, 0] rfl ?_
  refine t_X10_needed_15 hK hA  (fun v9 S10 hf => ?_) _ _ _ hf
  refine j_aload_n hK dX10_needed_67 0 rfl rfl ?_
  refine j_getR hK fl_X10_19 dX10_needed_68 zo_0 zf_10_1 zr_0_1 ?_
  obtain ⟨r11, S12, h13, hf⟩ := bd_J hf
  refine k_callVi hK (c_X0_enteredCaverns h13) dX10_needed_71 zclX0 zo_3 ml_X10_315 mi_X0_enteredCaverns mx_X0_enteredCaverns in_X0 mc_X0_enteredCaverns hy_X0_enteredCaverns ⟨by decide, by decide⟩ rfl (Nat.le_of_ble_eq_true rfl) ?_
  refine j_istore_n hK (L' := [(3, .int r11), (0, .ref 0), (2, .int v9.1)]) dX10_needed_74 rfl (by decide) rfl ?_
  refine j_aload_n hK dX10_needed_75 1 rfl rfl ?_
  refine j_getR hK fl_X10_26 dX10_needed_76 zo_0 zf_10_2 zr_0_2 ?_
  obtain ⟨r14, S15, h16, hf⟩ := bd_J hf
  refine k_callVv hK (c_X5_begin h16) dX10_needed_79 zclX5 zo_10 ml_X10_185 mi_X5_begin mx_X5_begin in_X5 mc_X5_begin hy_X5_begin ⟨by decide, by decide⟩ rfl (Nat.le_of_ble_eq_true rfl) ?_
  refine j_pc (pc' := 82) rfl ?_
  refine j_aload_n hK dX10_needed_82 1 rfl rfl ?_
  refine j_getR hK fl_X10_26 dX10_needed_83 zo_0 zf_10_2 zr_0_2 ?_
  refine j_iload_n hK dX10_needed_86 2 rfl rfl ?_
  obtain ⟨r17, S18, h19, hf⟩ := bd_J hf
  refine k_callSi hK (c_J6_bitCount_0f7a4 h19) dX10_needed_87 ml_X10_263 ms_J6_bitCount_0f7a4 in_J6 mc_J6_bitCount_0f7a4 hy_J6_bitCount_0f7a4 ⟨by decide, by decide⟩ rfl (Nat.le_of_ble_eq_true rfl) ?_
  refine j_i2l hK dX10_needed_90 ?_
  obtain ⟨r20, S21, h22, hf⟩ := bd_J hf
  refine k_callVv hK (c_X5_put h22) dX10_needed_91 zclX5 zo_10 ml_X10_191 mi_X5_put mx_X5_put in_X5 mc_X5_put hy_X5_put ⟨by decide, by decide⟩ rfl (Nat.le_of_ble_eq_true rfl) ?_
  refine j_aload_n hK dX10_needed_94 1 rfl rfl ?_
  refine j_getR hK fl_X10_26 dX10_needed_95 zo_0 zf_10_2 zr_0_2 ?_
  refine j_pc (pc' := 98) rfl ?_
  refine j_iload_n hK dX10_needed_98 0 rfl rfl ?_
  obtain ⟨r23, S24, h25, hf⟩ := bd_J hf
  refine k_callSi hK (c_J6_bitCount_0f7a4 h25) dX10_needed_99 ml_X10_263 ms_J6_bitCount_0f7a4 in_J6 mc_J6_bitCount_0f7a4 hy_J6_bitCount_0f7a4 ⟨by decide, by decide⟩ rfl (Nat.le_of_ble_eq_true rfl) ?_
  refine j_i2l hK dX10_needed_102 ?_
  obtain ⟨r26, S27, h28, hf⟩ := bd_J hf
  refine k_callVv hK (c_X5_put h28) dX10_needed_103 zclX5 zo_10 ml_X10_191 mi_X5_put mx_X5_put in_X5 mc_X5_put hy_X5_put ⟨by decide, by decide⟩ rfl (Nat.le_of_ble_eq_true rfl) ?_
  refine j_aload_n hK dX10_needed_106 1 rfl rfl ?_
  refine j_getR hK fl_X10_26 dX10_needed_107 zo_0 zf_10_2 zr_0_2 ?_
  refine j_aload_n hK dX10_needed_110 1 rfl rfl ?_
  refine j_getR hK fl_X10_49 dX10_needed_111 zo_0 zf_10_5 zr_0_5 ?_
  refine j_pc (pc' := 114) rfl ?_
  refine j_iload_n hK dX10_needed_114 0 rfl rfl ?_
  obtain ⟨r29, S30, h31, hf⟩ := bd_J hf
  refine k_callVi hK (c_X9_heapsOf h31) dX10_needed_115 zclX9 zo_98 ml_X10_318 mi_X9_heapsOf mx_X9_heapsOf in_X9 mc_X9_heapsOf hy_X9_heapsOf ⟨by decide, by decide⟩ rfl (Nat.le_of_ble_eq_true rfl) ?_
  refine j_i2l hK dX10_needed_118 ?_
  obtain ⟨r32, S33, h34, hf⟩ := bd_J hf
  refine k_callVv hK (c_X5_put h34) dX10_needed_119 zclX5 zo_10 ml_X10_191 mi_X5_put mx_X5_put in_X5 mc_X5_put hy_X5_put ⟨by decide, by decide⟩ rfl (Nat.le_of_ble_eq_true rfl) ?_
  refine j_iload_n hK dX10_needed_122 2 rfl rfl ?_
  exact j_iret hK dX10_needed_123 rfl (rt_I hA hf)
def f_X10_tour_89b (x4 : Int32) (e : Int32 × Int32 × Int32 → St → Option (Int32 × St)) (k : Int32 × Int32 × Int32 → St → Option (Int32 × St)) (v : Int32 × Int32 × Int32) (S : St) : Option (Int32 × St) := (if v.2.2 ≤ 0 then e (v.1, v.2.1, v.2.2) S else bd (f_X9_nextOfTour v.1 v.2.1 S) (fun r1 S2 => lt (v.1 &&& (((1 : Int32) <<< (r1 &&& 31)) ^^^ (-1 : Int32))) (fun y4 => bd (f_X5_put r1.toInt64 S2) (fun r5 S6 => k (y4, r1, (v.2.2 + (-1 : Int32))) S6))))
theorem t_X10_tour_89 {K : CT} (hK : KO K cX10_tour RX10 7 5 (some .int)) {r : Int32} {S' : St} (hA : zans K = (some (.int r), S')) {x4 : Int32} {e : Int32 × Int32 × Int32 → St → Option (Int32 × St)} (he : ∀ (v : Int32 × Int32 × Int32) (S : St), e v S = some (r, S') → J K 131 [(4, .int x4)] [] S) : ∀ (n : Nat) (v : Int32 × Int32 × Int32) (S : St), lp (f_X10_tour_89b x4 e) n v S = some (r, S') → J K 89 [(0, .ref 0), (3, .int v.1), (4, .int x4), (5, .int v.2.1), (6, .int v.2.2)] [] S :=
  lp_J (P := fun (v : Int32 × Int32 × Int32) (S : St) => J K 89 [(0, .ref 0), (3, .int v.1), (4, .int x4), (5, .int v.2.1), (6, .int v.2.2)] [] S) (fun k hk v S hf => by
    unfold f_X10_tour_89b at hf
    refine j_iload hK dX10_tour_89 4 rfl ?_
    refine j_if_le hK 131 dX10_tour_91 (by decide) (fun hc => ?_) (fun hc => ?_)
    · replace hf := if_1 hc hf
      refine j_sub [2] rfl ?_
      exact he _ _ hf
    · replace hf := if_2 hc hf
      refine j_aload_n hK dX10_tour_94 0 rfl rfl ?_
      refine j_getR hK fl_X10_49 dX10_tour_95 zo_0 zf_10_5 zr_0_5 ?_
      refine j_iload_n hK dX10_tour_98 1 rfl rfl ?_
      refine j_iload hK dX10_tour_99 3 rfl ?_
      obtain ⟨r1, S2, h3, hf⟩ := bd_J hf
      refine k_callVi hK (c_X9_nextOfTour h3) dX10_tour_101 zclX9 zo_98 ml_X10_327 mi_X9_nextOfTour mx_X9_nextOfTour in_X9 mc_X9_nextOfTour hy_X9_nextOfTour ⟨by decide, by decide⟩ rfl (Nat.le_of_ble_eq_true rfl) ?_
      refine j_istore hK (L' := [(5, .int r1), (0, .ref 0), (3, .int v.1), (4, .int x4), (6, .int v.2.2)]) dX10_tour_104 (by decide) rfl ?_
      refine j_iload_n hK dX10_tour_106 2 rfl rfl ?_
      refine j_pc (pc' := 107) rfl ?_
      refine j_iconst hK (1 : Int32) dX10_tour_107 ic_1 ?_
      refine j_iload hK dX10_tour_108 0 rfl ?_
      refine j_ishl hK dX10_tour_110 ?_
      refine j_iconst hK (-1 : Int32) dX10_tour_111 ic_m1 ?_
      refine j_ixor hK dX10_tour_112 ?_
      refine j_iand hK dX10_tour_113 ?_
      refine lt_I hf (fun y4 hf => ?_)
      refine j_istore_n hK (L' := [(3, .int y4), (5, .int r1), (0, .ref 0), (4, .int x4), (6, .int v.2.2)]) dX10_tour_114 rfl (by decide) rfl ?_
      refine j_aload_n hK dX10_tour_115 2 rfl rfl ?_
      refine j_pc (pc' := 116) rfl ?_
      refine j_getR hK fl_X10_26 dX10_tour_116 zo_0 zf_10_2 zr_0_2 ?_
      refine j_iload hK dX10_tour_119 1 rfl ?_
      refine j_i2l hK dX10_tour_121 ?_
      obtain ⟨r5, S6, h7, hf⟩ := bd_J hf
      refine k_callVv hK (c_X5_put h7) dX10_tour_122 zclX5 zo_10 ml_X10_191 mi_X5_put mx_X5_put in_X5 mc_X5_put hy_X5_put ⟨by decide, by decide⟩ rfl (Nat.le_of_ble_eq_true rfl) ?_
      refine j_iinc hK (L' := [(6, .int (v.2.2 + (-1 : Int32))), (3, .int y4), (5, .int r1), (0, .ref 0), (4, .int x4)]) dX10_tour_125 4 rfl (congrArg (fun y => v.2.2 + y) ic_m1) (by decide) rfl ?_
      refine j_goto hK 89 dX10_tour_128 (by decide) ?_
      refine j_sub [3, 1, 4, 2, 0] rfl ?_
      exact hk _ _ hf)
def f_X10_tour (p1 : Int32) (p2 : Int32) (S : St) : Option (Int32 × St) := bd (f_X10_isCavern p1 S) (fun r8 S9 => (if r8 = 0 then some ((-1 : Int32), S9) else (if p2 < 0 then some ((-1 : Int32), S9) else (if p2 ≤ (255 : Int32) then bd (f_X9_measure S9) (fun r11 S12 => bd (f_X9_joinedTo p1 S12) (fun r14 S15 => (if (p2 &&& (r14 ^^^ (-1 : Int32))) = 0 then lt (p2 &&& (((1 : Int32) <<< (p1 &&& 31)) ^^^ (-1 : Int32))) (fun y17 => bd (f_X9_planTours p1 y17 S15) (fun r18 S19 => bd (f_X9_minutesLeft y17 p1 S19) (fun r21 S22 => bd (f_X5_begin S22) (fun r24 S25 => bd (f_J6_bitCount_0f7a4 y17 S25) (fun r27 S28 => lp (f_X10_tour_89b r21 (fun v30 S31 => some (r21, S31))) FU (y17, p1, r27) S28))))) else some ((-2 : Int32), S15)))) else some ((-1 : Int32), S9)))))
theorem c_X10_tour {p1 : Int32} {p2 : Int32} {S : St} {r : Int32} {S' : St} (hf : f_X10_tour p1 p2 S = some (r, S')) : zM yX10_tour cX10_tour 7 5 (some .int) [.ref 0, .int p1, .int p2] S (some (.int r)) S' := by
  refine zM_of (zpl (by decide)) (Nat.le_of_ble_eq_true rfl) rfl (fun K hK hA => ?_)
  unfold f_X10_tour at hf
  refine j_iload_n hK dX10_tour_0 1 rfl rfl ?_
  obtain ⟨r8, S9, h10, hf⟩ := bd_J hf
  refine k_callSi hK (c_X10_isCavern h10) dX10_tour_1 ml_X10_147 ms_X10_isCavern in_X10 mc_X10_isCavern hy_X10_isCavern ⟨by decide, by decide⟩ rfl (Nat.le_of_ble_eq_true rfl) ?_
  refine j_if_eq hK 18 dX10_tour_4 (by decide) (fun hc => ?_) (fun hc => ?_)
  · replace hf := if_1 hc hf
    refine j_iconst hK (-1 : Int32) dX10_tour_18 ic_m1 ?_
    exact j_iret hK dX10_tour_19 rfl (rt_I hA hf)
  · replace hf := if_2 hc hf
    refine j_iload_n hK dX10_tour_7 2 rfl rfl ?_
    refine j_if_lt hK 18 dX10_tour_8 (by decide) (fun hc => ?_) (fun hc => ?_)
    · replace hf := if_1 hc hf
      refine j_iconst hK (-1 : Int32) dX10_tour_18 ic_m1 ?_
      exact j_iret hK dX10_tour_19 rfl (rt_I hA hf)
    · replace hf := if_2 hc hf
      refine j_iload_n hK dX10_tour_11 2 rfl rfl ?_
      refine j_sipush hK (255 : Int32) dX10_tour_12 si_255 ?_
      refine j_icmp_le hK 20 dX10_tour_15 (by decide) (fun hc => ?_) (fun hc => ?_)
      · replace hf := if_1 hc hf
        refine j_aload_n hK dX10_tour_20 0 rfl rfl ?_
        refine j_getR hK fl_X10_49 dX10_tour_21 zo_0 zf_10_5 zr_0_5 ?_
        obtain ⟨r11, S12, h13, hf⟩ := bd_J hf
        refine k_callVv hK (c_X9_measure h13) dX10_tour_24 zclX9 zo_98 ml_X10_153 mi_X9_measure mx_X9_measure in_X9 mc_X9_measure hy_X9_measure ⟨by decide, by decide⟩ rfl (Nat.le_of_ble_eq_true rfl) ?_
        refine j_iload_n hK dX10_tour_27 2 rfl rfl ?_
        refine j_aload_n hK dX10_tour_28 0 rfl rfl ?_
        refine j_getR hK fl_X10_49 dX10_tour_29 zo_0 zf_10_5 zr_0_5 ?_
        refine j_iload_n hK dX10_tour_32 1 rfl rfl ?_
        refine j_pc (pc' := 33) rfl ?_
        obtain ⟨r14, S15, h16, hf⟩ := bd_J hf
        refine k_callVi hK (c_X9_joinedTo h16) dX10_tour_33 zclX9 zo_98 ml_X10_156 mi_X9_joinedTo mx_X9_joinedTo in_X9 mc_X9_joinedTo hy_X9_joinedTo ⟨by decide, by decide⟩ rfl (Nat.le_of_ble_eq_true rfl) ?_
        refine j_iconst hK (-1 : Int32) dX10_tour_36 ic_m1 ?_
        refine j_ixor hK dX10_tour_37 ?_
        refine j_iand hK dX10_tour_38 ?_
        refine j_if_eq hK 45 dX10_tour_39 (by decide) (fun hc => ?_) (fun hc => ?_)
        · replace hf := if_1 hc hf
          refine j_iload_n hK dX10_tour_45 2 rfl rfl ?_
          refine j_iconst hK (1 : Int32) dX10_tour_46 ic_1 ?_
          refine j_iload_n hK dX10_tour_47 1 rfl rfl ?_
          refine j_ishl hK dX10_tour_48 ?_
          refine j_iconst hK (-1 : Int32) dX10_tour_49 ic_m1 ?_
          refine j_ixor hK dX10_tour_50 ?_
          refine j_iand hK dX10_tour_51 ?_
          refine j_pc (pc' := 52) rfl ?_
          refine lt_I hf (fun y17 hf => ?_)
          refine j_istore_n hK (L' := [(3, .int y17), (0, .ref 0), (1, .int p1), (2, .int p2)]) dX10_tour_52 rfl (by decide) rfl ?_
          refine j_aload_n hK dX10_tour_53 1 rfl rfl ?_
          refine j_getR hK fl_X10_49 dX10_tour_54 zo_0 zf_10_5 zr_0_5 ?_
          refine j_iload_n hK dX10_tour_57 2 rfl rfl ?_
          refine j_iload_n hK dX10_tour_58 0 rfl rfl ?_
          obtain ⟨r18, S19, h20, hf⟩ := bd_J hf
          refine k_callVv hK (c_X9_planTours h20) dX10_tour_59 zclX9 zo_98 ml_X10_321 mi_X9_planTours mx_X9_planTours in_X9 mc_X9_planTours hy_X9_planTours ⟨by decide, by decide⟩ rfl (Nat.le_of_ble_eq_true rfl) ?_
          refine j_aload_n hK dX10_tour_62 1 rfl rfl ?_
          refine j_getR hK fl_X10_49 dX10_tour_63 zo_0 zf_10_5 zr_0_5 ?_
          refine j_pc (pc' := 66) rfl ?_
          refine j_iload_n hK dX10_tour_66 0 rfl rfl ?_
          refine j_iload_n hK dX10_tour_67 2 rfl rfl ?_
          obtain ⟨r21, S22, h23, hf⟩ := bd_J hf
          refine k_callVi hK (c_X9_minutesLeft h23) dX10_tour_68 zclX9 zo_98 ml_X10_324 mi_X9_minutesLeft mx_X9_minutesLeft in_X9 mc_X9_minutesLeft hy_X9_minutesLeft ⟨by decide, by decide⟩ rfl (Nat.le_of_ble_eq_true rfl) ?_
          refine j_istore hK (L' := [(4, .int r21), (3, .int y17), (0, .ref 0), (1, .int p1), (2, .int p2)]) dX10_tour_71 (by decide) rfl ?_
          refine j_aload_n hK dX10_tour_73 2 rfl rfl ?_
          refine j_getR hK fl_X10_26 dX10_tour_74 zo_0 zf_10_2 zr_0_2 ?_
          obtain ⟨r24, S25, h26, hf⟩ := bd_J hf
          refine k_callVv hK (c_X5_begin h26) dX10_tour_77 zclX5 zo_10 ml_X10_185 mi_X5_begin mx_X5_begin in_X5 mc_X5_begin hy_X5_begin ⟨by decide, by decide⟩ rfl (Nat.le_of_ble_eq_true rfl) ?_
          refine j_iload_n hK dX10_tour_80 3 rfl rfl ?_
          refine j_pc (pc' := 81) rfl ?_
          refine j_istore hK (L' := [(5, .int p1), (4, .int r21), (3, .int y17), (0, .ref 0), (1, .int p1), (2, .int p2)]) dX10_tour_81 (by decide) rfl ?_
          refine j_iload_n hK dX10_tour_83 2 rfl rfl ?_
          obtain ⟨r27, S28, h29, hf⟩ := bd_J hf
          refine k_callSi hK (c_J6_bitCount_0f7a4 h29) dX10_tour_84 ml_X10_263 ms_J6_bitCount_0f7a4 in_J6 mc_J6_bitCount_0f7a4 hy_J6_bitCount_0f7a4 ⟨by decide, by decide⟩ rfl (Nat.le_of_ble_eq_true rfl) ?_
          refine j_istore hK (L' := [(6, .int r27), (5, .int p1), (4, .int r21), (3, .int y17), (0, .ref 0), (1, .int p1), (2, .int p2)]) dX10_tour_87 (by decide) rfl ?_
          refine j_sub [4, 3, 2, 1, 0] rfl ?_
          refine t_X10_tour_89 hK hA  (fun v30 S31 hf => ?_) _ _ _ hf
          refine j_iload hK dX10_tour_131 0 rfl ?_
          exact j_iret hK dX10_tour_133 rfl (rt_I hA hf)
        · replace hf := if_2 hc hf
          refine j_bipush hK (-2 : Int32) dX10_tour_42 bi_m2 ?_
          exact j_iret hK dX10_tour_44 rfl (rt_I hA hf)
      · replace hf := if_2 hc hf
        refine j_iconst hK (-1 : Int32) dX10_tour_18 ic_m1 ?_
        exact j_iret hK dX10_tour_19 rfl (rt_I hA hf)
def f_X10_halves (S : St) : Option (Int32 × St) := bd (f_X9_firstHalf S) (fun r1 S2 => bd (f_X5_begin S2) (fun r4 S5 => (if r1 = (-1 : Int32) then some ((0 : Int32), S5) else bd (f_X5_put r1.toInt64 S5) (fun r7 S8 => some ((1 : Int32), S8)))))
theorem c_X10_halves {S : St} {r : Int32} {S' : St} (hf : f_X10_halves S = some (r, S')) : zM yX10_halves cX10_halves 2 4 (some .int) [.ref 0] S (some (.int r)) S' := by
  refine zM_of (zpl (by decide)) (Nat.le_of_ble_eq_true rfl) rfl (fun K hK hA => ?_)
  unfold f_X10_halves at hf
  refine j_aload_n hK dX10_halves_0 0 rfl rfl ?_
  refine j_getR hK fl_X10_49 dX10_halves_1 zo_0 zf_10_5 zr_0_5 ?_
  obtain ⟨r1, S2, h3, hf⟩ := bd_J hf
  refine k_callVi hK (c_X9_firstHalf h3) dX10_halves_4 zclX9 zo_98 ml_X10_330 mi_X9_firstHalf mx_X9_firstHalf in_X9 mc_X9_firstHalf hy_X9_firstHalf ⟨by decide, by decide⟩ rfl (Nat.le_of_ble_eq_true rfl) ?_
  refine j_istore_n hK (L' := [(1, .int r1), (0, .ref 0)]) dX10_halves_7 rfl (by decide) rfl ?_
  refine j_aload_n hK dX10_halves_8 1 rfl rfl ?_
  refine j_getR hK fl_X10_26 dX10_halves_9 zo_0 zf_10_2 zr_0_2 ?_
  obtain ⟨r4, S5, h6, hf⟩ := bd_J hf
  refine k_callVv hK (c_X5_begin h6) dX10_halves_12 zclX5 zo_10 ml_X10_185 mi_X5_begin mx_X5_begin in_X5 mc_X5_begin hy_X5_begin ⟨by decide, by decide⟩ rfl (Nat.le_of_ble_eq_true rfl) ?_
  refine j_iload_n hK dX10_halves_15 0 rfl rfl ?_
  refine j_pc (pc' := 16) rfl ?_
  refine j_iconst hK (-1 : Int32) dX10_halves_16 ic_m1 ?_
  refine j_icmp_ne hK 22 dX10_halves_17 (by decide) (fun hc => ?_) (fun hc => ?_)
  · replace hf := if_2 hc hf
    refine j_aload_n hK dX10_halves_22 1 rfl rfl ?_
    refine j_getR hK fl_X10_26 dX10_halves_23 zo_0 zf_10_2 zr_0_2 ?_
    refine j_iload_n hK dX10_halves_26 0 rfl rfl ?_
    refine j_i2l hK dX10_halves_27 ?_
    obtain ⟨r7, S8, h9, hf⟩ := bd_J hf
    refine k_callVv hK (c_X5_put h9) dX10_halves_28 zclX5 zo_10 ml_X10_191 mi_X5_put mx_X5_put in_X5 mc_X5_put hy_X5_put ⟨by decide, by decide⟩ rfl (Nat.le_of_ble_eq_true rfl) ?_
    refine j_iconst hK (1 : Int32) dX10_halves_31 ic_1 ?_
    exact j_iret hK dX10_halves_32 rfl (rt_I hA hf)
  · replace hf := if_1 hc hf
    refine j_iconst hK (0 : Int32) dX10_halves_20 ic_0 ?_
    exact j_iret hK dX10_halves_21 rfl (rt_I hA hf)
def f_X10_guides_37 (x1 : Int32) (x2 : Int32) (k e : Int32 × Int32 → St → Option (Int32 × St)) (S : St) : Option (Int32 × St) := k (x1, (x2 + (1 : Int32))) S
theorem t_X10_guides_37 {K : CT} (hK : KO K cX10_guides RX10 3 3 (some .int)) {r : Int32} {S' : St} (hA : zans K = (some (.int r), S')) {x1 : Int32} {x2 : Int32} {k e : Int32 × Int32 → St → Option (Int32 × St)} (hk : ∀ (v : Int32 × Int32) (S : St), k v S = some (r, S') → J K 6 [(0, .ref 0), (1, .int v.1), (2, .int v.2)] [] S) (he : ∀ (v : Int32 × Int32) (S : St), e v S = some (r, S') → J K 43 [(0, .ref 0), (1, .int v.1)] [] S) {S : St} (hf : f_X10_guides_37 x1 x2 k e S = some (r, S')) : J K 37 [(0, .ref 0), (1, .int x1), (2, .int x2)] [] S := by
  unfold f_X10_guides_37 at hf
  refine j_iinc hK (L' := [(2, .int (x2 + (1 : Int32))), (0, .ref 0), (1, .int x1)]) dX10_guides_37 2 rfl (congrArg (fun y => x2 + y) ic_1) (by decide) rfl ?_
  refine j_goto hK 6 dX10_guides_40 (by decide) ?_
  refine j_sub [1, 2, 0] rfl ?_
  exact hk _ _ hf
def f_X10_guides_6b (e : Int32 × Int32 → St → Option (Int32 × St)) (k : Int32 × Int32 → St → Option (Int32 × St)) (v : Int32 × Int32) (S : St) : Option (Int32 × St) := (if (255 : Int32) < v.2 then e (v.1, v.2) S else bd (f_J6_bitCount_0f7a4 v.2 S) (fun r1 S2 => bd (f_J6_bitCount_0f7a4 v.1 S2) (fun r4 S5 => (if r4 ≤ r1 then f_X10_guides_37 v.1 v.2 k e S5 else bd (f_X9_guarded v.2 S5) (fun r7 S8 => (if r7 = 0 then f_X10_guides_37 v.1 v.2 k e S8 else f_X10_guides_37 v.2 v.2 k e S8))))))
theorem t_X10_guides_6 {K : CT} (hK : KO K cX10_guides RX10 3 3 (some .int)) {r : Int32} {S' : St} (hA : zans K = (some (.int r), S')) {e : Int32 × Int32 → St → Option (Int32 × St)} (he : ∀ (v : Int32 × Int32) (S : St), e v S = some (r, S') → J K 43 [(0, .ref 0), (1, .int v.1)] [] S) : ∀ (n : Nat) (v : Int32 × Int32) (S : St), lp (f_X10_guides_6b  e) n v S = some (r, S') → J K 6 [(0, .ref 0), (1, .int v.1), (2, .int v.2)] [] S :=
  lp_J (P := fun (v : Int32 × Int32) (S : St) => J K 6 [(0, .ref 0), (1, .int v.1), (2, .int v.2)] [] S) (fun k hk v S hf => by
    unfold f_X10_guides_6b at hf
    refine j_iload_n hK dX10_guides_6 2 rfl rfl ?_
    refine j_sipush hK (255 : Int32) dX10_guides_7 si_255 ?_
    refine j_icmp_gt hK 43 dX10_guides_10 (by decide) (fun hc => ?_) (fun hc => ?_)
    · replace hf := if_1 hc hf
      refine j_sub [0, 1] rfl ?_
      exact he _ _ hf
    · replace hf := if_2 hc hf
      refine j_iload_n hK dX10_guides_13 2 rfl rfl ?_
      obtain ⟨r1, S2, h3, hf⟩ := bd_J hf
      refine k_callSi hK (c_J6_bitCount_0f7a4 h3) dX10_guides_14 ml_X10_263 ms_J6_bitCount_0f7a4 in_J6 mc_J6_bitCount_0f7a4 hy_J6_bitCount_0f7a4 ⟨by decide, by decide⟩ rfl (Nat.le_of_ble_eq_true rfl) ?_
      refine j_iload_n hK dX10_guides_17 1 rfl rfl ?_
      obtain ⟨r4, S5, h6, hf⟩ := bd_J hf
      refine k_callSi hK (c_J6_bitCount_0f7a4 h6) dX10_guides_18 ml_X10_263 ms_J6_bitCount_0f7a4 in_J6 mc_J6_bitCount_0f7a4 hy_J6_bitCount_0f7a4 ⟨by decide, by decide⟩ rfl (Nat.le_of_ble_eq_true rfl) ?_
      refine j_icmp_ge hK 37 dX10_guides_21 (by decide) (fun hc => ?_) (fun hc => ?_)
      · replace hf := if_1 hc hf
        exact t_X10_guides_37 hK hA hk he hf
      · replace hf := if_2 hc hf
        refine j_aload_n hK dX10_guides_24 0 rfl rfl ?_
        refine j_getR hK fl_X10_49 dX10_guides_25 zo_0 zf_10_5 zr_0_5 ?_
        refine j_iload_n hK dX10_guides_28 2 rfl rfl ?_
        obtain ⟨r7, S8, h9, hf⟩ := bd_J hf
        refine k_callVi hK (c_X9_guarded h9) dX10_guides_29 zclX9 zo_98 ml_X10_333 mi_X9_guarded mx_X9_guarded in_X9 mc_X9_guarded hy_X9_guarded ⟨by decide, by decide⟩ rfl (Nat.le_of_ble_eq_true rfl) ?_
        refine j_if_eq hK 37 dX10_guides_32 (by decide) (fun hc => ?_) (fun hc => ?_)
        · replace hf := if_1 hc hf
          exact t_X10_guides_37 hK hA hk he hf
        · replace hf := if_2 hc hf
          refine j_iload_n hK dX10_guides_35 2 rfl rfl ?_
          refine j_istore_n hK (L' := [(1, .int v.2), (0, .ref 0), (2, .int v.2)]) dX10_guides_36 rfl (by decide) rfl ?_
          refine j_sub [1, 0, 2] rfl ?_
          exact t_X10_guides_37 hK hA hk he hf)
def f_X10_guides (S : St) : Option (Int32 × St) := lp (f_X10_guides_6b  (fun v10 S11 => bd (f_X5_begin S11) (fun r12 S13 => bd (f_X5_put v10.1.toInt64 S13) (fun r15 S16 => bd (f_J6_bitCount_0f7a4 v10.1 S16) (fun r18 S19 => some (r18, S19)))))) FU ((255 : Int32), (0 : Int32)) S
theorem c_X10_guides {S : St} {r : Int32} {S' : St} (hf : f_X10_guides S = some (r, S')) : zM yX10_guides cX10_guides 3 3 (some .int) [.ref 0] S (some (.int r)) S' := by
  refine zM_of (zpl (by decide)) (Nat.le_of_ble_eq_true rfl) rfl (fun K hK hA => ?_)
  unfold f_X10_guides at hf
  refine j_sipush hK (255 : Int32) dX10_guides_0 si_255 ?_
  refine j_istore_n hK (L' := [(1, .int (255 : Int32)), (0, .ref 0)]) dX10_guides_3 rfl (by decide) rfl ?_
  refine j_iconst hK (0 : Int32) dX10_guides_4 ic_0 ?_
  refine j_istore_n hK (L' := [(2, .int (0 : Int32)), (1, .int (255 : Int32)), (0, .ref 0)]) dX10_guides_5 rfl (by decide) rfl ?_
  refine j_sub [2, 1, 0] rfl ?_
  refine t_X10_guides_6 hK hA  (fun v10 S11 hf => ?_) _ _ _ hf
  refine j_aload_n hK dX10_guides_43 0 rfl rfl ?_
  refine j_getR hK fl_X10_26 dX10_guides_44 zo_0 zf_10_2 zr_0_2 ?_
  obtain ⟨r12, S13, h14, hf⟩ := bd_J hf
  refine k_callVv hK (c_X5_begin h14) dX10_guides_47 zclX5 zo_10 ml_X10_185 mi_X5_begin mx_X5_begin in_X5 mc_X5_begin hy_X5_begin ⟨by decide, by decide⟩ rfl (Nat.le_of_ble_eq_true rfl) ?_
  refine j_aload_n hK dX10_guides_50 0 rfl rfl ?_
  refine j_getR hK fl_X10_26 dX10_guides_51 zo_0 zf_10_2 zr_0_2 ?_
  refine j_iload_n hK dX10_guides_54 1 rfl rfl ?_
  refine j_i2l hK dX10_guides_55 ?_
  refine j_pc (pc' := 56) rfl ?_
  obtain ⟨r15, S16, h17, hf⟩ := bd_J hf
  refine k_callVv hK (c_X5_put h17) dX10_guides_56 zclX5 zo_10 ml_X10_191 mi_X5_put mx_X5_put in_X5 mc_X5_put hy_X5_put ⟨by decide, by decide⟩ rfl (Nat.le_of_ble_eq_true rfl) ?_
  refine j_iload_n hK dX10_guides_59 1 rfl rfl ?_
  obtain ⟨r18, S19, h20, hf⟩ := bd_J hf
  refine k_callSi hK (c_J6_bitCount_0f7a4 h20) dX10_guides_60 ml_X10_263 ms_J6_bitCount_0f7a4 in_J6 mc_J6_bitCount_0f7a4 hy_J6_bitCount_0f7a4 ⟨by decide, by decide⟩ rfl (Nat.le_of_ble_eq_true rfl) ?_
  exact j_iret hK dX10_guides_63 rfl (rt_I hA hf)
def f_X10_told (p1 : Int32) (p2 : Int32) (S : St) : Option (Int32 × St) := bd (f_X1_add p1 p2 S) (fun r1 S2 => (if r1 = 0 then some ((-1 : Int32), S2) else some ((gI S2 101 3), S2)))
theorem c_X10_told {p1 : Int32} {p2 : Int32} {S : St} {r : Int32} {S' : St} (hf : f_X10_told p1 p2 S = some (r, S')) : zM yX10_told cX10_told 3 2 (some .int) [.ref 0, .int p1, .int p2] S (some (.int r)) S' := by
  refine zM_of (zpl (by decide)) (Nat.le_of_ble_eq_true rfl) rfl (fun K hK hA => ?_)
  unfold f_X10_told at hf
  refine j_aload_n hK dX10_told_0 0 rfl rfl ?_
  refine j_getR hK fl_X10_56 dX10_told_1 zo_0 zf_10_6 zr_0_6 ?_
  refine j_iload_n hK dX10_told_4 1 rfl rfl ?_
  refine j_iload_n hK dX10_told_5 2 rfl rfl ?_
  obtain ⟨r1, S2, h3, hf⟩ := bd_J hf
  refine k_callVi hK (c_X1_add h3) dX10_told_6 zclX1 zo_101 ml_X10_340 mi_X1_add mx_X1_add in_X1 mc_X1_add hy_X1_add ⟨by decide, by decide⟩ rfl (Nat.le_of_ble_eq_true rfl) ?_
  refine j_if_eq hK 22 dX10_told_9 (by decide) (fun hc => ?_) (fun hc => ?_)
  · replace hf := if_1 hc hf
    refine j_iconst hK (-1 : Int32) dX10_told_22 ic_m1 ?_
    exact j_iret hK dX10_told_23 rfl (rt_I hA hf)
  · replace hf := if_2 hc hf
    refine j_aload_n hK dX10_told_12 0 rfl rfl ?_
    refine j_getR hK fl_X10_56 dX10_told_13 zo_0 zf_10_6 zr_0_6 ?_
    refine j_getI hK fl_X10_342 dX10_told_16 zo_101 zf_1_3 ?_
    refine j_goto hK 23 dX10_told_19 (by decide) ?_
    exact j_iret hK dX10_told_23 rfl (rt_I hA hf)
def f_X10_forget (S : St) : Option (Int32 × St) := lt (gI S 101 3) (fun y1 => lt (sI S 101 3 (0 : Int32)) (fun S2 => some (y1, S2)))
theorem c_X10_forget {S : St} {r : Int32} {S' : St} (hf : f_X10_forget S = some (r, S')) : zM yX10_forget cX10_forget 2 1 (some .int) [.ref 0] S (some (.int r)) S' := by
  refine zM_of (zpl (by decide)) (Nat.le_of_ble_eq_true rfl) rfl (fun K hK hA => ?_)
  unfold f_X10_forget at hf
  refine j_aload_n hK dX10_forget_0 0 rfl rfl ?_
  refine j_getR hK fl_X10_56 dX10_forget_1 zo_0 zf_10_6 zr_0_6 ?_
  refine j_getI hK fl_X10_342 dX10_forget_4 zo_101 zf_1_3 ?_
  refine lt_I hf (fun y1 hf => ?_)
  refine j_istore_n hK (L' := [(1, .int y1), (0, .ref 0)]) dX10_forget_7 rfl (by decide) rfl ?_
  refine j_aload_n hK dX10_forget_8 1 rfl rfl ?_
  refine j_getR hK fl_X10_56 dX10_forget_9 zo_0 zf_10_6 zr_0_6 ?_
  refine j_iconst hK (0 : Int32) dX10_forget_12 ic_0 ?_
  refine j_putI hK fl_X10_342 dX10_forget_13 zo_101 zf_1_3 ?_
  refine lt_S hf (fun S2 hf => ?_)
  refine j_pc (pc' := 16) rfl ?_
  refine j_iload_n hK dX10_forget_16 0 rfl rfl ?_
  exact j_iret hK dX10_forget_17 rfl (rt_I hA hf)
def f_X10_fits (S : St) : Option (Int32 × St) := bd (f_X1_fittingPassages S) (fun r1 S2 => bd (f_X5_begin S2) (fun r4 S5 => bd (f_J6_bitCount_0f7a4 r1 S5) (fun r7 S8 => bd (f_X5_put r7.toInt64 S8) (fun r10 S11 => some (r1, S11)))))
theorem c_X10_fits {S : St} {r : Int32} {S' : St} (hf : f_X10_fits S = some (r, S')) : zM yX10_fits cX10_fits 2 5 (some .int) [.ref 0] S (some (.int r)) S' := by
  refine zM_of (zpl (by decide)) (Nat.le_of_ble_eq_true rfl) rfl (fun K hK hA => ?_)
  unfold f_X10_fits at hf
  refine j_aload_n hK dX10_fits_0 0 rfl rfl ?_
  refine j_getR hK fl_X10_56 dX10_fits_1 zo_0 zf_10_6 zr_0_6 ?_
  obtain ⟨r1, S2, h3, hf⟩ := bd_J hf
  refine k_callVi hK (c_X1_fittingPassages h3) dX10_fits_4 zclX1 zo_101 ml_X10_343 mi_X1_fittingPassages mx_X1_fittingPassages in_X1 mc_X1_fittingPassages hy_X1_fittingPassages ⟨by decide, by decide⟩ rfl (Nat.le_of_ble_eq_true rfl) ?_
  refine j_istore_n hK (L' := [(1, .int r1), (0, .ref 0)]) dX10_fits_7 rfl (by decide) rfl ?_
  refine j_aload_n hK dX10_fits_8 1 rfl rfl ?_
  refine j_getR hK fl_X10_26 dX10_fits_9 zo_0 zf_10_2 zr_0_2 ?_
  obtain ⟨r4, S5, h6, hf⟩ := bd_J hf
  refine k_callVv hK (c_X5_begin h6) dX10_fits_12 zclX5 zo_10 ml_X10_185 mi_X5_begin mx_X5_begin in_X5 mc_X5_begin hy_X5_begin ⟨by decide, by decide⟩ rfl (Nat.le_of_ble_eq_true rfl) ?_
  refine j_aload_n hK dX10_fits_15 1 rfl rfl ?_
  refine j_pc (pc' := 16) rfl ?_
  refine j_getR hK fl_X10_26 dX10_fits_16 zo_0 zf_10_2 zr_0_2 ?_
  refine j_iload_n hK dX10_fits_19 0 rfl rfl ?_
  obtain ⟨r7, S8, h9, hf⟩ := bd_J hf
  refine k_callSi hK (c_J6_bitCount_0f7a4 h9) dX10_fits_20 ml_X10_263 ms_J6_bitCount_0f7a4 in_J6 mc_J6_bitCount_0f7a4 hy_J6_bitCount_0f7a4 ⟨by decide, by decide⟩ rfl (Nat.le_of_ble_eq_true rfl) ?_
  refine j_i2l hK dX10_fits_23 ?_
  obtain ⟨r10, S11, h12, hf⟩ := bd_J hf
  refine k_callVv hK (c_X5_put h12) dX10_fits_24 zclX5 zo_10 ml_X10_191 mi_X5_put mx_X5_put in_X5 mc_X5_put hy_X5_put ⟨by decide, by decide⟩ rfl (Nat.le_of_ble_eq_true rfl) ?_
  refine j_iload_n hK dX10_fits_27 0 rfl rfl ?_
  exact j_iret hK dX10_fits_28 rfl (rt_I hA hf)
def f_X10_next_72 (x1 : Int32) (x2 : Int32) (x3 : Int32) (x4 : Int32) (k e : Int32 × Int32 × Int32 → St → Option (Int32 × St)) (S : St) : Option (Int32 × St) := k (x2, x3, (x4 + (1 : Int32))) S
theorem t_X10_next_72 {K : CT} (hK : KO K cX10_next RX10 7 5 (some .int)) {r : Int32} {S' : St} (hA : zans K = (some (.int r), S')) {x1 : Int32} {x2 : Int32} {x3 : Int32} {x4 : Int32} {k e : Int32 × Int32 × Int32 → St → Option (Int32 × St)} (hk : ∀ (v : Int32 × Int32 × Int32) (S : St), k v S = some (r, S') → J K 23 [(0, .ref 0), (1, .int x1), (2, .int v.1), (3, .int v.2.1), (4, .int v.2.2)] [] S) (he : ∀ (v : Int32 × Int32 × Int32) (S : St), e v S = some (r, S') → J K 78 [(0, .ref 0), (2, .int v.1), (3, .int v.2.1)] [] S) {S : St} (hf : f_X10_next_72 x1 x2 x3 x4 k e S = some (r, S')) : J K 72 [(0, .ref 0), (1, .int x1), (2, .int x2), (3, .int x3), (4, .int x4)] [] S := by
  unfold f_X10_next_72 at hf
  refine j_iinc hK (L' := [(4, .int (x4 + (1 : Int32))), (0, .ref 0), (1, .int x1), (2, .int x2), (3, .int x3)]) dX10_next_72 4 rfl (congrArg (fun y => x4 + y) ic_1) (by decide) rfl ?_
  refine j_goto hK 23 dX10_next_75 (by decide) ?_
  refine j_sub [1, 2, 3, 4, 0] rfl ?_
  exact hk _ _ hf
def f_X10_next_23b (x1 : Int32) (e : Int32 × Int32 × Int32 → St → Option (Int32 × St)) (k : Int32 × Int32 × Int32 → St → Option (Int32 × St)) (v : Int32 × Int32 × Int32) (S : St) : Option (Int32 × St) := (if (8 : Int32) ≤ v.2.2 then e (v.1, v.2.1, v.2.2) S else bd (f_X0_endingAt v.2.2 S) (fun r1 S2 => bd (f_J6_bitCount_0f7a4 (x1 &&& r1) S2) (fun r4 S5 => bd (f_J6_bitCount_0f7a4 x1 S5) (fun r7 S8 => lt (mxI r4 (r7 - r4)) (fun y10 => (if v.2.1 ≤ y10 then f_X10_next_72 x1 v.1 v.2.1 v.2.2 k e S8 else f_X10_next_72 x1 v.2.2 y10 v.2.2 k e S8))))))
theorem t_X10_next_23 {K : CT} (hK : KO K cX10_next RX10 7 5 (some .int)) {r : Int32} {S' : St} (hA : zans K = (some (.int r), S')) {x1 : Int32} {e : Int32 × Int32 × Int32 → St → Option (Int32 × St)} (he : ∀ (v : Int32 × Int32 × Int32) (S : St), e v S = some (r, S') → J K 78 [(0, .ref 0), (2, .int v.1), (3, .int v.2.1)] [] S) : ∀ (n : Nat) (v : Int32 × Int32 × Int32) (S : St), lp (f_X10_next_23b x1 e) n v S = some (r, S') → J K 23 [(0, .ref 0), (1, .int x1), (2, .int v.1), (3, .int v.2.1), (4, .int v.2.2)] [] S :=
  lp_J (P := fun (v : Int32 × Int32 × Int32) (S : St) => J K 23 [(0, .ref 0), (1, .int x1), (2, .int v.1), (3, .int v.2.1), (4, .int v.2.2)] [] S) (fun k hk v S hf => by
    unfold f_X10_next_23b at hf
    refine j_iload hK dX10_next_23 4 rfl ?_
    refine j_bipush hK (8 : Int32) dX10_next_25 bi_8 ?_
    refine j_icmp_ge hK 78 dX10_next_27 (by decide) (fun hc => ?_) (fun hc => ?_)
    · replace hf := if_1 hc hf
      refine j_sub [0, 2, 3] rfl ?_
      exact he _ _ hf
    · replace hf := if_2 hc hf
      refine j_iload_n hK dX10_next_30 1 rfl rfl ?_
      refine j_aload_n hK dX10_next_31 0 rfl rfl ?_
      refine j_getR hK fl_X10_19 dX10_next_32 zo_0 zf_10_1 zr_0_1 ?_
      refine j_iload hK dX10_next_35 4 rfl ?_
      obtain ⟨r1, S2, h3, hf⟩ := bd_J hf
      refine k_callVi hK (c_X0_endingAt h3) dX10_next_37 zclX0 zo_3 ml_X10_346 mi_X0_endingAt mx_X0_endingAt in_X0 mc_X0_endingAt hy_X0_endingAt ⟨by decide, by decide⟩ rfl (Nat.le_of_ble_eq_true rfl) ?_
      refine j_iand hK dX10_next_40 ?_
      obtain ⟨r4, S5, h6, hf⟩ := bd_J hf
      refine k_callSi hK (c_J6_bitCount_0f7a4 h6) dX10_next_41 ml_X10_263 ms_J6_bitCount_0f7a4 in_J6 mc_J6_bitCount_0f7a4 hy_J6_bitCount_0f7a4 ⟨by decide, by decide⟩ rfl (Nat.le_of_ble_eq_true rfl) ?_
      refine j_pc (pc' := 44) rfl ?_
      refine j_istore hK (L' := [(5, .int r4), (0, .ref 0), (1, .int x1), (2, .int v.1), (3, .int v.2.1), (4, .int v.2.2)]) dX10_next_44 (by decide) rfl ?_
      refine j_iload hK dX10_next_46 0 rfl ?_
      refine j_iload_n hK dX10_next_48 2 rfl rfl ?_
      obtain ⟨r7, S8, h9, hf⟩ := bd_J hf
      refine k_callSi hK (c_J6_bitCount_0f7a4 h9) dX10_next_49 ml_X10_263 ms_J6_bitCount_0f7a4 in_J6 mc_J6_bitCount_0f7a4 hy_J6_bitCount_0f7a4 ⟨by decide, by decide⟩ rfl (Nat.le_of_ble_eq_true rfl) ?_
      refine j_iload hK dX10_next_52 0 rfl ?_
      refine j_isub hK dX10_next_54 ?_
      refine j_max hK ml_X10_175 dX10_next_55 (by decide) (Nat.le_of_ble_eq_true rfl) ?_
      refine lt_I hf (fun y10 hf => ?_)
      refine j_istore hK (L' := [(6, .int y10), (5, .int r4), (0, .ref 0), (1, .int x1), (2, .int v.1), (3, .int v.2.1), (4, .int v.2.2)]) dX10_next_58 (by decide) rfl ?_
      refine j_pc (pc' := 60) rfl ?_
      refine j_iload hK dX10_next_60 0 rfl ?_
      refine j_iload_n hK dX10_next_62 5 rfl rfl ?_
      refine j_icmp_ge hK 72 dX10_next_63 (by decide) (fun hc => ?_) (fun hc => ?_)
      · replace hf := if_1 hc hf
        refine j_sub [2, 3, 4, 5, 6] rfl ?_
        exact t_X10_next_72 hK hA hk he hf
      · replace hf := if_2 hc hf
        refine j_iload hK dX10_next_66 6 rfl ?_
        refine j_istore_n hK (L' := [(2, .int v.2.2), (6, .int y10), (5, .int r4), (0, .ref 0), (1, .int x1), (3, .int v.2.1), (4, .int v.2.2)]) dX10_next_68 rfl (by decide) rfl ?_
        refine j_iload hK dX10_next_69 1 rfl ?_
        refine j_istore_n hK (L' := [(3, .int y10), (2, .int v.2.2), (6, .int y10), (5, .int r4), (0, .ref 0), (1, .int x1), (4, .int v.2.2)]) dX10_next_71 rfl (by decide) rfl ?_
        refine j_sub [4, 5, 1, 0, 6] rfl ?_
        exact t_X10_next_72 hK hA hk he hf)
def f_X10_next (S : St) : Option (Int32 × St) := bd (f_X1_fittingPassages S) (fun r11 S12 => (if r11 = 0 then some ((-2 : Int32), S12) else lp (f_X10_next_23b r11 (fun v14 S15 => bd (f_X5_begin S15) (fun r16 S17 => bd (f_X5_put v14.2.1.toInt64 S17) (fun r19 S20 => some (v14.1, S20))))) FU ((-1 : Int32), (13 : Int32), (0 : Int32)) S12))
theorem c_X10_next {S : St} {r : Int32} {S' : St} (hf : f_X10_next S = some (r, S')) : zM yX10_next cX10_next 7 5 (some .int) [.ref 0] S (some (.int r)) S' := by
  refine zM_of (zpl (by decide)) (Nat.le_of_ble_eq_true rfl) rfl (fun K hK hA => ?_)
  unfold f_X10_next at hf
  refine j_aload_n hK dX10_next_0 0 rfl rfl ?_
  refine j_getR hK fl_X10_56 dX10_next_1 zo_0 zf_10_6 zr_0_6 ?_
  obtain ⟨r11, S12, h13, hf⟩ := bd_J hf
  refine k_callVi hK (c_X1_fittingPassages h13) dX10_next_4 zclX1 zo_101 ml_X10_343 mi_X1_fittingPassages mx_X1_fittingPassages in_X1 mc_X1_fittingPassages hy_X1_fittingPassages ⟨by decide, by decide⟩ rfl (Nat.le_of_ble_eq_true rfl) ?_
  refine j_istore_n hK (L' := [(1, .int r11), (0, .ref 0)]) dX10_next_7 rfl (by decide) rfl ?_
  refine j_iload_n hK dX10_next_8 0 rfl rfl ?_
  refine j_if_ne hK 15 dX10_next_9 (by decide) (fun hc => ?_) (fun hc => ?_)
  · replace hf := if_2 hc hf
    refine j_iconst hK (-1 : Int32) dX10_next_15 ic_m1 ?_
    refine j_istore_n hK (L' := [(2, .int (-1 : Int32)), (1, .int r11), (0, .ref 0)]) dX10_next_16 rfl (by decide) rfl ?_
    refine j_bipush hK (13 : Int32) dX10_next_17 bi_13 ?_
    refine j_istore_n hK (L' := [(3, .int (13 : Int32)), (2, .int (-1 : Int32)), (1, .int r11), (0, .ref 0)]) dX10_next_19 rfl (by decide) rfl ?_
    refine j_iconst hK (0 : Int32) dX10_next_20 ic_0 ?_
    refine j_istore hK (L' := [(4, .int (0 : Int32)), (3, .int (13 : Int32)), (2, .int (-1 : Int32)), (1, .int r11), (0, .ref 0)]) dX10_next_21 (by decide) rfl ?_
    refine j_sub [4, 3, 2, 1, 0] rfl ?_
    refine t_X10_next_23 hK hA  (fun v14 S15 hf => ?_) _ _ _ hf
    refine j_aload_n hK dX10_next_78 0 rfl rfl ?_
    refine j_getR hK fl_X10_26 dX10_next_79 zo_0 zf_10_2 zr_0_2 ?_
    obtain ⟨r16, S17, h18, hf⟩ := bd_J hf
    refine k_callVv hK (c_X5_begin h18) dX10_next_82 zclX5 zo_10 ml_X10_185 mi_X5_begin mx_X5_begin in_X5 mc_X5_begin hy_X5_begin ⟨by decide, by decide⟩ rfl (Nat.le_of_ble_eq_true rfl) ?_
    refine j_aload_n hK dX10_next_85 0 rfl rfl ?_
    refine j_getR hK fl_X10_26 dX10_next_86 zo_0 zf_10_2 zr_0_2 ?_
    refine j_iload_n hK dX10_next_89 2 rfl rfl ?_
    refine j_i2l hK dX10_next_90 ?_
    refine j_pc (pc' := 91) rfl ?_
    obtain ⟨r19, S20, h21, hf⟩ := bd_J hf
    refine k_callVv hK (c_X5_put h21) dX10_next_91 zclX5 zo_10 ml_X10_191 mi_X5_put mx_X5_put in_X5 mc_X5_put hy_X5_put ⟨by decide, by decide⟩ rfl (Nat.le_of_ble_eq_true rfl) ?_
    refine j_iload_n hK dX10_next_94 1 rfl rfl ?_
    exact j_iret hK dX10_next_95 rfl (rt_I hA hf)
  · replace hf := if_1 hc hf
    refine j_bipush hK (-2 : Int32) dX10_next_12 bi_m2 ?_
    exact j_iret hK dX10_next_14 rfl (rt_I hA hf)
def f_X10_isLetter (p0 : Int32) (S : St) : Option (Int32 × St) := (if p0 < 0 then some ((0 : Int32), S) else (if (8 : Int32) ≤ p0 then some ((0 : Int32), S) else some ((1 : Int32), S)))
theorem c_X10_isLetter {p0 : Int32} {S : St} {r : Int32} {S' : St} (hf : f_X10_isLetter p0 S = some (r, S')) : zM yX10_isLetter cX10_isLetter 1 1 (some .boolean) [.int p0] S (some (.int r)) S' := by
  refine zM_of (zpl (by decide)) (Nat.le_of_ble_eq_true rfl) rfl (fun K hK hA => ?_)
  unfold f_X10_isLetter at hf
  refine j_iload_n hK dX10_isLetter_0 0 rfl rfl ?_
  refine j_if_lt hK 14 dX10_isLetter_1 (by decide) (fun hc => ?_) (fun hc => ?_)
  · replace hf := if_1 hc hf
    refine j_iconst hK (0 : Int32) dX10_isLetter_14 ic_0 ?_
    exact j_zret hK dX10_isLetter_15 rfl rfl (rt_I hA hf)
  · replace hf := if_2 hc hf
    refine j_iload_n hK dX10_isLetter_4 0 rfl rfl ?_
    refine j_bipush hK (8 : Int32) dX10_isLetter_5 bi_8 ?_
    refine j_icmp_ge hK 14 dX10_isLetter_7 (by decide) (fun hc => ?_) (fun hc => ?_)
    · replace hf := if_1 hc hf
      refine j_iconst hK (0 : Int32) dX10_isLetter_14 ic_0 ?_
      exact j_zret hK dX10_isLetter_15 rfl rfl (rt_I hA hf)
    · replace hf := if_2 hc hf
      refine j_iconst hK (1 : Int32) dX10_isLetter_10 ic_1 ?_
      refine j_goto hK 15 dX10_isLetter_11 (by decide) ?_
      exact j_zret hK dX10_isLetter_15 rfl rfl (rt_I hA hf)
def f_X10_heard (p1 : Int32) (p2 : Int32) (p3 : Int32) (S : St) : Option (Int32 × St) := bd (f_X3_add p1 p2 p3 S) (fun r1 S2 => (if r1 = 0 then some ((-1 : Int32), S2) else some ((gI S2 104 3), S2)))
theorem c_X10_heard {p1 : Int32} {p2 : Int32} {p3 : Int32} {S : St} {r : Int32} {S' : St} (hf : f_X10_heard p1 p2 p3 S = some (r, S')) : zM yX10_heard cX10_heard 4 3 (some .int) [.ref 0, .int p1, .int p2, .int p3] S (some (.int r)) S' := by
  refine zM_of (zpl (by decide)) (Nat.le_of_ble_eq_true rfl) rfl (fun K hK hA => ?_)
  unfold f_X10_heard at hf
  refine j_aload_n hK dX10_heard_0 0 rfl rfl ?_
  refine j_getR hK fl_X10_63 dX10_heard_1 zo_0 zf_10_7 zr_0_7 ?_
  refine j_iload_n hK dX10_heard_4 1 rfl rfl ?_
  refine j_iload_n hK dX10_heard_5 2 rfl rfl ?_
  refine j_iload_n hK dX10_heard_6 3 rfl rfl ?_
  obtain ⟨r1, S2, h3, hf⟩ := bd_J hf
  refine k_callVi hK (c_X3_add h3) dX10_heard_7 zclX3 zo_104 ml_X10_349 mi_X3_add mx_X3_add in_X3 mc_X3_add hy_X3_add ⟨by decide, by decide⟩ rfl (Nat.le_of_ble_eq_true rfl) ?_
  refine j_if_eq hK 23 dX10_heard_10 (by decide) (fun hc => ?_) (fun hc => ?_)
  · replace hf := if_1 hc hf
    refine j_iconst hK (-1 : Int32) dX10_heard_23 ic_m1 ?_
    exact j_iret hK dX10_heard_24 rfl (rt_I hA hf)
  · replace hf := if_2 hc hf
    refine j_aload_n hK dX10_heard_13 0 rfl rfl ?_
    refine j_getR hK fl_X10_63 dX10_heard_14 zo_0 zf_10_7 zr_0_7 ?_
    refine j_getI hK fl_X10_352 dX10_heard_17 zo_104 zf_3_3 ?_
    refine j_goto hK 24 dX10_heard_20 (by decide) ?_
    exact j_iret hK dX10_heard_24 rfl (rt_I hA hf)
def f_X10_denied (S : St) : Option (Int32 × St) := lt (gI S 104 3) (fun y1 => lt (sI S 104 3 (0 : Int32)) (fun S2 => some (y1, S2)))
theorem c_X10_denied {S : St} {r : Int32} {S' : St} (hf : f_X10_denied S = some (r, S')) : zM yX10_denied cX10_denied 2 1 (some .int) [.ref 0] S (some (.int r)) S' := by
  refine zM_of (zpl (by decide)) (Nat.le_of_ble_eq_true rfl) rfl (fun K hK hA => ?_)
  unfold f_X10_denied at hf
  refine j_aload_n hK dX10_denied_0 0 rfl rfl ?_
  refine j_getR hK fl_X10_63 dX10_denied_1 zo_0 zf_10_7 zr_0_7 ?_
  refine j_getI hK fl_X10_352 dX10_denied_4 zo_104 zf_3_3 ?_
  refine lt_I hf (fun y1 hf => ?_)
  refine j_istore_n hK (L' := [(1, .int y1), (0, .ref 0)]) dX10_denied_7 rfl (by decide) rfl ?_
  refine j_aload_n hK dX10_denied_8 1 rfl rfl ?_
  refine j_getR hK fl_X10_63 dX10_denied_9 zo_0 zf_10_7 zr_0_7 ?_
  refine j_iconst hK (0 : Int32) dX10_denied_12 ic_0 ?_
  refine j_putI hK fl_X10_352 dX10_denied_13 zo_104 zf_3_3 ?_
  refine lt_S hf (fun S2 hf => ?_)
  refine j_pc (pc' := 16) rfl ?_
  refine j_iload_n hK dX10_denied_16 0 rfl rfl ?_
  exact j_iret hK dX10_denied_17 rfl (rt_I hA hf)
def f_X10_laws_64 (S : St) : Option (Int32 × St) := some ((gI S 104 5), S)
theorem t_X10_laws_64 {K : CT} (hK : KO K cX10_laws RX10 1 4 (some .int)) {r : Int32} {S' : St} (hA : zans K = (some (.int r), S')) {S : St} (hf : f_X10_laws_64  S = some (r, S')) : J K 64 [(0, .ref 0)] [] S := by
  unfold f_X10_laws_64 at hf
  refine j_aload_n hK dX10_laws_64 0 rfl rfl ?_
  refine j_getR hK fl_X10_63 dX10_laws_65 zo_0 zf_10_7 zr_0_7 ?_
  refine j_getI hK fl_X10_356 dX10_laws_68 zo_104 zf_3_5 ?_
  exact j_iret hK dX10_laws_71 rfl (rt_I hA hf)
def f_X10_laws (S : St) : Option (Int32 × St) := bd (f_X3_findFitting S) (fun r1 S2 => bd (f_X5_begin S2) (fun r4 S5 => (if (gI S5 104 5) ≤ 0 then f_X10_laws_64  S5 else bd (f_X5_put ((gI S5 108 0) / (8 : Int32)).toInt64 S5) (fun r7 S8 => bd (f_X5_put ((gI S8 108 0) - (gI S8 108 0) / (8 : Int32) * (8 : Int32)).toInt64 S8) (fun r10 S11 => f_X10_laws_64  S11)))))
theorem c_X10_laws {S : St} {r : Int32} {S' : St} (hf : f_X10_laws S = some (r, S')) : zM yX10_laws cX10_laws 1 4 (some .int) [.ref 0] S (some (.int r)) S' := by
  refine zM_of (zpl (by decide)) (Nat.le_of_ble_eq_true rfl) rfl (fun K hK hA => ?_)
  unfold f_X10_laws at hf
  refine j_aload_n hK dX10_laws_0 0 rfl rfl ?_
  refine j_getR hK fl_X10_63 dX10_laws_1 zo_0 zf_10_7 zr_0_7 ?_
  obtain ⟨r1, S2, h3, hf⟩ := bd_J hf
  refine k_callVv hK (c_X3_findFitting h3) dX10_laws_4 zclX3 zo_104 ml_X10_353 mi_X3_findFitting mx_X3_findFitting in_X3 mc_X3_findFitting hy_X3_findFitting ⟨by decide, by decide⟩ rfl (Nat.le_of_ble_eq_true rfl) ?_
  refine j_aload_n hK dX10_laws_7 0 rfl rfl ?_
  refine j_getR hK fl_X10_26 dX10_laws_8 zo_0 zf_10_2 zr_0_2 ?_
  obtain ⟨r4, S5, h6, hf⟩ := bd_J hf
  refine k_callVv hK (c_X5_begin h6) dX10_laws_11 zclX5 zo_10 ml_X10_185 mi_X5_begin mx_X5_begin in_X5 mc_X5_begin hy_X5_begin ⟨by decide, by decide⟩ rfl (Nat.le_of_ble_eq_true rfl) ?_
  refine j_aload_n hK dX10_laws_14 0 rfl rfl ?_
  refine j_getR hK fl_X10_63 dX10_laws_15 zo_0 zf_10_7 zr_0_7 ?_
  refine j_pc (pc' := 18) rfl ?_
  refine j_getI hK fl_X10_356 dX10_laws_18 zo_104 zf_3_5 ?_
  refine j_if_le hK 64 dX10_laws_21 (by decide) (fun hc => ?_) (fun hc => ?_)
  · replace hf := if_1 hc hf
    exact t_X10_laws_64 hK hA  hf
  · replace hf := if_2 hc hf
    refine j_aload_n hK dX10_laws_24 0 rfl rfl ?_
    refine j_getR hK fl_X10_26 dX10_laws_25 zo_0 zf_10_2 zr_0_2 ?_
    refine j_aload_n hK dX10_laws_28 0 rfl rfl ?_
    refine j_getR hK fl_X10_63 dX10_laws_29 zo_0 zf_10_7 zr_0_7 ?_
    refine j_getR hK fl_X10_359 dX10_laws_32 zo_104 zf_3_4 zr_104_4 ?_
    refine j_iconst hK (0 : Int32) dX10_laws_35 ic_0 ?_
    refine k_iald hK dX10_laws_36 zb_108 (by decide) tn_0 ?_
    refine j_pc (pc' := 37) rfl ?_
    refine j_bipush hK (8 : Int32) dX10_laws_37 bi_8 ?_
    refine j_idiv hK dX10_laws_39 (by decide) ?_
    refine j_i2l hK dX10_laws_40 ?_
    obtain ⟨r7, S8, h9, hf⟩ := bd_J hf
    refine k_callVv hK (c_X5_put h9) dX10_laws_41 zclX5 zo_10 ml_X10_191 mi_X5_put mx_X5_put in_X5 mc_X5_put hy_X5_put ⟨by decide, by decide⟩ rfl (Nat.le_of_ble_eq_true rfl) ?_
    refine j_aload_n hK dX10_laws_44 0 rfl rfl ?_
    refine j_getR hK fl_X10_26 dX10_laws_45 zo_0 zf_10_2 zr_0_2 ?_
    refine j_aload_n hK dX10_laws_48 0 rfl rfl ?_
    refine j_getR hK fl_X10_63 dX10_laws_49 zo_0 zf_10_7 zr_0_7 ?_
    refine j_pc (pc' := 52) rfl ?_
    refine j_getR hK fl_X10_359 dX10_laws_52 zo_104 zf_3_4 zr_104_4 ?_
    refine j_iconst hK (0 : Int32) dX10_laws_55 ic_0 ?_
    refine k_iald hK dX10_laws_56 zb_108 (by decide) tn_0 ?_
    refine j_bipush hK (8 : Int32) dX10_laws_57 bi_8 ?_
    refine j_irem hK dX10_laws_59 (by decide) ?_
    refine j_i2l hK dX10_laws_60 ?_
    obtain ⟨r10, S11, h12, hf⟩ := bd_J hf
    refine k_callVv hK (c_X5_put h12) dX10_laws_61 zclX5 zo_10 ml_X10_191 mi_X5_put mx_X5_put in_X5 mc_X5_put hy_X5_put ⟨by decide, by decide⟩ rfl (Nat.le_of_ble_eq_true rfl) ?_
    exact t_X10_laws_64 hK hA  hf
def f_X10_listens_72 (x1 : Int32) (x2 : Int32) (x3 : Int32) (x4 : Int32) (k e : Int32 × Int32 × Int32 → St → Option (Int32 × St)) (S : St) : Option (Int32 × St) := k (x1, x2, (x4 + (1 : Int32))) S
theorem t_X10_listens_72 {K : CT} (hK : KO K cX10_listens RX10 6 4 (some .int)) {r : Int32} {S' : St} (hA : zans K = (some (.int r), S')) {x1 : Int32} {x2 : Int32} {x3 : Int32} {x4 : Int32} {k e : Int32 × Int32 × Int32 → St → Option (Int32 × St)} (hk : ∀ (v : Int32 × Int32 × Int32) (S : St), k v S = some (r, S') → J K 36 [(0, .ref 0), (1, .int v.1), (2, .int v.2.1), (3, .int x3), (4, .int v.2.2)] [] S) (he : ∀ (v : Int32 × Int32 × Int32) (S : St), e v S = some (r, S') → J K 78 [(0, .ref 0), (1, .int v.1), (2, .int v.2.1), (3, .int x3)] [] S) {S : St} (hf : f_X10_listens_72 x1 x2 x3 x4 k e S = some (r, S')) : J K 72 [(0, .ref 0), (1, .int x1), (2, .int x2), (3, .int x3), (4, .int x4)] [] S := by
  unfold f_X10_listens_72 at hf
  refine j_iinc hK (L' := [(4, .int (x4 + (1 : Int32))), (0, .ref 0), (1, .int x1), (2, .int x2), (3, .int x3)]) dX10_listens_72 4 rfl (congrArg (fun y => x4 + y) ic_1) (by decide) rfl ?_
  refine j_goto hK 36 dX10_listens_75 (by decide) ?_
  refine j_sub [1, 2, 3, 4, 0] rfl ?_
  exact hk _ _ hf
def f_X10_listens_36b (x3 : Int32) (e : Int32 × Int32 × Int32 → St → Option (Int32 × St)) (k : Int32 × Int32 × Int32 → St → Option (Int32 × St)) (v : Int32 × Int32 × Int32) (S : St) : Option (Int32 × St) := (if (9 : Int32) < v.2.2 then e (v.1, v.2.1, v.2.2) S else bd (f_X3_mostLeft x3 v.2.2 S) (fun r1 S2 => (if v.2.1 ≤ r1 then f_X10_listens_72 v.1 v.2.1 x3 v.2.2 k e S2 else lt (((10 : Int32) * x3) + v.2.2) (fun y4 => f_X10_listens_72 y4 r1 x3 v.2.2 k e S2))))
theorem t_X10_listens_36 {K : CT} (hK : KO K cX10_listens RX10 6 4 (some .int)) {r : Int32} {S' : St} (hA : zans K = (some (.int r), S')) {x3 : Int32} {e : Int32 × Int32 × Int32 → St → Option (Int32 × St)} (he : ∀ (v : Int32 × Int32 × Int32) (S : St), e v S = some (r, S') → J K 78 [(0, .ref 0), (1, .int v.1), (2, .int v.2.1), (3, .int x3)] [] S) : ∀ (n : Nat) (v : Int32 × Int32 × Int32) (S : St), lp (f_X10_listens_36b x3 e) n v S = some (r, S') → J K 36 [(0, .ref 0), (1, .int v.1), (2, .int v.2.1), (3, .int x3), (4, .int v.2.2)] [] S :=
  lp_J (P := fun (v : Int32 × Int32 × Int32) (S : St) => J K 36 [(0, .ref 0), (1, .int v.1), (2, .int v.2.1), (3, .int x3), (4, .int v.2.2)] [] S) (fun k hk v S hf => by
    unfold f_X10_listens_36b at hf
    refine j_iload hK dX10_listens_36 4 rfl ?_
    refine j_bipush hK (9 : Int32) dX10_listens_38 bi_9 ?_
    refine j_icmp_gt hK 78 dX10_listens_40 (by decide) (fun hc => ?_) (fun hc => ?_)
    · replace hf := if_1 hc hf
      refine j_sub [0, 1, 2, 3] rfl ?_
      exact he _ _ hf
    · replace hf := if_2 hc hf
      refine j_aload_n hK dX10_listens_43 0 rfl rfl ?_
      refine j_getR hK fl_X10_63 dX10_listens_44 zo_0 zf_10_7 zr_0_7 ?_
      refine j_iload_n hK dX10_listens_47 3 rfl rfl ?_
      refine j_iload hK dX10_listens_48 4 rfl ?_
      obtain ⟨r1, S2, h3, hf⟩ := bd_J hf
      refine k_callVi hK (c_X3_mostLeft h3) dX10_listens_50 zclX3 zo_104 ml_X10_362 mi_X3_mostLeft mx_X3_mostLeft in_X3 mc_X3_mostLeft hy_X3_mostLeft ⟨by decide, by decide⟩ rfl (Nat.le_of_ble_eq_true rfl) ?_
      refine j_istore hK (L' := [(5, .int r1), (0, .ref 0), (1, .int v.1), (2, .int v.2.1), (3, .int x3), (4, .int v.2.2)]) dX10_listens_53 (by decide) rfl ?_
      refine j_iload hK dX10_listens_55 0 rfl ?_
      refine j_pc (pc' := 57) rfl ?_
      refine j_iload_n hK dX10_listens_57 3 rfl rfl ?_
      refine j_icmp_ge hK 72 dX10_listens_58 (by decide) (fun hc => ?_) (fun hc => ?_)
      · replace hf := if_1 hc hf
        refine j_sub [1, 2, 3, 4, 5] rfl ?_
        exact t_X10_listens_72 hK hA hk he hf
      · replace hf := if_2 hc hf
        refine j_bipush hK (10 : Int32) dX10_listens_61 bi_10 ?_
        refine j_iload_n hK dX10_listens_63 4 rfl rfl ?_
        refine j_imul hK dX10_listens_64 ?_
        refine j_iload hK dX10_listens_65 5 rfl ?_
        refine j_iadd hK dX10_listens_67 ?_
        refine lt_I hf (fun y4 hf => ?_)
        refine j_istore_n hK (L' := [(1, .int y4), (5, .int r1), (0, .ref 0), (2, .int v.2.1), (3, .int x3), (4, .int v.2.2)]) dX10_listens_68 rfl (by decide) rfl ?_
        refine j_iload hK dX10_listens_69 1 rfl ?_
        refine j_pc (pc' := 71) rfl ?_
        refine j_istore_n hK (L' := [(2, .int r1), (1, .int y4), (5, .int r1), (0, .ref 0), (3, .int x3), (4, .int v.2.2)]) dX10_listens_71 rfl (by decide) rfl ?_
        refine j_sub [3, 1, 0, 4, 5] rfl ?_
        exact t_X10_listens_72 hK hA hk he hf)
def f_X10_listens_27b (e : Int32 × Int32 × Int32 → St → Option (Int32 × St)) (k : Int32 × Int32 × Int32 → St → Option (Int32 × St)) (v : Int32 × Int32 × Int32) (S : St) : Option (Int32 × St) := (if (8 : Int32) ≤ v.2.2 then e (v.1, v.2.1, v.2.2) S else lp (f_X10_listens_36b v.2.2 (fun v5 S6 => k (v5.1, v5.2.1, (v.2.2 + (1 : Int32))) S6)) FU (v.1, v.2.1, (0 : Int32)) S)
theorem t_X10_listens_27 {K : CT} (hK : KO K cX10_listens RX10 6 4 (some .int)) {r : Int32} {S' : St} (hA : zans K = (some (.int r), S')) {e : Int32 × Int32 × Int32 → St → Option (Int32 × St)} (he : ∀ (v : Int32 × Int32 × Int32) (S : St), e v S = some (r, S') → J K 84 [(0, .ref 0), (1, .int v.1), (2, .int v.2.1)] [] S) : ∀ (n : Nat) (v : Int32 × Int32 × Int32) (S : St), lp (f_X10_listens_27b  e) n v S = some (r, S') → J K 27 [(0, .ref 0), (1, .int v.1), (2, .int v.2.1), (3, .int v.2.2)] [] S :=
  lp_J (P := fun (v : Int32 × Int32 × Int32) (S : St) => J K 27 [(0, .ref 0), (1, .int v.1), (2, .int v.2.1), (3, .int v.2.2)] [] S) (fun k hk v S hf => by
    unfold f_X10_listens_27b at hf
    refine j_iload_n hK dX10_listens_27 3 rfl rfl ?_
    refine j_bipush hK (8 : Int32) dX10_listens_28 bi_8 ?_
    refine j_icmp_ge hK 84 dX10_listens_30 (by decide) (fun hc => ?_) (fun hc => ?_)
    · replace hf := if_1 hc hf
      refine j_sub [0, 1, 2] rfl ?_
      exact he _ _ hf
    · replace hf := if_2 hc hf
      refine j_iconst hK (0 : Int32) dX10_listens_33 ic_0 ?_
      refine j_istore hK (L' := [(4, .int (0 : Int32)), (0, .ref 0), (1, .int v.1), (2, .int v.2.1), (3, .int v.2.2)]) dX10_listens_34 (by decide) rfl ?_
      refine j_sub [1, 2, 3, 4, 0] rfl ?_
      refine t_X10_listens_36 hK hA  (fun v5 S6 hf => ?_) _ _ _ hf
      refine j_iinc hK (L' := [(3, .int (v.2.2 + (1 : Int32))), (0, .ref 0), (1, .int v5.1), (2, .int v5.2.1)]) dX10_listens_78 3 rfl (congrArg (fun y => v.2.2 + y) ic_1) (by decide) rfl ?_
      refine j_goto hK 27 dX10_listens_81 (by decide) ?_
      refine j_sub [1, 2, 3, 0] rfl ?_
      exact hk _ _ hf)
def f_X10_listens (S : St) : Option (Int32 × St) := bd (f_X3_findFitting S) (fun r7 S8 => (if (gI S8 104 5) = 0 then some ((-2 : Int32), S8) else lp (f_X10_listens_27b  (fun v10 S11 => bd (f_X5_begin S11) (fun r12 S13 => bd (f_X5_put v10.2.1.toInt64 S13) (fun r15 S16 => some (v10.1, S16))))) FU ((-1 : Int32), (65 : Int32), (0 : Int32)) S8))
theorem c_X10_listens {S : St} {r : Int32} {S' : St} (hf : f_X10_listens S = some (r, S')) : zM yX10_listens cX10_listens 6 4 (some .int) [.ref 0] S (some (.int r)) S' := by
  refine zM_of (zpl (by decide)) (Nat.le_of_ble_eq_true rfl) rfl (fun K hK hA => ?_)
  unfold f_X10_listens at hf
  refine j_aload_n hK dX10_listens_0 0 rfl rfl ?_
  refine j_getR hK fl_X10_63 dX10_listens_1 zo_0 zf_10_7 zr_0_7 ?_
  obtain ⟨r7, S8, h9, hf⟩ := bd_J hf
  refine k_callVv hK (c_X3_findFitting h9) dX10_listens_4 zclX3 zo_104 ml_X10_353 mi_X3_findFitting mx_X3_findFitting in_X3 mc_X3_findFitting hy_X3_findFitting ⟨by decide, by decide⟩ rfl (Nat.le_of_ble_eq_true rfl) ?_
  refine j_aload_n hK dX10_listens_7 0 rfl rfl ?_
  refine j_getR hK fl_X10_63 dX10_listens_8 zo_0 zf_10_7 zr_0_7 ?_
  refine j_getI hK fl_X10_356 dX10_listens_11 zo_104 zf_3_5 ?_
  refine j_if_ne hK 20 dX10_listens_14 (by decide) (fun hc => ?_) (fun hc => ?_)
  · replace hf := if_2 hc hf
    refine j_iconst hK (-1 : Int32) dX10_listens_20 ic_m1 ?_
    refine j_istore_n hK (L' := [(1, .int (-1 : Int32)), (0, .ref 0)]) dX10_listens_21 rfl (by decide) rfl ?_
    refine j_bipush hK (65 : Int32) dX10_listens_22 bi_65 ?_
    refine j_istore_n hK (L' := [(2, .int (65 : Int32)), (1, .int (-1 : Int32)), (0, .ref 0)]) dX10_listens_24 rfl (by decide) rfl ?_
    refine j_iconst hK (0 : Int32) dX10_listens_25 ic_0 ?_
    refine j_istore_n hK (L' := [(3, .int (0 : Int32)), (2, .int (65 : Int32)), (1, .int (-1 : Int32)), (0, .ref 0)]) dX10_listens_26 rfl (by decide) rfl ?_
    refine j_sub [3, 2, 1, 0] rfl ?_
    refine t_X10_listens_27 hK hA  (fun v10 S11 hf => ?_) _ _ _ hf
    refine j_aload_n hK dX10_listens_84 0 rfl rfl ?_
    refine j_getR hK fl_X10_26 dX10_listens_85 zo_0 zf_10_2 zr_0_2 ?_
    obtain ⟨r12, S13, h14, hf⟩ := bd_J hf
    refine k_callVv hK (c_X5_begin h14) dX10_listens_88 zclX5 zo_10 ml_X10_185 mi_X5_begin mx_X5_begin in_X5 mc_X5_begin hy_X5_begin ⟨by decide, by decide⟩ rfl (Nat.le_of_ble_eq_true rfl) ?_
    refine j_aload_n hK dX10_listens_91 0 rfl rfl ?_
    refine j_getR hK fl_X10_26 dX10_listens_92 zo_0 zf_10_2 zr_0_2 ?_
    refine j_iload_n hK dX10_listens_95 2 rfl rfl ?_
    refine j_i2l hK dX10_listens_96 ?_
    refine j_pc (pc' := 97) rfl ?_
    obtain ⟨r15, S16, h17, hf⟩ := bd_J hf
    refine k_callVv hK (c_X5_put h17) dX10_listens_97 zclX5 zo_10 ml_X10_191 mi_X5_put mx_X5_put in_X5 mc_X5_put hy_X5_put ⟨by decide, by decide⟩ rfl (Nat.le_of_ble_eq_true rfl) ?_
    refine j_iload_n hK dX10_listens_100 1 rfl rfl ?_
    exact j_iret hK dX10_listens_101 rfl (rt_I hA hf)
  · replace hf := if_1 hc hf
    refine j_bipush hK (-2 : Int32) dX10_listens_17 bi_m2 ?_
    exact j_iret hK dX10_listens_19 rfl (rt_I hA hf)
def f_X10_commonDivisor_9b (e : Int64 × Int64 × Int32 → St → Option (Int64 × St)) (k : Int64 × Int64 × Int32 → St → Option (Int64 × St)) (v : Int64 × Int64 × Int32) (S : St) : Option (Int64 × St) := (if (1000 : Int32) ≤ v.2.2 then e (v.1, v.2.1, v.2.2) S else (if (lg_cmp v.2.1 (0 : Int64)) = 0 then e (v.1, v.2.1, v.2.2) S else if ¬ v.2.1 = 0 then lt (v.1 - v.1 / v.2.1 * v.2.1) (fun y2 => k (v.2.1, y2, (v.2.2 + (1 : Int32))) S) else none))
theorem t_X10_commonDivisor_9 {K : CT} (hK : KO K cX10_commonDivisor RX10 11 1 (some .long)) {r : Int64} {S' : St} (hA : zans K = (some (.long r), S')) {e : Int64 × Int64 × Int32 → St → Option (Int64 × St)} (he : ∀ (v : Int64 × Int64 × Int32) (S : St), e v S = some (r, S') → J K 45 [(4, .long v.1)] [] S) : ∀ (n : Nat) (v : Int64 × Int64 × Int32) (S : St), lp (f_X10_commonDivisor_9b  e) n v S = some (r, S') → J K 9 [(4, .long v.1), (6, .long v.2.1), (8, .int v.2.2)] [] S :=
  lp_J (P := fun (v : Int64 × Int64 × Int32) (S : St) => J K 9 [(4, .long v.1), (6, .long v.2.1), (8, .int v.2.2)] [] S) (fun k hk v S hf => by
    unfold f_X10_commonDivisor_9b at hf
    refine j_iload hK dX10_commonDivisor_9 2 rfl ?_
    refine j_sipush hK (1000 : Int32) dX10_commonDivisor_11 si_1000 ?_
    refine j_icmp_ge hK 45 dX10_commonDivisor_14 (by decide) (fun hc => ?_) (fun hc => ?_)
    · replace hf := if_1 hc hf
      refine j_sub [0] rfl ?_
      exact he _ _ hf
    · replace hf := if_2 hc hf
      refine j_lload hK dX10_commonDivisor_17 1 rfl ?_
      refine j_lconst hK (0 : Int64) dX10_commonDivisor_19 lc_0 ?_
      refine j_lcmp hK dX10_commonDivisor_20 ?_
      refine j_if_eq hK 45 dX10_commonDivisor_21 (by decide) (fun hc => ?_) (fun hc => ?_)
      · replace hf := if_1 hc hf
        refine j_sub [0] rfl ?_
        exact he _ _ hf
      · replace hf := if_2 hc hf
        refine j_lload hK dX10_commonDivisor_24 0 rfl ?_
        refine j_lload hK dX10_commonDivisor_26 1 rfl ?_
        obtain ⟨hn1, hf⟩ := gd hf
        refine j_lrem hK dX10_commonDivisor_28 hn1 ?_
        refine lt_L hf (fun y2 hf => ?_)
        refine j_lstore hK (L' := [(9, .long y2), (4, .long v.1), (6, .long v.2.1), (8, .int v.2.2)]) dX10_commonDivisor_29 (by decide) rfl ?_
        refine j_lload hK dX10_commonDivisor_31 2 rfl ?_
        refine j_lstore hK (L' := [(4, .long v.2.1), (9, .long y2), (6, .long v.2.1), (8, .int v.2.2)]) dX10_commonDivisor_33 (by decide) rfl ?_
        refine j_lload hK dX10_commonDivisor_35 1 rfl ?_
        refine j_pc (pc' := 37) rfl ?_
        refine j_lstore hK (L' := [(6, .long y2), (4, .long v.2.1), (9, .long y2), (8, .int v.2.2)]) dX10_commonDivisor_37 (by decide) rfl ?_
        refine j_iinc hK (L' := [(8, .int (v.2.2 + (1 : Int32))), (6, .long y2), (4, .long v.2.1), (9, .long y2)]) dX10_commonDivisor_39 3 rfl (congrArg (fun y => v.2.2 + y) ic_1) (by decide) rfl ?_
        refine j_goto hK 9 dX10_commonDivisor_42 (by decide) ?_
        refine j_sub [2, 1, 0] rfl ?_
        exact hk _ _ hf)
def f_X10_commonDivisor (p0 : Int64) (p2 : Int64) (S : St) : Option (Int64 × St) := lp (f_X10_commonDivisor_9b  (fun v3 S4 => (if (lg_cmp v3.1 (0 : Int64)) ≤ 0 then some ((1 : Int64), S4) else some (v3.1, S4)))) FU (p0, p2, (0 : Int32)) S
theorem c_X10_commonDivisor {p0 : Int64} {p2 : Int64} {S : St} {r : Int64} {S' : St} (hf : f_X10_commonDivisor p0 p2 S = some (r, S')) : zM yX10_commonDivisor cX10_commonDivisor 11 1 (some .long) [.long p0, .long p2] S (some (.long r)) S' := by
  refine zM_of (zpl (by decide)) (Nat.le_of_ble_eq_true rfl) rfl (fun K hK hA => ?_)
  unfold f_X10_commonDivisor at hf
  refine j_lload_n hK dX10_commonDivisor_0 0 rfl rfl ?_
  refine j_lstore hK (L' := [(4, .long p0), (0, .long p0), (2, .long p2)]) dX10_commonDivisor_1 (by decide) rfl ?_
  refine j_lload_n hK dX10_commonDivisor_3 2 rfl rfl ?_
  refine j_lstore hK (L' := [(6, .long p2), (4, .long p0), (0, .long p0), (2, .long p2)]) dX10_commonDivisor_4 (by decide) rfl ?_
  refine j_iconst hK (0 : Int32) dX10_commonDivisor_6 ic_0 ?_
  refine j_istore hK (L' := [(8, .int (0 : Int32)), (6, .long p2), (4, .long p0), (0, .long p0), (2, .long p2)]) dX10_commonDivisor_7 (by decide) rfl ?_
  refine j_sub [2, 1, 0] rfl ?_
  refine t_X10_commonDivisor_9 hK hA  (fun v3 S4 hf => ?_) _ _ _ hf
  refine j_lload hK dX10_commonDivisor_45 0 rfl ?_
  refine j_lconst hK (0 : Int64) dX10_commonDivisor_47 lc_0 ?_
  refine j_lcmp hK dX10_commonDivisor_48 ?_
  refine j_if_le hK 57 dX10_commonDivisor_49 (by decide) (fun hc => ?_) (fun hc => ?_)
  · replace hf := if_1 hc hf
    refine j_lconst hK (1 : Int64) dX10_commonDivisor_57 lc_1 ?_
    exact j_lret hK dX10_commonDivisor_58 rfl (rt_L hA hf)
  · replace hf := if_2 hc hf
    refine j_lload hK dX10_commonDivisor_52 0 rfl ?_
    refine j_goto hK 58 dX10_commonDivisor_54 (by decide) ?_
    exact j_lret hK dX10_commonDivisor_58 rfl (rt_L hA hf)
def f_X10_hints (p1 : Int32) (p2 : Int32) (p3 : Int32) (p4 : Int32) (p5 : Int32) (S : St) : Option (Int32 × St) := bd (f_X10_isLetter p3 S) (fun r1 S2 => (if r1 = 0 then some ((-1 : Int32), S2) else bd (f_X10_isLetter p4 S2) (fun r4 S5 => (if r4 = 0 then some ((-1 : Int32), S5) else (if p5 < 0 then some ((-1 : Int32), S5) else (if (10 : Int32) < p5 then some ((-1 : Int32), S5) else bd (f_X2_goes p1 p2 S5) (fun r7 S8 => (if r7 = 0 then some ((-1 : Int32), S8) else if isRule (gI S8 0 8).toNatClampNeg then bd (f_X2_spread (gI S8 0 8).toNatClampNeg p3 p5 S8) (fun r11 S12 => if inb p4 8 then lt (gL S12 96 p4.toNatClampNeg) (fun y15 => bd (f_X10_commonDivisor r11 y15 S12) (fun r16 S17 => bd (f_X5_begin S17) (fun r19 S20 => if ¬ r16 = 0 then bd (f_X5_put (y15 / r16) S20) (fun r23 S24 => if ¬ r16 = 0 then bd (f_X5_put (r11 / r16) S24) (fun r27 S28 => some ((0 : Int32), S28)) else none) else none))) else none) else none))))))))
theorem c_X10_hints {p1 : Int32} {p2 : Int32} {p3 : Int32} {p4 : Int32} {p5 : Int32} {S : St} {r : Int32} {S' : St} (hf : f_X10_hints p1 p2 p3 p4 p5 S = some (r, S')) : zM yX10_hints cX10_hints 12 5 (some .int) [.ref 0, .int p1, .int p2, .int p3, .int p4, .int p5] S (some (.int r)) S' := by
  refine zM_of (zpl (by decide)) (Nat.le_of_ble_eq_true rfl) rfl (fun K hK hA => ?_)
  unfold f_X10_hints at hf
  refine j_iload_n hK dX10_hints_0 3 rfl rfl ?_
  obtain ⟨r1, S2, h3, hf⟩ := bd_J hf
  refine k_callSi hK (c_X10_isLetter h3) dX10_hints_1 ml_X10_365 ms_X10_isLetter in_X10 mc_X10_isLetter hy_X10_isLetter ⟨by decide, by decide⟩ rfl (Nat.le_of_ble_eq_true rfl) ?_
  refine j_if_eq hK 39 dX10_hints_4 (by decide) (fun hc => ?_) (fun hc => ?_)
  · replace hf := if_1 hc hf
    refine j_iconst hK (-1 : Int32) dX10_hints_39 ic_m1 ?_
    exact j_iret hK dX10_hints_40 rfl (rt_I hA hf)
  · replace hf := if_2 hc hf
    refine j_iload hK dX10_hints_7 4 rfl ?_
    obtain ⟨r4, S5, h6, hf⟩ := bd_J hf
    refine k_callSi hK (c_X10_isLetter h6) dX10_hints_9 ml_X10_365 ms_X10_isLetter in_X10 mc_X10_isLetter hy_X10_isLetter ⟨by decide, by decide⟩ rfl (Nat.le_of_ble_eq_true rfl) ?_
    refine j_if_eq hK 39 dX10_hints_12 (by decide) (fun hc => ?_) (fun hc => ?_)
    · replace hf := if_1 hc hf
      refine j_iconst hK (-1 : Int32) dX10_hints_39 ic_m1 ?_
      exact j_iret hK dX10_hints_40 rfl (rt_I hA hf)
    · replace hf := if_2 hc hf
      refine j_iload hK dX10_hints_15 5 rfl ?_
      refine j_if_lt hK 39 dX10_hints_17 (by decide) (fun hc => ?_) (fun hc => ?_)
      · replace hf := if_1 hc hf
        refine j_iconst hK (-1 : Int32) dX10_hints_39 ic_m1 ?_
        exact j_iret hK dX10_hints_40 rfl (rt_I hA hf)
      · replace hf := if_2 hc hf
        refine j_iload hK dX10_hints_20 5 rfl ?_
        refine j_bipush hK (10 : Int32) dX10_hints_22 bi_10 ?_
        refine j_icmp_gt hK 39 dX10_hints_24 (by decide) (fun hc => ?_) (fun hc => ?_)
        · replace hf := if_1 hc hf
          refine j_iconst hK (-1 : Int32) dX10_hints_39 ic_m1 ?_
          exact j_iret hK dX10_hints_40 rfl (rt_I hA hf)
        · replace hf := if_2 hc hf
          refine j_aload_n hK dX10_hints_27 0 rfl rfl ?_
          refine j_getR hK fl_X10_42 dX10_hints_28 zo_0 zf_10_4 zr_0_4 ?_
          refine j_iload_n hK dX10_hints_31 1 rfl rfl ?_
          refine j_iload_n hK dX10_hints_32 2 rfl rfl ?_
          obtain ⟨r7, S8, h9, hf⟩ := bd_J hf
          refine k_callVi hK (c_X2_goes h9) dX10_hints_33 zclX2 zo_92 ml_X10_236 mi_X2_goes mx_X2_goes in_X2 mc_X2_goes hy_X2_goes ⟨by decide, by decide⟩ rfl (Nat.le_of_ble_eq_true rfl) ?_
          refine j_if_ne hK 41 dX10_hints_36 (by decide) (fun hc => ?_) (fun hc => ?_)
          · replace hf := if_2 hc hf
            refine j_aload_n hK dX10_hints_41 0 rfl rfl ?_
            refine j_getR hK fl_X10_42 dX10_hints_42 zo_0 zf_10_4 zr_0_4 ?_
            refine j_aload_n hK dX10_hints_45 0 rfl rfl ?_
            obtain ⟨hr10, hf⟩ := gd hf
            refine j_getD hK fl_X10_70 dX10_hints_46 zo_0 zf_10_8 ?_
            refine j_iload_n hK dX10_hints_49 3 rfl rfl ?_
            refine j_iload hK dX10_hints_50 5 rfl ?_
            obtain ⟨r11, S12, h13, hf⟩ := bd_J hf
            refine k_callVl hK (c_X2_spread hr10 h13) dX10_hints_52 zclX2 zo_92 ml_X10_368 mi_X2_spread mx_X2_spread in_X2 mc_X2_spread hy_X2_spread ⟨by decide, by decide⟩ rfl (Nat.le_of_ble_eq_true rfl) ?_
            refine j_pc (pc' := 55) rfl ?_
            refine j_lstore hK (L' := [(6, .long r11), (0, .ref 0), (1, .int p1), (2, .int p2), (3, .int p3), (4, .int p4), (5, .int p5)]) dX10_hints_55 (by decide) rfl ?_
            refine j_aload_n hK dX10_hints_57 1 rfl rfl ?_
            refine j_getR hK fl_X10_42 dX10_hints_58 zo_0 zf_10_4 zr_0_4 ?_
            refine j_getR hK fl_X10_372 dX10_hints_61 zo_92 zf_2_7 zr_92_7 ?_
            refine j_iload hK dX10_hints_64 5 rfl ?_
            obtain ⟨hi14, hf⟩ := gd hf
            refine k_lald hK dX10_hints_66 zb_96 hi14 rfl ?_
            refine lt_L hf (fun y15 hf => ?_)
            refine j_lstore hK (L' := [(8, .long y15), (6, .long r11), (0, .ref 0), (1, .int p1), (2, .int p2), (3, .int p3), (4, .int p4), (5, .int p5)]) dX10_hints_67 (by decide) rfl ?_
            refine j_lload hK dX10_hints_69 1 rfl ?_
            refine j_pc (pc' := 71) rfl ?_
            refine j_lload hK dX10_hints_71 0 rfl ?_
            obtain ⟨r16, S17, h18, hf⟩ := bd_J hf
            refine k_callSl hK (c_X10_commonDivisor h18) dX10_hints_73 ml_X10_376 ms_X10_commonDivisor in_X10 mc_X10_commonDivisor hy_X10_commonDivisor ⟨by decide, by decide⟩ rfl (Nat.le_of_ble_eq_true rfl) ?_
            refine j_lstore hK (L' := [(10, .long r16), (8, .long y15), (6, .long r11), (0, .ref 0), (1, .int p1), (2, .int p2), (3, .int p3), (4, .int p4), (5, .int p5)]) dX10_hints_76 (by decide) rfl ?_
            refine j_aload_n hK dX10_hints_78 3 rfl rfl ?_
            refine j_getR hK fl_X10_26 dX10_hints_79 zo_0 zf_10_2 zr_0_2 ?_
            obtain ⟨r19, S20, h21, hf⟩ := bd_J hf
            refine k_callVv hK (c_X5_begin h21) dX10_hints_82 zclX5 zo_10 ml_X10_185 mi_X5_begin mx_X5_begin in_X5 mc_X5_begin hy_X5_begin ⟨by decide, by decide⟩ rfl (Nat.le_of_ble_eq_true rfl) ?_
            refine j_aload_n hK dX10_hints_85 3 rfl rfl ?_
            refine j_getR hK fl_X10_26 dX10_hints_86 zo_0 zf_10_2 zr_0_2 ?_
            refine j_pc (pc' := 89) rfl ?_
            refine j_lload hK dX10_hints_89 1 rfl ?_
            refine j_lload hK dX10_hints_91 0 rfl ?_
            obtain ⟨hn22, hf⟩ := gd hf
            refine j_ldiv hK dX10_hints_93 hn22 ?_
            obtain ⟨r23, S24, h25, hf⟩ := bd_J hf
            refine k_callVv hK (c_X5_put h25) dX10_hints_94 zclX5 zo_10 ml_X10_191 mi_X5_put mx_X5_put in_X5 mc_X5_put hy_X5_put ⟨by decide, by decide⟩ rfl (Nat.le_of_ble_eq_true rfl) ?_
            refine j_aload_n hK dX10_hints_97 3 rfl rfl ?_
            refine j_getR hK fl_X10_26 dX10_hints_98 zo_0 zf_10_2 zr_0_2 ?_
            refine j_lload hK dX10_hints_101 2 rfl ?_
            refine j_lload hK dX10_hints_103 0 rfl ?_
            refine j_pc (pc' := 105) rfl ?_
            obtain ⟨hn26, hf⟩ := gd hf
            refine j_ldiv hK dX10_hints_105 hn26 ?_
            obtain ⟨r27, S28, h29, hf⟩ := bd_J hf
            refine k_callVv hK (c_X5_put h29) dX10_hints_106 zclX5 zo_10 ml_X10_191 mi_X5_put mx_X5_put in_X5 mc_X5_put hy_X5_put ⟨by decide, by decide⟩ rfl (Nat.le_of_ble_eq_true rfl) ?_
            refine j_iconst hK (0 : Int32) dX10_hints_109 ic_0 ?_
            exact j_iret hK dX10_hints_110 rfl (rt_I hA hf)
          · replace hf := if_1 hc hf
            refine j_iconst hK (-1 : Int32) dX10_hints_39 ic_m1 ?_
            exact j_iret hK dX10_hints_40 rfl (rt_I hA hf)
def f_X10_goodMoves_41 (x1 : Int32) (x2 : Int32) (x3 : Int32) (x4 : Int32) (k e : Int32 × Int32 → St → Option (Int32 × St)) (S : St) : Option (Int32 × St) := k (x3, (x4 + (1 : Int32))) S
theorem t_X10_goodMoves_41 {K : CT} (hK : KO K cX10_goodMoves RX10 5 1 (some .int)) {r : Int32} {S' : St} (hA : zans K = (some (.int r), S')) {x1 : Int32} {x2 : Int32} {x3 : Int32} {x4 : Int32} {k e : Int32 × Int32 → St → Option (Int32 × St)} (hk : ∀ (v : Int32 × Int32) (S : St), k v S = some (r, S') → J K 5 [(0, .ref 0), (1, .int x1), (2, .int x2), (3, .int v.1), (4, .int v.2)] [] S) (he : ∀ (v : Int32 × Int32) (S : St), e v S = some (r, S') → J K 47 [(3, .int v.1)] [] S) {S : St} (hf : f_X10_goodMoves_41 x1 x2 x3 x4 k e S = some (r, S')) : J K 41 [(0, .ref 0), (1, .int x1), (2, .int x2), (3, .int x3), (4, .int x4)] [] S := by
  unfold f_X10_goodMoves_41 at hf
  refine j_iinc hK (L' := [(4, .int (x4 + (1 : Int32))), (0, .ref 0), (1, .int x1), (2, .int x2), (3, .int x3)]) dX10_goodMoves_41 4 rfl (congrArg (fun y => x4 + y) ic_1) (by decide) rfl ?_
  refine j_goto hK 5 dX10_goodMoves_44 (by decide) ?_
  refine j_sub [1, 2, 3, 4, 0] rfl ?_
  exact hk _ _ hf
def f_X10_goodMoves_5b (x1 : Int32) (x2 : Int32) (e : Int32 × Int32 → St → Option (Int32 × St)) (k : Int32 × Int32 → St → Option (Int32 × St)) (v : Int32 × Int32) (S : St) : Option (Int32 × St) := (if x2 < v.2 then e (v.1, v.2) S else (if x1 < v.2 then e (v.1, v.2) S else if inb (x1 - v.2) 61 then lt (((gI S 121 (x1 - v.2).toNatClampNeg) >>> (v.2 &&& 31)) &&& (1 : Int32)) (fun y2 => (if y2 = 0 then lt (v.1 ||| ((1 : Int32) <<< (v.2 &&& 31))) (fun y3 => f_X10_goodMoves_41 x1 x2 y3 v.2 k e S) else f_X10_goodMoves_41 x1 x2 v.1 v.2 k e S)) else none))
theorem t_X10_goodMoves_5 {K : CT} (hK : KO K cX10_goodMoves RX10 5 1 (some .int)) {r : Int32} {S' : St} (hA : zans K = (some (.int r), S')) {x1 : Int32} {x2 : Int32} {e : Int32 × Int32 → St → Option (Int32 × St)} (he : ∀ (v : Int32 × Int32) (S : St), e v S = some (r, S') → J K 47 [(3, .int v.1)] [] S) : ∀ (n : Nat) (v : Int32 × Int32) (S : St), lp (f_X10_goodMoves_5b x1 x2 e) n v S = some (r, S') → J K 5 [(0, .ref 0), (1, .int x1), (2, .int x2), (3, .int v.1), (4, .int v.2)] [] S :=
  lp_J (P := fun (v : Int32 × Int32) (S : St) => J K 5 [(0, .ref 0), (1, .int x1), (2, .int x2), (3, .int v.1), (4, .int v.2)] [] S) (fun k hk v S hf => by
    unfold f_X10_goodMoves_5b at hf
    refine j_iload hK dX10_goodMoves_5 4 rfl ?_
    refine j_iload_n hK dX10_goodMoves_7 2 rfl rfl ?_
    refine j_icmp_gt hK 47 dX10_goodMoves_8 (by decide) (fun hc => ?_) (fun hc => ?_)
    · replace hf := if_1 hc hf
      refine j_sub [3] rfl ?_
      exact he _ _ hf
    · replace hf := if_2 hc hf
      refine j_iload hK dX10_goodMoves_11 4 rfl ?_
      refine j_iload_n hK dX10_goodMoves_13 1 rfl rfl ?_
      refine j_icmp_gt hK 47 dX10_goodMoves_14 (by decide) (fun hc => ?_) (fun hc => ?_)
      · replace hf := if_1 hc hf
        refine j_sub [3] rfl ?_
        exact he _ _ hf
      · replace hf := if_2 hc hf
        refine j_aload_n hK dX10_goodMoves_17 0 rfl rfl ?_
        refine j_getR hK fl_X10_81 dX10_goodMoves_18 zo_0 zf_10_11 zr_0_11 ?_
        refine j_iload_n hK dX10_goodMoves_21 1 rfl rfl ?_
        refine j_iload hK dX10_goodMoves_22 4 rfl ?_
        refine j_isub hK dX10_goodMoves_24 ?_
        obtain ⟨hi1, hf⟩ := gd hf
        refine k_iald hK dX10_goodMoves_25 zb_121 hi1 rfl ?_
        refine j_iload hK dX10_goodMoves_26 4 rfl ?_
        refine j_pc (pc' := 28) rfl ?_
        refine j_ishr hK dX10_goodMoves_28 ?_
        refine j_iconst hK (1 : Int32) dX10_goodMoves_29 ic_1 ?_
        refine j_iand hK dX10_goodMoves_30 ?_
        refine lt_I hf (fun y2 hf => ?_)
        refine j_if_ne hK 41 dX10_goodMoves_31 (by decide) (fun hc => ?_) (fun hc => ?_)
        · replace hf := if_2 hc hf
          exact t_X10_goodMoves_41 hK hA hk he hf
        · replace hf := if_1 hc hf
          refine j_iload_n hK dX10_goodMoves_34 3 rfl rfl ?_
          refine j_iconst hK (1 : Int32) dX10_goodMoves_35 ic_1 ?_
          refine j_iload hK dX10_goodMoves_36 4 rfl ?_
          refine j_ishl hK dX10_goodMoves_38 ?_
          refine j_ior hK dX10_goodMoves_39 ?_
          refine lt_I hf (fun y3 hf => ?_)
          refine j_istore_n hK (L' := [(3, .int y3), (0, .ref 0), (1, .int x1), (2, .int x2), (4, .int v.2)]) dX10_goodMoves_40 rfl (by decide) rfl ?_
          refine j_sub [1, 2, 3, 0, 4] rfl ?_
          exact t_X10_goodMoves_41 hK hA hk he hf)
def f_X10_goodMoves (p1 : Int32) (p2 : Int32) (S : St) : Option (Int32 × St) := lp (f_X10_goodMoves_5b p1 p2 (fun v4 S5 => some (v4.1, S5))) FU ((0 : Int32), (1 : Int32)) S
theorem c_X10_goodMoves {p1 : Int32} {p2 : Int32} {S : St} {r : Int32} {S' : St} (hf : f_X10_goodMoves p1 p2 S = some (r, S')) : zM yX10_goodMoves cX10_goodMoves 5 1 (some .int) [.ref 0, .int p1, .int p2] S (some (.int r)) S' := by
  refine zM_of (zpl (by decide)) (Nat.le_of_ble_eq_true rfl) rfl (fun K hK hA => ?_)
  unfold f_X10_goodMoves at hf
  refine j_iconst hK (0 : Int32) dX10_goodMoves_0 ic_0 ?_
  refine j_istore_n hK (L' := [(3, .int (0 : Int32)), (0, .ref 0), (1, .int p1), (2, .int p2)]) dX10_goodMoves_1 rfl (by decide) rfl ?_
  refine j_iconst hK (1 : Int32) dX10_goodMoves_2 ic_1 ?_
  refine j_istore hK (L' := [(4, .int (1 : Int32)), (3, .int (0 : Int32)), (0, .ref 0), (1, .int p1), (2, .int p2)]) dX10_goodMoves_3 (by decide) rfl ?_
  refine j_sub [2, 3, 4, 1, 0] rfl ?_
  refine t_X10_goodMoves_5 hK hA  (fun v4 S5 hf => ?_) _ _ _ hf
  refine j_iload_n hK dX10_goodMoves_47 0 rfl rfl ?_
  exact j_iret hK dX10_goodMoves_48 rfl (rt_I hA hf)
def f_X10_winsBehind_55 (x1 : Int32) (x2 : Int32) (x3 : Int32) (x4 : Int32) (x5 : Int32) (k e : Int32 × Int32 → St → Option (Int32 × St)) (S : St) : Option (Int32 × St) := k (x4, (x5 + (1 : Int32))) S
theorem t_X10_winsBehind_55 {K : CT} (hK : KO K cX10_winsBehind RX10 7 1 (some .int)) {r : Int32} {S' : St} (hA : zans K = (some (.int r), S')) {x1 : Int32} {x2 : Int32} {x3 : Int32} {x4 : Int32} {x5 : Int32} {k e : Int32 × Int32 → St → Option (Int32 × St)} (hk : ∀ (v : Int32 × Int32) (S : St), k v S = some (r, S') → J K 18 [(1, .int x1), (2, .int x2), (3, .int x3), (4, .int v.1), (5, .int v.2)] [] S) (he : ∀ (v : Int32 × Int32) (S : St), e v S = some (r, S') → J K 61 [(4, .int v.1)] [] S) {S : St} (hf : f_X10_winsBehind_55 x1 x2 x3 x4 x5 k e S = some (r, S')) : J K 55 [(1, .int x1), (2, .int x2), (3, .int x3), (4, .int x4), (5, .int x5)] [] S := by
  unfold f_X10_winsBehind_55 at hf
  refine j_iinc hK (L' := [(5, .int (x5 + (1 : Int32))), (1, .int x1), (2, .int x2), (3, .int x3), (4, .int x4)]) dX10_winsBehind_55 4 rfl (congrArg (fun y => x5 + y) ic_1) (by decide) rfl ?_
  refine j_goto hK 18 dX10_winsBehind_58 (by decide) ?_
  refine j_sub [1, 2, 3, 4, 0] rfl ?_
  exact hk _ _ hf
def f_X10_winsBehind_46 (x1 : Int32) (x2 : Int32) (x3 : Int32) (x4 : Int32) (x5 : Int32) (k e : Int32 × Int32 → St → Option (Int32 × St)) (S : St) : Option (Int32 × St) := lt (x4 ||| ((1 : Int32) <<< (x5 &&& 31))) (fun y1 => f_X10_winsBehind_55 x1 x2 x3 y1 x5 k e S)
theorem t_X10_winsBehind_46 {K : CT} (hK : KO K cX10_winsBehind RX10 7 1 (some .int)) {r : Int32} {S' : St} (hA : zans K = (some (.int r), S')) {x1 : Int32} {x2 : Int32} {x3 : Int32} {x4 : Int32} {x5 : Int32} {k e : Int32 × Int32 → St → Option (Int32 × St)} (hk : ∀ (v : Int32 × Int32) (S : St), k v S = some (r, S') → J K 18 [(1, .int x1), (2, .int x2), (3, .int x3), (4, .int v.1), (5, .int v.2)] [] S) (he : ∀ (v : Int32 × Int32) (S : St), e v S = some (r, S') → J K 61 [(4, .int v.1)] [] S) {S : St} (hf : f_X10_winsBehind_46 x1 x2 x3 x4 x5 k e S = some (r, S')) : J K 46 [(1, .int x1), (2, .int x2), (3, .int x3), (4, .int x4), (5, .int x5)] [] S := by
  unfold f_X10_winsBehind_46 at hf
  refine j_iload hK dX10_winsBehind_46 3 rfl ?_
  refine j_iconst hK (1 : Int32) dX10_winsBehind_48 ic_1 ?_
  refine j_iload hK dX10_winsBehind_49 4 rfl ?_
  refine j_ishl hK dX10_winsBehind_51 ?_
  refine j_ior hK dX10_winsBehind_52 ?_
  refine lt_I hf (fun y1 hf => ?_)
  refine j_istore hK (L' := [(4, .int y1), (1, .int x1), (2, .int x2), (3, .int x3), (5, .int x5)]) dX10_winsBehind_53 (by decide) rfl ?_
  refine j_sub [1, 2, 3, 0, 4] rfl ?_
  exact t_X10_winsBehind_55 hK hA hk he hf
def f_X10_winsBehind_18b (x1 : Int32) (x2 : Int32) (x3 : Int32) (e : Int32 × Int32 → St → Option (Int32 × St)) (k : Int32 × Int32 → St → Option (Int32 × St)) (v : Int32 × Int32) (S : St) : Option (Int32 × St) := (if x1 < v.2 then e (v.1, v.2) S else lt (((1 : Int32) <<< (v.2 &&& 31)) ^^^ (-1 : Int32)) (fun y2 => (if (x2 &&& y2) = 0 then (if (x3 &&& y2) = 0 then f_X10_winsBehind_46 x1 x2 x3 v.1 v.2 k e S else f_X10_winsBehind_55 x1 x2 x3 v.1 v.2 k e S) else f_X10_winsBehind_46 x1 x2 x3 v.1 v.2 k e S)))
theorem t_X10_winsBehind_18 {K : CT} (hK : KO K cX10_winsBehind RX10 7 1 (some .int)) {r : Int32} {S' : St} (hA : zans K = (some (.int r), S')) {x1 : Int32} {x2 : Int32} {x3 : Int32} {e : Int32 × Int32 → St → Option (Int32 × St)} (he : ∀ (v : Int32 × Int32) (S : St), e v S = some (r, S') → J K 61 [(4, .int v.1)] [] S) : ∀ (n : Nat) (v : Int32 × Int32) (S : St), lp (f_X10_winsBehind_18b x1 x2 x3 e) n v S = some (r, S') → J K 18 [(1, .int x1), (2, .int x2), (3, .int x3), (4, .int v.1), (5, .int v.2)] [] S :=
  lp_J (P := fun (v : Int32 × Int32) (S : St) => J K 18 [(1, .int x1), (2, .int x2), (3, .int x3), (4, .int v.1), (5, .int v.2)] [] S) (fun k hk v S hf => by
    unfold f_X10_winsBehind_18b at hf
    refine j_iload hK dX10_winsBehind_18 4 rfl ?_
    refine j_iload_n hK dX10_winsBehind_20 0 rfl rfl ?_
    refine j_icmp_gt hK 61 dX10_winsBehind_21 (by decide) (fun hc => ?_) (fun hc => ?_)
    · replace hf := if_1 hc hf
      refine j_sub [3] rfl ?_
      exact he _ _ hf
    · replace hf := if_2 hc hf
      refine j_iconst hK (1 : Int32) dX10_winsBehind_24 ic_1 ?_
      refine j_iload hK dX10_winsBehind_25 4 rfl ?_
      refine j_ishl hK dX10_winsBehind_27 ?_
      refine j_iconst hK (-1 : Int32) dX10_winsBehind_28 ic_m1 ?_
      refine j_ixor hK dX10_winsBehind_29 ?_
      refine lt_I hf (fun y2 hf => ?_)
      refine j_istore hK (L' := [(6, .int y2), (1, .int x1), (2, .int x2), (3, .int x3), (4, .int v.1), (5, .int v.2)]) dX10_winsBehind_30 (by decide) rfl ?_
      refine j_iload_n hK dX10_winsBehind_32 2 rfl rfl ?_
      refine j_pc (pc' := 33) rfl ?_
      refine j_iload hK dX10_winsBehind_33 0 rfl ?_
      refine j_iand hK dX10_winsBehind_35 ?_
      refine j_if_ne hK 46 dX10_winsBehind_36 (by decide) (fun hc => ?_) (fun hc => ?_)
      · replace hf := if_2 hc hf
        refine j_sub [1, 2, 3, 4, 5] rfl ?_
        exact t_X10_winsBehind_46 hK hA hk he hf
      · replace hf := if_1 hc hf
        refine j_iload_n hK dX10_winsBehind_39 3 rfl rfl ?_
        refine j_iload hK dX10_winsBehind_40 0 rfl ?_
        refine j_iand hK dX10_winsBehind_42 ?_
        refine j_if_ne hK 55 dX10_winsBehind_43 (by decide) (fun hc => ?_) (fun hc => ?_)
        · replace hf := if_2 hc hf
          refine j_sub [1, 2, 3, 4, 5] rfl ?_
          exact t_X10_winsBehind_55 hK hA hk he hf
        · replace hf := if_1 hc hf
          refine j_sub [1, 2, 3, 4, 5] rfl ?_
          exact t_X10_winsBehind_46 hK hA hk he hf)
def f_X10_winsBehind (p0 : Int32) (p1 : Int32) (p2 : Int32) (S : St) : Option (Int32 × St) := lt (((1 : Int32) <<< (((mnI p0 p1) + (1 : Int32)) &&& 31)) - (2 : Int32)) (fun y3 => lp (f_X10_winsBehind_18b p1 p2 y3 (fun v4 S5 => some (v4.1, S5))) FU ((0 : Int32), (0 : Int32)) S)
theorem c_X10_winsBehind {p0 : Int32} {p1 : Int32} {p2 : Int32} {S : St} {r : Int32} {S' : St} (hf : f_X10_winsBehind p0 p1 p2 S = some (r, S')) : zM yX10_winsBehind cX10_winsBehind 7 1 (some .int) [.int p0, .int p1, .int p2] S (some (.int r)) S' := by
  refine zM_of (zpl (by decide)) (Nat.le_of_ble_eq_true rfl) rfl (fun K hK hA => ?_)
  unfold f_X10_winsBehind at hf
  refine j_iconst hK (1 : Int32) dX10_winsBehind_0 ic_1 ?_
  refine j_iload_n hK dX10_winsBehind_1 0 rfl rfl ?_
  refine j_iload_n hK dX10_winsBehind_2 1 rfl rfl ?_
  refine j_min hK ml_X10_170 dX10_winsBehind_3 (by decide) (Nat.le_of_ble_eq_true rfl) ?_
  refine j_iconst hK (1 : Int32) dX10_winsBehind_6 ic_1 ?_
  refine j_iadd hK dX10_winsBehind_7 ?_
  refine j_ishl hK dX10_winsBehind_8 ?_
  refine j_iconst hK (2 : Int32) dX10_winsBehind_9 ic_2 ?_
  refine j_pc (pc' := 10) rfl ?_
  refine j_isub hK dX10_winsBehind_10 ?_
  refine lt_I hf (fun y3 hf => ?_)
  refine j_istore_n hK (L' := [(3, .int y3), (0, .int p0), (1, .int p1), (2, .int p2)]) dX10_winsBehind_11 rfl (by decide) rfl ?_
  refine j_iconst hK (0 : Int32) dX10_winsBehind_12 ic_0 ?_
  refine j_istore hK (L' := [(4, .int (0 : Int32)), (3, .int y3), (0, .int p0), (1, .int p1), (2, .int p2)]) dX10_winsBehind_13 (by decide) rfl ?_
  refine j_iconst hK (0 : Int32) dX10_winsBehind_15 ic_0 ?_
  refine j_istore hK (L' := [(5, .int (0 : Int32)), (4, .int (0 : Int32)), (3, .int y3), (0, .int p0), (1, .int p1), (2, .int p2)]) dX10_winsBehind_16 (by decide) rfl ?_
  refine j_sub [4, 5, 2, 1, 0] rfl ?_
  refine t_X10_winsBehind_18 hK hA  (fun v4 S5 hf => ?_) _ _ _ hf
  refine j_iload hK dX10_winsBehind_61 0 rfl ?_
  exact j_iret hK dX10_winsBehind_63 rfl (rt_I hA hf)
def f_X10_game_65b (x2 : Int32) (x3 : Int32) (e : Int32 → St → Option (Int32 × St)) (k : Int32 → St → Option (Int32 × St)) (v : Int32) (S : St) : Option (Int32 × St) := (if x2 < v then e v S else (if ((x3 >>> (v &&& 31)) &&& (1 : Int32)) = (1 : Int32) then some (v, S) else k (v + (1 : Int32)) S))
theorem t_X10_game_65 {K : CT} (hK : KO K cX10_game RX10 5 2 (some .int)) {r : Int32} {S' : St} (hA : zans K = (some (.int r), S')) {x2 : Int32} {x3 : Int32} {e : Int32 → St → Option (Int32 × St)} (he : ∀ (v : Int32) (S : St), e v S = some (r, S') → J K 90 [] [] S) : ∀ (n : Nat) (v : Int32) (S : St), lp (f_X10_game_65b x2 x3 e) n v S = some (r, S') → J K 65 [(2, .int x2), (3, .int x3), (4, .int v)] [] S :=
  lp_J (P := fun (v : Int32) (S : St) => J K 65 [(2, .int x2), (3, .int x3), (4, .int v)] [] S) (fun k hk v S hf => by
    unfold f_X10_game_65b at hf
    refine j_iload hK dX10_game_65 2 rfl ?_
    refine j_iload_n hK dX10_game_67 0 rfl rfl ?_
    refine j_icmp_gt hK 90 dX10_game_68 (by decide) (fun hc => ?_) (fun hc => ?_)
    · replace hf := if_1 hc hf
      refine j_sub [] rfl ?_
      exact he _ _ hf
    · replace hf := if_2 hc hf
      refine j_iload_n hK dX10_game_71 1 rfl rfl ?_
      refine j_iload hK dX10_game_72 2 rfl ?_
      refine j_ishr hK dX10_game_74 ?_
      refine j_iconst hK (1 : Int32) dX10_game_75 ic_1 ?_
      refine j_iand hK dX10_game_76 ?_
      refine j_iconst hK (1 : Int32) dX10_game_77 ic_1 ?_
      refine j_icmp_ne hK 84 dX10_game_78 (by decide) (fun hc => ?_) (fun hc => ?_)
      · replace hf := if_2 hc hf
        refine j_iinc hK (L' := [(4, .int (v + (1 : Int32))), (2, .int x2), (3, .int x3)]) dX10_game_84 2 rfl (congrArg (fun y => v + y) ic_1) (by decide) rfl ?_
        refine j_goto hK 65 dX10_game_87 (by decide) ?_
        refine j_sub [1, 2, 0] rfl ?_
        exact hk _ _ hf
      · replace hf := if_1 hc hf
        refine j_iload hK dX10_game_81 2 rfl ?_
        exact j_iret hK dX10_game_83 rfl (rt_I hA hf))
def f_X10_game_28b (x1 : Int32) (x2 : Int32) (e : Int32 × Int32 → St → Option (Int32 × St)) (k : Int32 × Int32 → St → Option (Int32 × St)) (v : Int32 × Int32) (S : St) : Option (Int32 × St) := (if x1 < v.2 then e (v.1, v.2) S else bd (f_X10_goodMoves v.2 x2 S) (fun r1 S2 => bd (f_X10_winsBehind v.2 x2 r1 S2) (fun r4 S5 => if inb v.2 61 then lt (sI S5 121 v.2.toNatClampNeg r4) (fun S8 => k (r1, (v.2 + (1 : Int32))) S8) else none)))
theorem t_X10_game_28 {K : CT} (hK : KO K cX10_game RX10 5 2 (some .int)) {r : Int32} {S' : St} (hA : zans K = (some (.int r), S')) {x1 : Int32} {x2 : Int32} {e : Int32 × Int32 → St → Option (Int32 × St)} (he : ∀ (v : Int32 × Int32) (S : St), e v S = some (r, S') → J K 62 [(2, .int x2), (3, .int v.1)] [] S) : ∀ (n : Nat) (v : Int32 × Int32) (S : St), lp (f_X10_game_28b x1 x2 e) n v S = some (r, S') → J K 28 [(0, .ref 0), (1, .int x1), (2, .int x2), (3, .int v.1), (4, .int v.2)] [] S :=
  lp_J (P := fun (v : Int32 × Int32) (S : St) => J K 28 [(0, .ref 0), (1, .int x1), (2, .int x2), (3, .int v.1), (4, .int v.2)] [] S) (fun k hk v S hf => by
    unfold f_X10_game_28b at hf
    refine j_iload hK dX10_game_28 4 rfl ?_
    refine j_iload_n hK dX10_game_30 1 rfl rfl ?_
    refine j_icmp_gt hK 62 dX10_game_31 (by decide) (fun hc => ?_) (fun hc => ?_)
    · replace hf := if_1 hc hf
      refine j_sub [2, 3] rfl ?_
      exact he _ _ hf
    · replace hf := if_2 hc hf
      refine j_aload_n hK dX10_game_34 0 rfl rfl ?_
      refine j_iload hK dX10_game_35 4 rfl ?_
      refine j_iload_n hK dX10_game_37 2 rfl rfl ?_
      obtain ⟨r1, S2, h3, hf⟩ := bd_J hf
      refine k_callVi hK (c_X10_goodMoves h3) dX10_game_38 zclX10 zo_0 ml_X10_380 mi_X10_goodMoves mx_X10_goodMoves in_X10 mc_X10_goodMoves hy_X10_goodMoves ⟨by decide, by decide⟩ rfl (Nat.le_of_ble_eq_true rfl) ?_
      refine j_istore_n hK (L' := [(3, .int r1), (0, .ref 0), (1, .int x1), (2, .int x2), (4, .int v.2)]) dX10_game_41 rfl (by decide) rfl ?_
      refine j_aload_n hK dX10_game_42 1 rfl rfl ?_
      refine j_getR hK fl_X10_81 dX10_game_43 zo_0 zf_10_11 zr_0_11 ?_
      refine j_pc (pc' := 46) rfl ?_
      refine j_iload hK dX10_game_46 4 rfl ?_
      refine j_iload hK dX10_game_48 4 rfl ?_
      refine j_iload_n hK dX10_game_50 3 rfl rfl ?_
      refine j_iload_n hK dX10_game_51 0 rfl rfl ?_
      obtain ⟨r4, S5, h6, hf⟩ := bd_J hf
      refine k_callSi hK (c_X10_winsBehind h6) dX10_game_52 ml_X10_383 ms_X10_winsBehind in_X10 mc_X10_winsBehind hy_X10_winsBehind ⟨by decide, by decide⟩ rfl (Nat.le_of_ble_eq_true rfl) ?_
      obtain ⟨hi7, hf⟩ := gd hf
      refine k_iast hK dX10_game_55 zb_121 hi7 rfl ?_
      refine lt_S hf (fun S8 hf => ?_)
      refine j_iinc hK (L' := [(4, .int (v.2 + (1 : Int32))), (3, .int r1), (0, .ref 0), (1, .int x1), (2, .int x2)]) dX10_game_56 4 rfl (congrArg (fun y => v.2 + y) ic_1) (by decide) rfl ?_
      refine j_goto hK 28 dX10_game_59 (by decide) ?_
      refine j_sub [2, 3, 4, 1, 0] rfl ?_
      exact hk _ _ hf)
def f_X10_game (p1 : Int32) (p2 : Int32) (S : St) : Option (Int32 × St) := (if p1 < 0 then some ((-1 : Int32), S) else (if (60 : Int32) < p1 then some ((-1 : Int32), S) else (if p2 < (2 : Int32) then some ((-1 : Int32), S) else (if p2 ≤ (9 : Int32) then lp (f_X10_game_28b p1 p2 (fun v9 S10 => lp (f_X10_game_65b p2 v9.1 (fun v11 S12 => some ((0 : Int32), S12))) FU (1 : Int32) S10)) FU ((0 : Int32), (0 : Int32)) S else some ((-1 : Int32), S)))))
theorem c_X10_game {p1 : Int32} {p2 : Int32} {S : St} {r : Int32} {S' : St} (hf : f_X10_game p1 p2 S = some (r, S')) : zM yX10_game cX10_game 5 2 (some .int) [.ref 0, .int p1, .int p2] S (some (.int r)) S' := by
  refine zM_of (zpl (by decide)) (Nat.le_of_ble_eq_true rfl) rfl (fun K hK hA => ?_)
  unfold f_X10_game at hf
  refine j_iload_n hK dX10_game_0 1 rfl rfl ?_
  refine j_if_lt hK 21 dX10_game_1 (by decide) (fun hc => ?_) (fun hc => ?_)
  · replace hf := if_1 hc hf
    refine j_iconst hK (-1 : Int32) dX10_game_21 ic_m1 ?_
    exact j_iret hK dX10_game_22 rfl (rt_I hA hf)
  · replace hf := if_2 hc hf
    refine j_iload_n hK dX10_game_4 1 rfl rfl ?_
    refine j_bipush hK (60 : Int32) dX10_game_5 bi_60 ?_
    refine j_icmp_gt hK 21 dX10_game_7 (by decide) (fun hc => ?_) (fun hc => ?_)
    · replace hf := if_1 hc hf
      refine j_iconst hK (-1 : Int32) dX10_game_21 ic_m1 ?_
      exact j_iret hK dX10_game_22 rfl (rt_I hA hf)
    · replace hf := if_2 hc hf
      refine j_iload_n hK dX10_game_10 2 rfl rfl ?_
      refine j_iconst hK (2 : Int32) dX10_game_11 ic_2 ?_
      refine j_icmp_lt hK 21 dX10_game_12 (by decide) (fun hc => ?_) (fun hc => ?_)
      · replace hf := if_1 hc hf
        refine j_iconst hK (-1 : Int32) dX10_game_21 ic_m1 ?_
        exact j_iret hK dX10_game_22 rfl (rt_I hA hf)
      · replace hf := if_2 hc hf
        refine j_iload_n hK dX10_game_15 2 rfl rfl ?_
        refine j_bipush hK (9 : Int32) dX10_game_16 bi_9 ?_
        refine j_icmp_le hK 23 dX10_game_18 (by decide) (fun hc => ?_) (fun hc => ?_)
        · replace hf := if_1 hc hf
          refine j_iconst hK (0 : Int32) dX10_game_23 ic_0 ?_
          refine j_istore_n hK (L' := [(3, .int (0 : Int32)), (0, .ref 0), (1, .int p1), (2, .int p2)]) dX10_game_24 rfl (by decide) rfl ?_
          refine j_iconst hK (0 : Int32) dX10_game_25 ic_0 ?_
          refine j_istore hK (L' := [(4, .int (0 : Int32)), (3, .int (0 : Int32)), (0, .ref 0), (1, .int p1), (2, .int p2)]) dX10_game_26 (by decide) rfl ?_
          refine j_sub [2, 3, 4, 1, 0] rfl ?_
          refine t_X10_game_28 hK hA  (fun v9 S10 hf => ?_) _ _ _ hf
          refine j_iconst hK (1 : Int32) dX10_game_62 ic_1 ?_
          refine j_istore hK (L' := [(4, .int (1 : Int32)), (2, .int p2), (3, .int v9.1)]) dX10_game_63 (by decide) rfl ?_
          refine j_sub [1, 2, 0] rfl ?_
          refine t_X10_game_65 hK hA  (fun v11 S12 hf => ?_) _ _ _ hf
          refine j_iconst hK (0 : Int32) dX10_game_90 ic_0 ?_
          exact j_iret hK dX10_game_91 rfl (rt_I hA hf)
        · replace hf := if_2 hc hf
          refine j_iconst hK (-1 : Int32) dX10_game_21 ic_m1 ?_
          exact j_iret hK dX10_game_22 rfl (rt_I hA hf)
def f_X10_keptBy_56 (ru : Nat) (x2 : Int32) (x3 : Int32) (x4 : Int32) (k e : Int32 × Int32 → St → Option (Int32 × St)) (S : St) : Option (Int32 × St) := k (x2, (x4 + (1 : Int32))) S
theorem t_X10_keptBy_56 {K : CT} (hK : KO K cX10_keptBy RX10 5 5 (some .int)) {r : Int32} {S' : St} (hA : zans K = (some (.int r), S')) {ru : Nat} (hru : isRule ru) {x2 : Int32} {x3 : Int32} {x4 : Int32} {k e : Int32 × Int32 → St → Option (Int32 × St)} (hk : ∀ (v : Int32 × Int32) (S : St), k v S = some (r, S') → J K 21 [(0, .ref 0), (2, .int v.1), (3, .int x3), (4, .int v.2)] [] S) (he : ∀ (v : Int32 × Int32) (S : St), e v S = some (r, S') → J K 62 [(0, .ref 0), (2, .int v.1), (3, .int x3)] [] S) {S : St} (hf : f_X10_keptBy_56 ru x2 x3 x4 k e S = some (r, S')) : J K 56 [(0, .ref 0), (2, .int x2), (3, .int x3), (4, .int x4)] [] S := by
  unfold f_X10_keptBy_56 at hf
  refine j_iinc hK (L' := [(4, .int (x4 + (1 : Int32))), (0, .ref 0), (2, .int x2), (3, .int x3)]) dX10_keptBy_56 3 rfl (congrArg (fun y => x4 + y) ic_1) (by decide) rfl ?_
  refine j_goto hK 21 dX10_keptBy_59 (by decide) ?_
  refine j_sub [1, 2, 3, 0] rfl ?_
  exact hk _ _ hf
def f_X10_keptBy_21b (ru : Nat) (x3 : Int32) (e : Int32 × Int32 → St → Option (Int32 × St)) (k : Int32 × Int32 → St → Option (Int32 × St)) (v : Int32 × Int32) (S : St) : Option (Int32 × St) := (if (gI S 3 2) ≤ v.2 then e (v.1, v.2) S else bd (f_X2_goes x3 v.2 S) (fun r1 S2 => (if r1 = 0 then f_X10_keptBy_56 ru v.1 x3 v.2 k e S2 else bd (f_X2_keptByLearntSteps S2) (fun r4 S5 => lt (v.1 + r4) (fun y7 => f_X10_keptBy_56 ru y7 x3 v.2 k e S5)))))
theorem t_X10_keptBy_21 {K : CT} (hK : KO K cX10_keptBy RX10 5 5 (some .int)) {r : Int32} {S' : St} (hA : zans K = (some (.int r), S')) {ru : Nat} (hru : isRule ru) {x3 : Int32} {e : Int32 × Int32 → St → Option (Int32 × St)} (he : ∀ (v : Int32 × Int32) (S : St), e v S = some (r, S') → J K 62 [(0, .ref 0), (2, .int v.1), (3, .int x3)] [] S) : ∀ (n : Nat) (v : Int32 × Int32) (S : St), lp (f_X10_keptBy_21b ru x3 e) n v S = some (r, S') → J K 21 [(0, .ref 0), (2, .int v.1), (3, .int x3), (4, .int v.2)] [] S :=
  lp_J (P := fun (v : Int32 × Int32) (S : St) => J K 21 [(0, .ref 0), (2, .int v.1), (3, .int x3), (4, .int v.2)] [] S) (fun k hk v S hf => by
    unfold f_X10_keptBy_21b at hf
    refine j_iload hK dX10_keptBy_21 3 rfl ?_
    refine j_aload_n hK dX10_keptBy_23 0 rfl rfl ?_
    refine j_getR hK fl_X10_19 dX10_keptBy_24 zo_0 zf_10_1 zr_0_1 ?_
    refine j_getI hK fl_X10_95 dX10_keptBy_27 zo_3 zf_0_2 ?_
    refine j_icmp_ge hK 62 dX10_keptBy_30 (by decide) (fun hc => ?_) (fun hc => ?_)
    · replace hf := if_1 hc hf
      refine j_sub [0, 1, 2] rfl ?_
      exact he _ _ hf
    · replace hf := if_2 hc hf
      refine j_aload_n hK dX10_keptBy_33 0 rfl rfl ?_
      refine j_getR hK fl_X10_42 dX10_keptBy_34 zo_0 zf_10_4 zr_0_4 ?_
      refine j_iload_n hK dX10_keptBy_37 2 rfl rfl ?_
      refine j_iload hK dX10_keptBy_38 3 rfl ?_
      obtain ⟨r1, S2, h3, hf⟩ := bd_J hf
      refine k_callVi hK (c_X2_goes h3) dX10_keptBy_40 zclX2 zo_92 ml_X10_236 mi_X2_goes mx_X2_goes in_X2 mc_X2_goes hy_X2_goes ⟨by decide, by decide⟩ rfl (Nat.le_of_ble_eq_true rfl) ?_
      refine j_if_eq hK 56 dX10_keptBy_43 (by decide) (fun hc => ?_) (fun hc => ?_)
      · replace hf := if_1 hc hf
        exact t_X10_keptBy_56 hK hA hru hk he hf
      · replace hf := if_2 hc hf
        refine j_iload_n hK dX10_keptBy_46 1 rfl rfl ?_
        refine j_aload_n hK dX10_keptBy_47 0 rfl rfl ?_
        refine j_getR hK fl_X10_42 dX10_keptBy_48 zo_0 zf_10_4 zr_0_4 ?_
        obtain ⟨r4, S5, h6, hf⟩ := bd_J hf
        refine k_callVi hK (c_X2_keptByLearntSteps h6) dX10_keptBy_51 zclX2 zo_92 ml_X10_403 mi_X2_keptByLearntSteps mx_X2_keptByLearntSteps in_X2 mc_X2_keptByLearntSteps hy_X2_keptByLearntSteps ⟨by decide, by decide⟩ rfl (Nat.le_of_ble_eq_true rfl) ?_
        refine j_iadd hK dX10_keptBy_54 ?_
        refine lt_I hf (fun y7 hf => ?_)
        refine j_istore_n hK (L' := [(2, .int y7), (0, .ref 0), (3, .int x3), (4, .int v.2)]) dX10_keptBy_55 rfl (by decide) rfl ?_
        refine j_sub [1, 0, 2, 3] rfl ?_
        exact t_X10_keptBy_56 hK hA hru hk he hf)
def f_X10_keptBy_12b (ru : Nat) (e : Int32 × Int32 → St → Option (Int32 × St)) (k : Int32 × Int32 → St → Option (Int32 × St)) (v : Int32 × Int32) (S : St) : Option (Int32 × St) := (if (8 : Int32) ≤ v.2 then e (v.1, v.2) S else lp (f_X10_keptBy_21b ru v.2 (fun v8 S9 => k (v8.1, (v.2 + (1 : Int32))) S9)) FU (v.1, (0 : Int32)) S)
theorem t_X10_keptBy_12 {K : CT} (hK : KO K cX10_keptBy RX10 5 5 (some .int)) {r : Int32} {S' : St} (hA : zans K = (some (.int r), S')) {ru : Nat} (hru : isRule ru) {e : Int32 × Int32 → St → Option (Int32 × St)} (he : ∀ (v : Int32 × Int32) (S : St), e v S = some (r, S') → J K 68 [(2, .int v.1)] [] S) : ∀ (n : Nat) (v : Int32 × Int32) (S : St), lp (f_X10_keptBy_12b ru e) n v S = some (r, S') → J K 12 [(0, .ref 0), (2, .int v.1), (3, .int v.2)] [] S :=
  lp_J (P := fun (v : Int32 × Int32) (S : St) => J K 12 [(0, .ref 0), (2, .int v.1), (3, .int v.2)] [] S) (fun k hk v S hf => by
    unfold f_X10_keptBy_12b at hf
    refine j_iload_n hK dX10_keptBy_12 2 rfl rfl ?_
    refine j_bipush hK (8 : Int32) dX10_keptBy_13 bi_8 ?_
    refine j_icmp_ge hK 68 dX10_keptBy_15 (by decide) (fun hc => ?_) (fun hc => ?_)
    · replace hf := if_1 hc hf
      refine j_sub [1] rfl ?_
      exact he _ _ hf
    · replace hf := if_2 hc hf
      refine j_iconst hK (0 : Int32) dX10_keptBy_18 ic_0 ?_
      refine j_istore hK (L' := [(4, .int (0 : Int32)), (0, .ref 0), (2, .int v.1), (3, .int v.2)]) dX10_keptBy_19 (by decide) rfl ?_
      refine j_sub [1, 2, 3, 0] rfl ?_
      refine t_X10_keptBy_21 hK hA hru (fun v8 S9 hf => ?_) _ _ _ hf
      refine j_iinc hK (L' := [(3, .int (v.2 + (1 : Int32))), (0, .ref 0), (2, .int v8.1)]) dX10_keptBy_62 2 rfl (congrArg (fun y => v.2 + y) ic_1) (by decide) rfl ?_
      refine j_goto hK 12 dX10_keptBy_65 (by decide) ?_
      refine j_sub [1, 2, 0] rfl ?_
      exact hk _ _ hf)
def f_X10_keptBy (ru : Nat) (S : St) : Option (Int32 × St) := bd (f_X2_learnSteps ru S) (fun r10 S11 => lp (f_X10_keptBy_12b ru (fun v13 S14 => some (v13.1, S14))) FU ((0 : Int32), (0 : Int32)) S11)
theorem c_X10_keptBy {ru : Nat} (hru : isRule ru) {S : St} {r : Int32} {S' : St} (hf : f_X10_keptBy ru S = some (r, S')) : zM yX10_keptBy cX10_keptBy 5 5 (some .int) [.ref 0, .ref ru] S (some (.int r)) S' := by
  refine zM_of (zpl (by decide)) (Nat.le_of_ble_eq_true rfl) rfl (fun K hK hA => ?_)
  unfold f_X10_keptBy at hf
  refine j_aload_n hK dX10_keptBy_0 0 rfl rfl ?_
  refine j_getR hK fl_X10_42 dX10_keptBy_1 zo_0 zf_10_4 zr_0_4 ?_
  refine j_aload_n hK dX10_keptBy_4 1 rfl rfl ?_
  obtain ⟨r10, S11, h12, hf⟩ := bd_J hf
  refine k_callVv hK (c_X2_learnSteps hru h12) dX10_keptBy_5 zclX2 zo_92 ml_X10_399 mi_X2_learnSteps mx_X2_learnSteps in_X2 mc_X2_learnSteps hy_X2_learnSteps ⟨by decide, by decide⟩ rfl (Nat.le_of_ble_eq_true rfl) ?_
  refine j_iconst hK (0 : Int32) dX10_keptBy_8 ic_0 ?_
  refine j_istore_n hK (L' := [(2, .int (0 : Int32)), (0, .ref 0), (1, .ref ru)]) dX10_keptBy_9 rfl (by decide) rfl ?_
  refine j_iconst hK (0 : Int32) dX10_keptBy_10 ic_0 ?_
  refine j_istore_n hK (L' := [(3, .int (0 : Int32)), (2, .int (0 : Int32)), (0, .ref 0), (1, .ref ru)]) dX10_keptBy_11 rfl (by decide) rfl ?_
  refine j_sub [2, 1, 0] rfl ?_
  refine t_X10_keptBy_12 hK hA hru (fun v13 S14 hf => ?_) _ _ _ hf
  refine j_iload_n hK dX10_keptBy_68 0 rfl rfl ?_
  exact j_iret hK dX10_keptBy_69 rfl (rt_I hA hf)
def f_X10_gainOf (p0 : Int32) (p1 : Int32) (p2 : Int32) (S : St) : Option (Int32 × St) := (if p0 ≤ p1 then lt (p0 + (p2 / (4 : Int32))) (fun y1 => (if p0 = p1 then some ((y1 / (2 : Int32)), S) else some (y1, S))) else some ((-1 : Int32), S))
theorem c_X10_gainOf {p0 : Int32} {p1 : Int32} {p2 : Int32} {S : St} {r : Int32} {S' : St} (hf : f_X10_gainOf p0 p1 p2 S = some (r, S')) : zM yX10_gainOf cX10_gainOf 4 1 (some .int) [.int p0, .int p1, .int p2] S (some (.int r)) S' := by
  refine zM_of (zpl (by decide)) (Nat.le_of_ble_eq_true rfl) rfl (fun K hK hA => ?_)
  unfold f_X10_gainOf at hf
  refine j_iload_n hK dX10_gainOf_0 0 rfl rfl ?_
  refine j_iload_n hK dX10_gainOf_1 1 rfl rfl ?_
  refine j_icmp_le hK 7 dX10_gainOf_2 (by decide) (fun hc => ?_) (fun hc => ?_)
  · replace hf := if_1 hc hf
    refine j_iload_n hK dX10_gainOf_7 0 rfl rfl ?_
    refine j_iload_n hK dX10_gainOf_8 2 rfl rfl ?_
    refine j_iconst hK (4 : Int32) dX10_gainOf_9 ic_4 ?_
    refine j_idiv hK dX10_gainOf_10 (by decide) ?_
    refine j_iadd hK dX10_gainOf_11 ?_
    refine lt_I hf (fun y1 hf => ?_)
    refine j_istore_n hK (L' := [(3, .int y1), (0, .int p0), (1, .int p1), (2, .int p2)]) dX10_gainOf_12 rfl (by decide) rfl ?_
    refine j_iload_n hK dX10_gainOf_13 1 rfl rfl ?_
    refine j_pc (pc' := 14) rfl ?_
    refine j_iload_n hK dX10_gainOf_14 2 rfl rfl ?_
    refine j_icmp_ne hK 24 dX10_gainOf_15 (by decide) (fun hc => ?_) (fun hc => ?_)
    · replace hf := if_2 hc hf
      refine j_iload_n hK dX10_gainOf_24 0 rfl rfl ?_
      exact j_iret hK dX10_gainOf_25 rfl (rt_I hA hf)
    · replace hf := if_1 hc hf
      refine j_iload_n hK dX10_gainOf_18 0 rfl rfl ?_
      refine j_iconst hK (2 : Int32) dX10_gainOf_19 ic_2 ?_
      refine j_idiv hK dX10_gainOf_20 (by decide) ?_
      refine j_goto hK 25 dX10_gainOf_21 (by decide) ?_
      exact j_iret hK dX10_gainOf_25 rfl (rt_I hA hf)
  · replace hf := if_2 hc hf
    refine j_iconst hK (-1 : Int32) dX10_gainOf_5 ic_m1 ?_
    exact j_iret hK dX10_gainOf_6 rfl (rt_I hA hf)
def f_X10_isBestAnswer_10b (x1 : Int32) (x2 : Int32) (x3 : Int32) (e : Int32 → St → Option (Int32 × St)) (k : Int32 → St → Option (Int32 × St)) (v : Int32) (S : St) : Option (Int32 × St) := (if (10 : Int32) ≤ v then e v S else bd (f_X10_gainOf v x1 x2 S) (fun r1 S2 => (if r1 ≤ x3 then k (v + (1 : Int32)) S2 else some ((0 : Int32), S2))))
theorem t_X10_isBestAnswer_10 {K : CT} (hK : KO K cX10_isBestAnswer RX10 5 2 (some .boolean)) {r : Int32} {S' : St} (hA : zans K = (some (.int r), S')) {x1 : Int32} {x2 : Int32} {x3 : Int32} {e : Int32 → St → Option (Int32 × St)} (he : ∀ (v : Int32) (S : St), e v S = some (r, S') → J K 36 [] [] S) : ∀ (n : Nat) (v : Int32) (S : St), lp (f_X10_isBestAnswer_10b x1 x2 x3 e) n v S = some (r, S') → J K 10 [(1, .int x1), (2, .int x2), (3, .int x3), (4, .int v)] [] S :=
  lp_J (P := fun (v : Int32) (S : St) => J K 10 [(1, .int x1), (2, .int x2), (3, .int x3), (4, .int v)] [] S) (fun k hk v S hf => by
    unfold f_X10_isBestAnswer_10b at hf
    refine j_iload hK dX10_isBestAnswer_10 3 rfl ?_
    refine j_bipush hK (10 : Int32) dX10_isBestAnswer_12 bi_10 ?_
    refine j_icmp_ge hK 36 dX10_isBestAnswer_14 (by decide) (fun hc => ?_) (fun hc => ?_)
    · replace hf := if_1 hc hf
      refine j_sub [] rfl ?_
      exact he _ _ hf
    · replace hf := if_2 hc hf
      refine j_iload hK dX10_isBestAnswer_17 3 rfl ?_
      refine j_iload_n hK dX10_isBestAnswer_19 0 rfl rfl ?_
      refine j_iload_n hK dX10_isBestAnswer_20 1 rfl rfl ?_
      obtain ⟨r1, S2, h3, hf⟩ := bd_J hf
      refine k_callSi hK (c_X10_gainOf h3) dX10_isBestAnswer_21 ml_X10_406 ms_X10_gainOf in_X10 mc_X10_gainOf hy_X10_gainOf ⟨by decide, by decide⟩ rfl (Nat.le_of_ble_eq_true rfl) ?_
      refine j_iload_n hK dX10_isBestAnswer_24 2 rfl rfl ?_
      refine j_icmp_le hK 30 dX10_isBestAnswer_25 (by decide) (fun hc => ?_) (fun hc => ?_)
      · replace hf := if_1 hc hf
        refine j_iinc hK (L' := [(4, .int (v + (1 : Int32))), (1, .int x1), (2, .int x2), (3, .int x3)]) dX10_isBestAnswer_30 3 rfl (congrArg (fun y => v + y) ic_1) (by decide) rfl ?_
        refine j_goto hK 10 dX10_isBestAnswer_33 (by decide) ?_
        refine j_sub [1, 2, 3, 0] rfl ?_
        exact hk _ _ hf
      · replace hf := if_2 hc hf
        refine j_iconst hK (0 : Int32) dX10_isBestAnswer_28 ic_0 ?_
        exact j_zret hK dX10_isBestAnswer_29 rfl rfl (rt_I hA hf))
def f_X10_isBestAnswer (p0 : Int32) (p1 : Int32) (p2 : Int32) (S : St) : Option (Int32 × St) := bd (f_X10_gainOf p0 p1 p2 S) (fun r4 S5 => lp (f_X10_isBestAnswer_10b p1 p2 r4 (fun v7 S8 => some ((1 : Int32), S8))) FU (0 : Int32) S5)
theorem c_X10_isBestAnswer {p0 : Int32} {p1 : Int32} {p2 : Int32} {S : St} {r : Int32} {S' : St} (hf : f_X10_isBestAnswer p0 p1 p2 S = some (r, S')) : zM yX10_isBestAnswer cX10_isBestAnswer 5 2 (some .boolean) [.int p0, .int p1, .int p2] S (some (.int r)) S' := by
  refine zM_of (zpl (by decide)) (Nat.le_of_ble_eq_true rfl) rfl (fun K hK hA => ?_)
  unfold f_X10_isBestAnswer at hf
  refine j_iload_n hK dX10_isBestAnswer_0 0 rfl rfl ?_
  refine j_iload_n hK dX10_isBestAnswer_1 1 rfl rfl ?_
  refine j_iload_n hK dX10_isBestAnswer_2 2 rfl rfl ?_
  obtain ⟨r4, S5, h6, hf⟩ := bd_J hf
  refine k_callSi hK (c_X10_gainOf h6) dX10_isBestAnswer_3 ml_X10_406 ms_X10_gainOf in_X10 mc_X10_gainOf hy_X10_gainOf ⟨by decide, by decide⟩ rfl (Nat.le_of_ble_eq_true rfl) ?_
  refine j_istore_n hK (L' := [(3, .int r4), (0, .int p0), (1, .int p1), (2, .int p2)]) dX10_isBestAnswer_6 rfl (by decide) rfl ?_
  refine j_iconst hK (0 : Int32) dX10_isBestAnswer_7 ic_0 ?_
  refine j_istore hK (L' := [(4, .int (0 : Int32)), (3, .int r4), (0, .int p0), (1, .int p1), (2, .int p2)]) dX10_isBestAnswer_8 (by decide) rfl ?_
  refine j_sub [3, 4, 1, 0] rfl ?_
  refine t_X10_isBestAnswer_10 hK hA  (fun v7 S8 hf => ?_) _ _ _ hf
  refine j_iconst hK (1 : Int32) dX10_isBestAnswer_36 ic_1 ?_
  exact j_zret hK dX10_isBestAnswer_37 rfl rfl (rt_I hA hf)
