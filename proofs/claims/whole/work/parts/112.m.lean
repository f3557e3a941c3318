def f_X11_readsAct_135 (x1 : Int32) (s1 : Int32) (s2 : Int32) (S : St) : Option (Int32 × St) := if inb s1 60 then lt (sI S 142 s1.toNatClampNeg s2) (fun S2 => if inb x1 60 then (if (gI S2 142 x1.toNatClampNeg) < 0 then some ((0 : Int32), S2) else some ((1 : Int32), S2)) else none) else none
theorem t_X11_readsAct_135 {K : CT} (hK : KO K cX11_readsAct RX11 2 6 (some .boolean)) {r : Int32} {S' : St} (hA : zans K (some (.int r), S')) {x1 : Int32} {s1 : Int32} {s2 : Int32} {S : St} (hf : f_X11_readsAct_135 x1 s1 s2 S = some (r, S')) : J K 135 [(0, .ref 122), (1, .int x1)] [.int s2, .int s1, .ref 142] S := by
  unfold f_X11_readsAct_135 at hf
  obtain ⟨hi1, hf⟩ := gd hf
  refine k_iast hK dX11_readsAct_135 zb_142 hi1 rfl ?_
  refine lt_S hf (fun S2 hf => ?_)
  refine j_aload_n hK dX11_readsAct_136 0 rfl rfl ?_
  refine j_getR hK fl_X11_80 dX11_readsAct_137 zo_122 zf_11_34 zr_122_34 ?_
  refine j_iload_n hK dX11_readsAct_140 1 rfl rfl ?_
  obtain ⟨hi3, hf⟩ := gd hf
  refine k_iald hK dX11_readsAct_141 zb_142 hi3 rfl ?_
  refine j_if_lt hK 149 dX11_readsAct_142 (by decide) (fun hc => ?_) (fun hc => ?_)
  · replace hf := if_1 hc hf
    refine j_iconst hK (0 : Int32) dX11_readsAct_149 ic_0 ?_
    exact j_zret hK dX11_readsAct_150 rfl rfl (rt_I hA hf)
  · replace hf := if_2 hc hf
    refine j_iconst hK (1 : Int32) dX11_readsAct_145 ic_1 ?_
    refine j_goto hK 150 dX11_readsAct_146 (by decide) ?_
    exact j_zret hK dX11_readsAct_150 rfl rfl (rt_I hA hf)
def f_X11_readsAct_69 (x1 : Int32) (S : St) : Option (Int32 × St) := if inb x1 60 then (if (gI S 140 x1.toNatClampNeg) < 0 then some ((0 : Int32), S) else some ((1 : Int32), S)) else none
theorem t_X11_readsAct_69 {K : CT} (hK : KO K cX11_readsAct RX11 2 6 (some .boolean)) {r : Int32} {S' : St} (hA : zans K (some (.int r), S')) {x1 : Int32} {S : St} (hf : f_X11_readsAct_69 x1 S = some (r, S')) : J K 69 [(0, .ref 122), (1, .int x1)] [] S := by
  unfold f_X11_readsAct_69 at hf
  refine j_aload_n hK dX11_readsAct_69 0 rfl rfl ?_
  refine j_getR hK fl_X11_74 dX11_readsAct_70 zo_122 zf_11_32 zr_122_32 ?_
  refine j_iload_n hK dX11_readsAct_73 1 rfl rfl ?_
  obtain ⟨hi4, hf⟩ := gd hf
  refine k_iald hK dX11_readsAct_74 zb_140 hi4 rfl ?_
  refine j_if_lt hK 82 dX11_readsAct_75 (by decide) (fun hc => ?_) (fun hc => ?_)
  · replace hf := if_1 hc hf
    refine j_iconst hK (0 : Int32) dX11_readsAct_82 ic_0 ?_
    exact j_zret hK dX11_readsAct_83 rfl rfl (rt_I hA hf)
  · replace hf := if_2 hc hf
    refine j_iconst hK (1 : Int32) dX11_readsAct_78 ic_1 ?_
    refine j_goto hK 83 dX11_readsAct_79 (by decide) ?_
    exact j_zret hK dX11_readsAct_83 rfl rfl (rt_I hA hf)
def f_X11_readsAct (S : St) : Option (Int32 × St) := lt (gI S 122 35) (fun y5 => bd (f_X11_takesOf 4 S) (fun r6 S7 => if inb y5 60 then lt (sI S7 139 y5.toNatClampNeg r6) (fun S10 => lt (sI S10 122 35 ((gI S10 122 35) + (1 : Int32))) (fun S11 => if inb y5 60 then (if 0 ≤ (gI S11 139 y5.toNatClampNeg) then bd (f_X11_number (1 : Int32) S11) (fun r13 S14 => if inb y5 60 then lt (sI S14 140 y5.toNatClampNeg r13) (fun S17 => if inb y5 60 then (if (gI S17 140 y5.toNatClampNeg) < 0 then f_X11_readsAct_69 y5 S17 else if inb y5 60 then (if (2 : Int32) ≤ (gI S17 139 y5.toNatClampNeg) then bd (f_X11_number (1 : Int32) S17) (fun r20 S21 => if inb y5 60 then lt (sI S21 141 y5.toNatClampNeg r20) (fun S24 => if inb y5 60 then (if 0 ≤ (gI S24 141 y5.toNatClampNeg) then if inb y5 60 then (if (gI S24 139 y5.toNatClampNeg) = (2 : Int32) then bd (f_X11_readsLetters S24) (fun r30 S31 => f_X11_readsAct_135 y5 y5 (r30 - (1 : Int32)) S31) else bd (f_X11_number (1 : Int32) S24) (fun r27 S28 => f_X11_readsAct_135 y5 y5 r27 S28)) else none else some ((0 : Int32), S24)) else none) else none) else f_X11_readsAct_69 y5 S17) else none) else none) else none) else some ((0 : Int32), S11)) else none)) else none))
theorem c_X11_readsAct {S : St} {r : Int32} {S' : St} (hf : f_X11_readsAct S = some (r, S')) : zM yX11_readsAct cX11_readsAct 2 6 (some .boolean) [.ref 122] S (some (.int r)) S' := by
  refine zM_of (zpl (by decide)) (Nat.le_of_ble_eq_true rfl) rfl (fun K hK hA => ?_)
  unfold f_X11_readsAct at hf
  refine j_aload_n hK dX11_readsAct_0 0 rfl rfl ?_
  refine j_getI hK fl_X11_376 dX11_readsAct_1 zo_122 zf_11_35 ?_
  refine lt_I hf (fun y5 hf => ?_)
  refine j_istore_n hK (L' := [(1, .int y5), (0, .ref 122)]) dX11_readsAct_4 rfl (by decide) rfl ?_
  refine j_aload_n hK dX11_readsAct_5 1 rfl rfl ?_
  refine j_getR hK fl_X11_71 dX11_readsAct_6 zo_122 zf_11_31 zr_122_31 ?_
  refine j_iload_n hK dX11_readsAct_9 0 rfl rfl ?_
  refine j_aload_n hK dX11_readsAct_10 1 rfl rfl ?_
  refine j_ldcwS (i := 4) hK (fun _ _ _ h => h.1.2.2.2.2.2.2.2.2.2.2) dX11_readsAct_11 ?_
  refine j_pc (pc' := 14) rfl ?_
  obtain ⟨r6, S7, h8, hf⟩ := bd_J hf
  refine k_callVi hK (c_X11_takesOf (by decide) h8) dX11_readsAct_14 zclX11 zo_122 ml_X11_224 mi_X11_takesOf mx_X11_takesOf in_X11 mc_X11_takesOf hy_X11_takesOf ⟨by decide, by decide⟩ rfl (Nat.le_of_ble_eq_true rfl) ?_
  obtain ⟨hi9, hf⟩ := gd hf
  refine k_iast hK dX11_readsAct_17 zb_139 hi9 rfl ?_
  refine lt_S hf (fun S10 hf => ?_)
  refine j_aload_n hK dX11_readsAct_18 1 rfl rfl ?_
  refine j_dup hK dX11_readsAct_19 rfl ?_
  refine j_getI hK fl_X11_376 dX11_readsAct_20 zo_122 zf_11_35 ?_
  refine j_iconst hK (1 : Int32) dX11_readsAct_23 ic_1 ?_
  refine j_iadd hK dX11_readsAct_24 ?_
  refine j_putI hK fl_X11_376 dX11_readsAct_25 zo_122 zf_11_35 ?_
  refine lt_S hf (fun S11 hf => ?_)
  refine j_pc (pc' := 28) rfl ?_
  refine j_aload_n hK dX11_readsAct_28 1 rfl rfl ?_
  refine j_getR hK fl_X11_71 dX11_readsAct_29 zo_122 zf_11_31 zr_122_31 ?_
  refine j_iload_n hK dX11_readsAct_32 0 rfl rfl ?_
  obtain ⟨hi12, hf⟩ := gd hf
  refine k_iald hK dX11_readsAct_33 zb_139 hi12 rfl ?_
  refine j_if_ge hK 39 dX11_readsAct_34 (by decide) (fun hc => ?_) (fun hc => ?_)
  · replace hf := if_1 hc hf
    refine j_aload_n hK dX11_readsAct_39 1 rfl rfl ?_
    refine j_getR hK fl_X11_74 dX11_readsAct_40 zo_122 zf_11_32 zr_122_32 ?_
    refine j_iload_n hK dX11_readsAct_43 0 rfl rfl ?_
    refine j_aload_n hK dX11_readsAct_44 1 rfl rfl ?_
    refine j_iconst hK (1 : Int32) dX11_readsAct_45 ic_1 ?_
    obtain ⟨r13, S14, h15, hf⟩ := bd_J hf
    refine k_callVi hK (c_X11_number h15) dX11_readsAct_46 zclX11 zo_122 ml_X11_188 mi_X11_number mx_X11_number in_X11 mc_X11_number hy_X11_number ⟨by decide, by decide⟩ rfl (Nat.le_of_ble_eq_true rfl) ?_
    obtain ⟨hi16, hf⟩ := gd hf
    refine k_iast hK dX11_readsAct_49 zb_140 hi16 rfl ?_
    refine lt_S hf (fun S17 hf => ?_)
    refine j_pc (pc' := 50) rfl ?_
    refine j_aload_n hK dX11_readsAct_50 1 rfl rfl ?_
    refine j_getR hK fl_X11_74 dX11_readsAct_51 zo_122 zf_11_32 zr_122_32 ?_
    refine j_iload_n hK dX11_readsAct_54 0 rfl rfl ?_
    obtain ⟨hi18, hf⟩ := gd hf
    refine k_iald hK dX11_readsAct_55 zb_140 hi18 rfl ?_
    refine j_if_lt hK 69 dX11_readsAct_56 (by decide) (fun hc => ?_) (fun hc => ?_)
    · replace hf := if_1 hc hf
      refine j_sub [1, 0] rfl ?_
      exact t_X11_readsAct_69 hK hA  hf
    · replace hf := if_2 hc hf
      refine j_aload_n hK dX11_readsAct_59 1 rfl rfl ?_
      refine j_getR hK fl_X11_71 dX11_readsAct_60 zo_122 zf_11_31 zr_122_31 ?_
      refine j_iload_n hK dX11_readsAct_63 0 rfl rfl ?_
      obtain ⟨hi19, hf⟩ := gd hf
      refine k_iald hK dX11_readsAct_64 zb_139 hi19 rfl ?_
      refine j_iconst hK (2 : Int32) dX11_readsAct_65 ic_2 ?_
      refine j_icmp_ge hK 84 dX11_readsAct_66 (by decide) (fun hc => ?_) (fun hc => ?_)
      · replace hf := if_1 hc hf
        refine j_aload_n hK dX11_readsAct_84 1 rfl rfl ?_
        refine j_getR hK fl_X11_77 dX11_readsAct_85 zo_122 zf_11_33 zr_122_33 ?_
        refine j_iload_n hK dX11_readsAct_88 0 rfl rfl ?_
        refine j_aload_n hK dX11_readsAct_89 1 rfl rfl ?_
        refine j_iconst hK (1 : Int32) dX11_readsAct_90 ic_1 ?_
        obtain ⟨r20, S21, h22, hf⟩ := bd_J hf
        refine k_callVi hK (c_X11_number h22) dX11_readsAct_91 zclX11 zo_122 ml_X11_188 mi_X11_number mx_X11_number in_X11 mc_X11_number hy_X11_number ⟨by decide, by decide⟩ rfl (Nat.le_of_ble_eq_true rfl) ?_
        obtain ⟨hi23, hf⟩ := gd hf
        refine k_iast hK dX11_readsAct_94 zb_141 hi23 rfl ?_
        refine lt_S hf (fun S24 hf => ?_)
        refine j_pc (pc' := 95) rfl ?_
        refine j_aload_n hK dX11_readsAct_95 1 rfl rfl ?_
        refine j_getR hK fl_X11_77 dX11_readsAct_96 zo_122 zf_11_33 zr_122_33 ?_
        refine j_iload_n hK dX11_readsAct_99 0 rfl rfl ?_
        obtain ⟨hi25, hf⟩ := gd hf
        refine k_iald hK dX11_readsAct_100 zb_141 hi25 rfl ?_
        refine j_if_ge hK 106 dX11_readsAct_101 (by decide) (fun hc => ?_) (fun hc => ?_)
        · replace hf := if_1 hc hf
          refine j_aload_n hK dX11_readsAct_106 1 rfl rfl ?_
          refine j_getR hK fl_X11_80 dX11_readsAct_107 zo_122 zf_11_34 zr_122_34 ?_
          refine j_iload_n hK dX11_readsAct_110 0 rfl rfl ?_
          refine j_aload_n hK dX11_readsAct_111 1 rfl rfl ?_
          refine j_getR hK fl_X11_71 dX11_readsAct_112 zo_122 zf_11_31 zr_122_31 ?_
          refine j_iload_n hK dX11_readsAct_115 0 rfl rfl ?_
          obtain ⟨hi26, hf⟩ := gd hf
          refine k_iald hK dX11_readsAct_116 zb_139 hi26 rfl ?_
          refine j_pc (pc' := 117) rfl ?_
          refine j_iconst hK (2 : Int32) dX11_readsAct_117 ic_2 ?_
          refine j_icmp_ne hK 130 dX11_readsAct_118 (by decide) (fun hc => ?_) (fun hc => ?_)
          · replace hf := if_2 hc hf
            refine j_aload_n hK dX11_readsAct_130 1 rfl rfl ?_
            refine j_iconst hK (1 : Int32) dX11_readsAct_131 ic_1 ?_
            obtain ⟨r27, S28, h29, hf⟩ := bd_J hf
            refine k_callVi hK (c_X11_number h29) dX11_readsAct_132 zclX11 zo_122 ml_X11_188 mi_X11_number mx_X11_number in_X11 mc_X11_number hy_X11_number ⟨by decide, by decide⟩ rfl (Nat.le_of_ble_eq_true rfl) ?_
            refine j_sub [1, 0] rfl ?_
            exact t_X11_readsAct_135 hK hA  hf
          · replace hf := if_1 hc hf
            refine j_aload_n hK dX11_readsAct_121 1 rfl rfl ?_
            obtain ⟨r30, S31, h32, hf⟩ := bd_J hf
            refine k_callVi hK (c_X11_readsLetters h32) dX11_readsAct_122 zclX11 zo_122 ml_X11_330 mi_X11_readsLetters mx_X11_readsLetters in_X11 mc_X11_readsLetters hy_X11_readsLetters ⟨by decide, by decide⟩ rfl (Nat.le_of_ble_eq_true rfl) ?_
            refine j_iconst hK (1 : Int32) dX11_readsAct_125 ic_1 ?_
            refine j_isub hK dX11_readsAct_126 ?_
            refine j_goto hK 135 dX11_readsAct_127 (by decide) ?_
            refine j_sub [1, 0] rfl ?_
            exact t_X11_readsAct_135 hK hA  hf
        · replace hf := if_2 hc hf
          refine j_iconst hK (0 : Int32) dX11_readsAct_104 ic_0 ?_
          exact j_zret hK dX11_readsAct_105 rfl rfl (rt_I hA hf)
      · replace hf := if_2 hc hf
        refine j_sub [1, 0] rfl ?_
        exact t_X11_readsAct_69 hK hA  hf
  · replace hf := if_2 hc hf
    refine j_iconst hK (0 : Int32) dX11_readsAct_37 ic_0 ?_
    exact j_zret hK dX11_readsAct_38 rfl rfl (rt_I hA hf)
def f_X11_does (p1 : Int32) (S : St) : Option (Int32 × St) := if inb p1 60 then lt (gI S 140 p1.toNatClampNeg) (fun y2 => if inb p1 60 then (if (gI S 139 p1.toNatClampNeg) = (0 : Int32) then bd (f_X11_hoursGo 126 y2 S) (fun r5 S6 => some ((1 : Int32), S6)) else (if (gI S 139 p1.toNatClampNeg) = (1 : Int32) then bd (f_X11_fallsOne 126 y2 S) (fun r9 S10 => (if r9 < 0 then some ((0 : Int32), S10) else some ((1 : Int32), S10))) else (if (gI S 139 p1.toNatClampNeg) = (2 : Int32) then if inb p1 60 then bd (f_X11_isEcho 126 y2 (gI S 141 p1.toNatClampNeg) S) (fun r14 S15 => (if r14 = 0 then some ((0 : Int32), S15) else if inb p1 60 then bd (f_X11_laysEcho 126 y2 (gI S15 141 p1.toNatClampNeg) S15) (fun r18 S19 => bd (f_X11_wears 126 S19) (fun r21 S22 => some ((1 : Int32), S22))) else none)) else none else if inb p1 60 then if inb p1 60 then bd (f_X11_digsOne y2 (gI S 141 p1.toNatClampNeg) (gI S 142 p1.toNatClampNeg) S) (fun r26 S27 => (if r26 < 0 then some ((0 : Int32), S27) else some ((1 : Int32), S27))) else none else none))) else none) else none
theorem c_X11_does {p1 : Int32} {S : St} {r : Int32} {S' : St} (hf : f_X11_does p1 S = some (r, S')) : zM yX11_does cX11_does 3 4 (some .boolean) [.ref 122, .int p1] S (some (.int r)) S' := by
  refine zM_of (zpl (by decide)) (Nat.le_of_ble_eq_true rfl) rfl (fun K hK hA => ?_)
  unfold f_X11_does at hf
  refine j_aload_n hK dX11_does_0 0 rfl rfl ?_
  refine j_getR hK fl_X11_74 dX11_does_1 zo_122 zf_11_32 zr_122_32 ?_
  refine j_iload_n hK dX11_does_4 1 rfl rfl ?_
  obtain ⟨hi1, hf⟩ := gd hf
  refine k_iald hK dX11_does_5 zb_140 hi1 rfl ?_
  refine lt_I hf (fun y2 hf => ?_)
  refine j_istore_n hK (L' := [(2, .int y2), (0, .ref 122), (1, .int p1)]) dX11_does_6 rfl (by decide) rfl ?_
  refine j_aload_n hK dX11_does_7 1 rfl rfl ?_
  refine j_getR hK fl_X11_71 dX11_does_8 zo_122 zf_11_31 zr_122_31 ?_
  refine j_iload_n hK dX11_does_11 2 rfl rfl ?_
  refine j_pc (pc' := 12) rfl ?_
  obtain ⟨hi3, hf⟩ := gd hf
  refine k_iald hK dX11_does_12 zb_139 hi3 rfl ?_
  by_cases hs4 : (gI S 139 p1.toNatClampNeg) = (0 : Int32)
  · replace hf := if_1 hs4 hf
    refine j_tabC hK (0 : Int32) 40 dX11_does_13 hs4 (by decide) rfl (by decide) ?_
    refine j_aload_n hK dX11_does_40 1 rfl rfl ?_
    refine j_aload_n hK dX11_does_41 1 rfl rfl ?_
    refine j_getR hK fl_X11_31 dX11_does_42 zo_122 zf_11_7 zr_122_7 ?_
    refine j_iload_n hK dX11_does_45 0 rfl rfl ?_
    obtain ⟨r5, S6, h7, hf⟩ := bd_J hf
    refine k_callVv hK (c_X11_hoursGo zb_126 h7) dX11_does_46 zclX11 zo_122 ml_X11_364 mi_X11_hoursGo mx_X11_hoursGo in_X11 mc_X11_hoursGo hy_X11_hoursGo ⟨by decide, by decide⟩ rfl (Nat.le_of_ble_eq_true rfl) ?_
    refine j_iconst hK (1 : Int32) dX11_does_49 ic_1 ?_
    exact j_zret hK dX11_does_50 rfl rfl (rt_I hA hf)
  · replace hf := if_2 hs4 hf
    by_cases hs8 : (gI S 139 p1.toNatClampNeg) = (1 : Int32)
    · replace hf := if_1 hs8 hf
      refine j_tabC hK (1 : Int32) 51 dX11_does_13 hs8 (by decide) rfl (by decide) ?_
      refine j_aload_n hK dX11_does_51 1 rfl rfl ?_
      refine j_aload_n hK dX11_does_52 1 rfl rfl ?_
      refine j_getR hK fl_X11_31 dX11_does_53 zo_122 zf_11_7 zr_122_7 ?_
      refine j_iload_n hK dX11_does_56 0 rfl rfl ?_
      obtain ⟨r9, S10, h11, hf⟩ := bd_J hf
      refine k_callVi hK (c_X11_fallsOne zb_126 h11) dX11_does_57 zclX11 zo_122 ml_X11_367 mi_X11_fallsOne mx_X11_fallsOne in_X11 mc_X11_fallsOne hy_X11_fallsOne ⟨by decide, by decide⟩ rfl (Nat.le_of_ble_eq_true rfl) ?_
      refine j_if_lt hK 67 dX11_does_60 (by decide) (fun hc => ?_) (fun hc => ?_)
      · replace hf := if_1 hc hf
        refine j_iconst hK (0 : Int32) dX11_does_67 ic_0 ?_
        exact j_zret hK dX11_does_68 rfl rfl (rt_I hA hf)
      · replace hf := if_2 hc hf
        refine j_iconst hK (1 : Int32) dX11_does_63 ic_1 ?_
        refine j_goto hK 68 dX11_does_64 (by decide) ?_
        exact j_zret hK dX11_does_68 rfl rfl (rt_I hA hf)
    · replace hf := if_2 hs8 hf
      by_cases hs12 : (gI S 139 p1.toNatClampNeg) = (2 : Int32)
      · replace hf := if_1 hs12 hf
        refine j_tabC hK (2 : Int32) 69 dX11_does_13 hs12 (by decide) rfl (by decide) ?_
        refine j_aload_n hK dX11_does_69 1 rfl rfl ?_
        refine j_aload_n hK dX11_does_70 1 rfl rfl ?_
        refine j_getR hK fl_X11_31 dX11_does_71 zo_122 zf_11_7 zr_122_7 ?_
        refine j_iload_n hK dX11_does_74 0 rfl rfl ?_
        refine j_aload_n hK dX11_does_75 1 rfl rfl ?_
        refine j_getR hK fl_X11_77 dX11_does_76 zo_122 zf_11_33 zr_122_33 ?_
        refine j_iload_n hK dX11_does_79 2 rfl rfl ?_
        refine j_pc (pc' := 80) rfl ?_
        obtain ⟨hi13, hf⟩ := gd hf
        refine k_iald hK dX11_does_80 zb_141 hi13 rfl ?_
        obtain ⟨r14, S15, h16, hf⟩ := bd_J hf
        refine k_callVi hK (c_X11_isEcho zb_126 h16) dX11_does_81 zclX11 zo_122 ml_X11_326 mi_X11_isEcho mx_X11_isEcho in_X11 mc_X11_isEcho hy_X11_isEcho ⟨by decide, by decide⟩ rfl (Nat.le_of_ble_eq_true rfl) ?_
        refine j_if_ne hK 89 dX11_does_84 (by decide) (fun hc => ?_) (fun hc => ?_)
        · replace hf := if_2 hc hf
          refine j_aload_n hK dX11_does_89 1 rfl rfl ?_
          refine j_aload_n hK dX11_does_90 1 rfl rfl ?_
          refine j_getR hK fl_X11_31 dX11_does_91 zo_122 zf_11_7 zr_122_7 ?_
          refine j_iload_n hK dX11_does_94 0 rfl rfl ?_
          refine j_aload_n hK dX11_does_95 1 rfl rfl ?_
          refine j_getR hK fl_X11_77 dX11_does_96 zo_122 zf_11_33 zr_122_33 ?_
          refine j_iload_n hK dX11_does_99 2 rfl rfl ?_
          refine j_pc (pc' := 100) rfl ?_
          obtain ⟨hi17, hf⟩ := gd hf
          refine k_iald hK dX11_does_100 zb_141 hi17 rfl ?_
          obtain ⟨r18, S19, h20, hf⟩ := bd_J hf
          refine k_callVv hK (c_X11_laysEcho zb_126 h20) dX11_does_101 zclX11 zo_122 ml_X11_336 mi_X11_laysEcho mx_X11_laysEcho in_X11 mc_X11_laysEcho hy_X11_laysEcho ⟨by decide, by decide⟩ rfl (Nat.le_of_ble_eq_true rfl) ?_
          refine j_aload_n hK dX11_does_104 1 rfl rfl ?_
          refine j_aload_n hK dX11_does_105 1 rfl rfl ?_
          refine j_getR hK fl_X11_31 dX11_does_106 zo_122 zf_11_7 zr_122_7 ?_
          obtain ⟨r21, S22, h23, hf⟩ := bd_J hf
          refine k_callVv hK (c_X11_wears zb_126 h23) dX11_does_109 zclX11 zo_122 ml_X11_351 mi_X11_wears mx_X11_wears in_X11 mc_X11_wears hy_X11_wears ⟨by decide, by decide⟩ rfl (Nat.le_of_ble_eq_true rfl) ?_
          refine j_iconst hK (1 : Int32) dX11_does_112 ic_1 ?_
          exact j_zret hK dX11_does_113 rfl rfl (rt_I hA hf)
        · replace hf := if_1 hc hf
          refine j_iconst hK (0 : Int32) dX11_does_87 ic_0 ?_
          exact j_zret hK dX11_does_88 rfl rfl (rt_I hA hf)
      · replace hf := if_2 hs12 hf
        refine j_tabOut hK 114 dX11_does_13 (by have q := And.intro (ne_toInt 0 (by decide) hs4) (And.intro (ne_toInt 1 (by decide) hs8) (And.intro (ne_toInt 2 (by decide) hs12) trivial)); omega) (by decide) ?_
        refine j_aload_n hK dX11_does_114 1 rfl rfl ?_
        refine j_iload_n hK dX11_does_115 0 rfl rfl ?_
        refine j_aload_n hK dX11_does_116 1 rfl rfl ?_
        refine j_getR hK fl_X11_77 dX11_does_117 zo_122 zf_11_33 zr_122_33 ?_
        refine j_iload_n hK dX11_does_120 2 rfl rfl ?_
        obtain ⟨hi24, hf⟩ := gd hf
        refine k_iald hK dX11_does_121 zb_141 hi24 rfl ?_
        refine j_aload_n hK dX11_does_122 1 rfl rfl ?_
        refine j_pc (pc' := 123) rfl ?_
        refine j_getR hK fl_X11_80 dX11_does_123 zo_122 zf_11_34 zr_122_34 ?_
        refine j_iload_n hK dX11_does_126 2 rfl rfl ?_
        obtain ⟨hi25, hf⟩ := gd hf
        refine k_iald hK dX11_does_127 zb_142 hi25 rfl ?_
        obtain ⟨r26, S27, h28, hf⟩ := bd_J hf
        refine k_callVi hK (c_X11_digsOne h28) dX11_does_128 zclX11 zo_122 ml_X11_373 mi_X11_digsOne mx_X11_digsOne in_X11 mc_X11_digsOne hy_X11_digsOne ⟨by decide, by decide⟩ rfl (Nat.le_of_ble_eq_true rfl) ?_
        refine j_if_lt hK 138 dX11_does_131 (by decide) (fun hc => ?_) (fun hc => ?_)
        · replace hf := if_1 hc hf
          refine j_iconst hK (0 : Int32) dX11_does_138 ic_0 ?_
          exact j_zret hK dX11_does_139 rfl rfl (rt_I hA hf)
        · replace hf := if_2 hc hf
          refine j_iconst hK (1 : Int32) dX11_does_134 ic_1 ?_
          refine j_goto hK 139 dX11_does_135 (by decide) ?_
          exact j_zret hK dX11_does_139 rfl rfl (rt_I hA hf)
def f_X11_season_108 (x4 : Int32) (s1 : Int32) (S : St) : Option (Int32 × St) := bd (f_X11_flag s1 S) (fun r1 S2 => bd (f_X11_enters r1.toInt64 S2) (fun r4 S5 => bd (f_X11_enters (gI S5 126 38).toInt64 S5) (fun r7 S8 => (if x4 ≤ 0 then some ((0 : Int32), S8) else bd (f_X11_adds x4 S8) (fun r10 S11 => some (r10, S11))))))
theorem t_X11_season_108 {K : CT} (hK : KO K cX11_season RX11 5 7 (some .int)) {r : Int32} {S' : St} (hA : zans K (some (.int r), S')) {x4 : Int32} {s1 : Int32} {S : St} (hf : f_X11_season_108 x4 s1 S = some (r, S')) : J K 108 [(0, .ref 122), (4, .int x4)] [.int s1, .ref 122] S := by
  unfold f_X11_season_108 at hf
  obtain ⟨r1, S2, h3, hf⟩ := bd_J hf
  refine k_callSi hK (c_X11_flag h3) dX11_season_108 ml_X11_155 ms_X11_flag in_X11 mc_X11_flag hy_X11_flag ⟨by decide, by decide⟩ rfl (Nat.le_of_ble_eq_true rfl) ?_
  refine j_i2l hK dX11_season_111 ?_
  obtain ⟨r4, S5, h6, hf⟩ := bd_J hf
  refine k_callVv hK (c_X11_enters h6) dX11_season_112 zclX11 zo_122 ml_X11_340 mi_X11_enters mx_X11_enters in_X11 mc_X11_enters hy_X11_enters ⟨by decide, by decide⟩ rfl (Nat.le_of_ble_eq_true rfl) ?_
  refine j_aload_n hK dX11_season_115 0 rfl rfl ?_
  refine j_aload_n hK dX11_season_116 0 rfl rfl ?_
  refine j_getR hK fl_X11_31 dX11_season_117 zo_122 zf_11_7 zr_122_7 ?_
  refine j_bipush hK (38 : Int32) dX11_season_120 bi_38 ?_
  refine k_iald hK dX11_season_122 zb_126 (by decide) tn_38 ?_
  refine j_pc (pc' := 123) rfl ?_
  refine j_i2l hK dX11_season_123 ?_
  obtain ⟨r7, S8, h9, hf⟩ := bd_J hf
  refine k_callVv hK (c_X11_enters h9) dX11_season_124 zclX11 zo_122 ml_X11_340 mi_X11_enters mx_X11_enters in_X11 mc_X11_enters hy_X11_enters ⟨by decide, by decide⟩ rfl (Nat.le_of_ble_eq_true rfl) ?_
  refine j_iload hK dX11_season_127 1 rfl ?_
  refine j_if_le hK 141 dX11_season_129 (by decide) (fun hc => ?_) (fun hc => ?_)
  · replace hf := if_1 hc hf
    refine j_iconst hK (0 : Int32) dX11_season_141 ic_0 ?_
    exact j_iret hK dX11_season_142 rfl (rt_I hA hf)
  · replace hf := if_2 hc hf
    refine j_aload_n hK dX11_season_132 0 rfl rfl ?_
    refine j_iload hK dX11_season_133 1 rfl ?_
    obtain ⟨r10, S11, h12, hf⟩ := bd_J hf
    refine k_callVi hK (c_X11_adds h12) dX11_season_135 zclX11 zo_122 ml_X11_320 mi_X11_adds mx_X11_adds in_X11 mc_X11_adds hy_X11_adds ⟨by decide, by decide⟩ rfl (Nat.le_of_ble_eq_true rfl) ?_
    refine j_goto hK 142 dX11_season_138 (by decide) ?_
    exact j_iret hK dX11_season_142 rfl (rt_I hA hf)
def f_X11_season_64b (e : Int32 → St → Option (Int32 × St)) (k : Int32 → St → Option (Int32 × St)) (v : Int32) (S : St) : Option (Int32 × St) := (if (gI S 122 35) ≤ v then e v S else bd (f_X11_does v S) (fun r13 S14 => (if r13 = 0 then e v S14 else k (v + (1 : Int32)) S14)))
theorem t_X11_season_64 {K : CT} (hK : KO K cX11_season RX11 5 7 (some .int)) {r : Int32} {S' : St} (hA : zans K (some (.int r), S')) {e : Int32 → St → Option (Int32 × St)} (he : ∀ (v : Int32) (S : St), e v S = some (r, S') → J K 88 [(0, .ref 122), (4, .int v)] [] S) : ∀ (n : Nat) (v : Int32) (S : St), lp (f_X11_season_64b  e) n v S = some (r, S') → J K 64 [(0, .ref 122), (4, .int v)] [] S :=
  lp_J (P := fun (v : Int32) (S : St) => J K 64 [(0, .ref 122), (4, .int v)] [] S) (fun k hk v S hf => by
    unfold f_X11_season_64b at hf
    refine j_iload hK dX11_season_64 1 rfl ?_
    refine j_aload_n hK dX11_season_66 0 rfl rfl ?_
    refine j_getI hK fl_X11_376 dX11_season_67 zo_122 zf_11_35 ?_
    refine j_icmp_ge hK 88 dX11_season_70 (by decide) (fun hc => ?_) (fun hc => ?_)
    · replace hf := if_1 hc hf
      exact he _ _ hf
    · replace hf := if_2 hc hf
      refine j_aload_n hK dX11_season_73 0 rfl rfl ?_
      refine j_iload hK dX11_season_74 1 rfl ?_
      obtain ⟨r13, S14, h15, hf⟩ := bd_J hf
      refine k_callVi hK (c_X11_does h15) dX11_season_76 zclX11 zo_122 ml_X11_384 mi_X11_does mx_X11_does in_X11 mc_X11_does hy_X11_does ⟨by decide, by decide⟩ rfl (Nat.le_of_ble_eq_true rfl) ?_
      refine j_if_eq hK 88 dX11_season_79 (by decide) (fun hc => ?_) (fun hc => ?_)
      · replace hf := if_1 hc hf
        exact he _ _ hf
      · replace hf := if_2 hc hf
        refine j_iinc hK (L' := [(4, .int (v + (1 : Int32))), (0, .ref 122)]) dX11_season_82 1 rfl (congrArg (fun y => v + y) ic_1) (by decide) rfl ?_
        refine j_goto hK 64 dX11_season_85 (by decide) ?_
        refine j_sub [1, 0] rfl ?_
        exact hk _ _ hf)
def f_X11_season_19b (x1 : Int32) (e : Int32 → St → Option (Int32 × St)) (k : Int32 → St → Option (Int32 × St)) (v : Int32) (S : St) : Option (Int32 × St) := (if v = 0 then e v S else (if (gI S 122 12) ≤ (gI S 122 11) then e v S else bd (f_X11_readsAct S) (fun r16 S17 => k r16 S17)))
theorem t_X11_season_19 {K : CT} (hK : KO K cX11_season RX11 5 7 (some .int)) {r : Int32} {S' : St} (hA : zans K (some (.int r), S')) {x1 : Int32} {e : Int32 → St → Option (Int32 × St)} (he : ∀ (v : Int32) (S : St), e v S = some (r, S') → J K 42 [(0, .ref 122), (1, .int x1), (2, .int v)] [] S) : ∀ (n : Nat) (v : Int32) (S : St), lp (f_X11_season_19b x1 e) n v S = some (r, S') → J K 19 [(0, .ref 122), (1, .int x1), (2, .int v)] [] S :=
  lp_J (P := fun (v : Int32) (S : St) => J K 19 [(0, .ref 122), (1, .int x1), (2, .int v)] [] S) (fun k hk v S hf => by
    unfold f_X11_season_19b at hf
    refine j_iload_n hK dX11_season_19 2 rfl rfl ?_
    refine j_if_eq hK 42 dX11_season_20 (by decide) (fun hc => ?_) (fun hc => ?_)
    · replace hf := if_1 hc hf
      exact he _ _ hf
    · replace hf := if_2 hc hf
      refine j_aload_n hK dX11_season_23 0 rfl rfl ?_
      refine j_getI hK fl_X11_140 dX11_season_24 zo_122 zf_11_11 ?_
      refine j_aload_n hK dX11_season_27 0 rfl rfl ?_
      refine j_getI hK fl_X11_152 dX11_season_28 zo_122 zf_11_12 ?_
      refine j_icmp_ge hK 42 dX11_season_31 (by decide) (fun hc => ?_) (fun hc => ?_)
      · replace hf := if_1 hc hf
        exact he _ _ hf
      · replace hf := if_2 hc hf
        refine j_aload_n hK dX11_season_34 0 rfl rfl ?_
        obtain ⟨r16, S17, h18, hf⟩ := bd_J hf
        refine k_callVi hK (c_X11_readsAct h18) dX11_season_35 zclX11 zo_122 ml_X11_381 mi_X11_readsAct mx_X11_readsAct in_X11 mc_X11_readsAct hy_X11_readsAct ⟨by decide, by decide⟩ rfl (Nat.le_of_ble_eq_true rfl) ?_
        refine j_istore_n hK (L' := [(2, .int r16), (0, .ref 122), (1, .int x1)]) dX11_season_38 rfl (by decide) rfl ?_
        refine j_goto hK 19 dX11_season_39 (by decide) ?_
        refine j_sub [1, 2, 0] rfl ?_
        exact hk _ _ hf)
def f_X11_season (S : St) : Option (Int32 × St) := lt (sI S 122 0 (0 : Int32)) (fun S19 => bd (f_X11_begins (60 : Int32) S19) (fun r20 S21 => lt (sI S21 122 35 (0 : Int32)) (fun S23 => lp (f_X11_season_19b r20 (fun v24 S25 => bd (f_X11_faultOf r20 (60 : Int32) v24 S25) (fun r26 S27 => (if 0 ≤ r26 then bd (f_X11_putsBy S27) (fun r29 S30 => lp (f_X11_season_64b  (fun v32 S33 => lt (sI S33 122 1 (0 : Int32)) (fun S34 => (if (gI S34 122 35) ≤ v32 then f_X11_season_108 v32 (0 : Int32) S34 else f_X11_season_108 v32 (1 : Int32) S34)))) FU (0 : Int32) S30) else some (r26, S27))))) FU (1 : Int32) S23)))
theorem c_X11_season {S : St} {r : Int32} {S' : St} (hf : f_X11_season S = some (r, S')) : zM yX11_season cX11_season 5 7 (some .int) [.ref 122] S (some (.int r)) S' := by
  refine zM_of (zpl (by decide)) (Nat.le_of_ble_eq_true rfl) rfl (fun K hK hA => ?_)
  unfold f_X11_season at hf
  refine j_aload_n hK dX11_season_0 0 rfl rfl ?_
  refine j_iconst hK (0 : Int32) dX11_season_1 ic_0 ?_
  refine j_putI hK fl_X11_3 dX11_season_2 zo_122 zf_11_0 ?_
  refine lt_S hf (fun S19 hf => ?_)
  refine j_aload_n hK dX11_season_5 0 rfl rfl ?_
  refine j_bipush hK (60 : Int32) dX11_season_6 bi_60 ?_
  obtain ⟨r20, S21, h22, hf⟩ := bd_J hf
  refine k_callVi hK (c_X11_begins h22) dX11_season_8 zclX11 zo_122 ml_X11_192 mi_X11_begins mx_X11_begins in_X11 mc_X11_begins hy_X11_begins ⟨by decide, by decide⟩ rfl (Nat.le_of_ble_eq_true rfl) ?_
  refine j_istore_n hK (L' := [(1, .int r20), (0, .ref 122)]) dX11_season_11 rfl (by decide) rfl ?_
  refine j_aload_n hK dX11_season_12 1 rfl rfl ?_
  refine j_pc (pc' := 13) rfl ?_
  refine j_iconst hK (0 : Int32) dX11_season_13 ic_0 ?_
  refine j_putI hK fl_X11_376 dX11_season_14 zo_122 zf_11_35 ?_
  refine lt_S hf (fun S23 hf => ?_)
  refine j_iconst hK (1 : Int32) dX11_season_17 ic_1 ?_
  refine j_istore_n hK (L' := [(2, .int (1 : Int32)), (1, .int r20), (0, .ref 122)]) dX11_season_18 rfl (by decide) rfl ?_
  refine j_sub [2, 1, 0] rfl ?_
  refine t_X11_season_19 hK hA  (fun v24 S25 hf => ?_) _ _ _ hf
  refine j_aload_n hK dX11_season_42 0 rfl rfl ?_
  refine j_iload_n hK dX11_season_43 1 rfl rfl ?_
  refine j_bipush hK (60 : Int32) dX11_season_44 bi_60 ?_
  refine j_iload_n hK dX11_season_46 2 rfl rfl ?_
  obtain ⟨r26, S27, h28, hf⟩ := bd_J hf
  refine k_callVi hK (c_X11_faultOf h28) dX11_season_47 zclX11 zo_122 ml_X11_202 mi_X11_faultOf mx_X11_faultOf in_X11 mc_X11_faultOf hy_X11_faultOf ⟨by decide, by decide⟩ rfl (Nat.le_of_ble_eq_true rfl) ?_
  refine j_istore_n hK (L' := [(3, .int r26), (0, .ref 122), (1, .int r20), (2, .int v24)]) dX11_season_50 rfl (by decide) rfl ?_
  refine j_iload_n hK dX11_season_51 0 rfl rfl ?_
  refine j_pc (pc' := 52) rfl ?_
  refine j_if_ge hK 57 dX11_season_52 (by decide) (fun hc => ?_) (fun hc => ?_)
  · replace hf := if_1 hc hf
    refine j_aload_n hK dX11_season_57 1 rfl rfl ?_
    obtain ⟨r29, S30, h31, hf⟩ := bd_J hf
    refine k_callVv hK (c_X11_putsBy h31) dX11_season_58 zclX11 zo_122 ml_X11_348 mi_X11_putsBy mx_X11_putsBy in_X11 mc_X11_putsBy hy_X11_putsBy ⟨by decide, by decide⟩ rfl (Nat.le_of_ble_eq_true rfl) ?_
    refine j_iconst hK (0 : Int32) dX11_season_61 ic_0 ?_
    refine j_istore hK (L' := [(4, .int (0 : Int32)), (3, .int r26), (0, .ref 122), (1, .int r20), (2, .int v24)]) dX11_season_62 (by decide) rfl ?_
    refine j_sub [2, 0] rfl ?_
    refine t_X11_season_64 hK hA  (fun v32 S33 hf => ?_) _ _ _ hf
    refine j_aload_n hK dX11_season_88 0 rfl rfl ?_
    refine j_iconst hK (0 : Int32) dX11_season_89 ic_0 ?_
    refine j_putI hK fl_X11_15 dX11_season_90 zo_122 zf_11_1 ?_
    refine lt_S hf (fun S34 hf => ?_)
    refine j_aload_n hK dX11_season_93 0 rfl rfl ?_
    refine j_iload hK dX11_season_94 1 rfl ?_
    refine j_aload_n hK dX11_season_96 0 rfl rfl ?_
    refine j_getI hK fl_X11_376 dX11_season_97 zo_122 zf_11_35 ?_
    refine j_pc (pc' := 100) rfl ?_
    refine j_icmp_ge hK 107 dX11_season_100 (by decide) (fun hc => ?_) (fun hc => ?_)
    · replace hf := if_1 hc hf
      refine j_iconst hK (0 : Int32) dX11_season_107 ic_0 ?_
      exact t_X11_season_108 hK hA  hf
    · replace hf := if_2 hc hf
      refine j_iconst hK (1 : Int32) dX11_season_103 ic_1 ?_
      refine j_goto hK 108 dX11_season_104 (by decide) ?_
      exact t_X11_season_108 hK hA  hf
  · replace hf := if_2 hc hf
    refine j_iload_n hK dX11_season_55 0 rfl rfl ?_
    exact j_iret hK dX11_season_56 rfl (rt_I hA hf)
def f_X11_copies_2b (e : Int32 → St → Option (Unit × St)) (k : Int32 → St → Option (Unit × St)) (v : Int32) (S : St) : Option (Unit × St) := (if (39 : Int32) ≤ v then e v S else if inb v 39 then if inb v 39 then lt (sI S 127 v.toNatClampNeg (gI S 126 v.toNatClampNeg)) (fun S3 => k (v + (1 : Int32)) S3) else none else none)
theorem t_X11_copies_2 {K : CT} (hK : KO K cX11_copies RX11 2 1 none) {r : Unit} {S' : St} (hA : zans K (none, S')) {e : Int32 → St → Option (Unit × St)} (he : ∀ (v : Int32) (S : St), e v S = some (r, S') → J K 26 [] [] S) : ∀ (n : Nat) (v : Int32) (S : St), lp (f_X11_copies_2b  e) n v S = some (r, S') → J K 2 [(0, .ref 122), (1, .int v)] [] S :=
  lp_J (P := fun (v : Int32) (S : St) => J K 2 [(0, .ref 122), (1, .int v)] [] S) (fun k hk v S hf => by
    unfold f_X11_copies_2b at hf
    refine j_iload_n hK dX11_copies_2 1 rfl rfl ?_
    refine j_bipush hK (39 : Int32) dX11_copies_3 bi_39 ?_
    refine j_icmp_ge hK 26 dX11_copies_5 (by decide) (fun hc => ?_) (fun hc => ?_)
    · replace hf := if_1 hc hf
      refine j_sub [] rfl ?_
      exact he _ _ hf
    · replace hf := if_2 hc hf
      refine j_aload_n hK dX11_copies_8 0 rfl rfl ?_
      refine j_getR hK fl_X11_34 dX11_copies_9 zo_122 zf_11_8 zr_122_8 ?_
      refine j_iload_n hK dX11_copies_12 1 rfl rfl ?_
      refine j_aload_n hK dX11_copies_13 0 rfl rfl ?_
      refine j_getR hK fl_X11_31 dX11_copies_14 zo_122 zf_11_7 zr_122_7 ?_
      refine j_iload_n hK dX11_copies_17 1 rfl rfl ?_
      obtain ⟨hi1, hf⟩ := gd hf
      refine k_iald hK dX11_copies_18 zb_126 hi1 rfl ?_
      refine j_pc (pc' := 19) rfl ?_
      obtain ⟨hi2, hf⟩ := gd hf
      refine k_iast hK dX11_copies_19 zb_127 hi2 rfl ?_
      refine lt_S hf (fun S3 hf => ?_)
      refine j_iinc hK (L' := [(1, .int (v + (1 : Int32))), (0, .ref 122)]) dX11_copies_20 1 rfl (congrArg (fun y => v + y) ic_1) (by decide) rfl ?_
      refine j_goto hK 2 dX11_copies_23 (by decide) ?_
      refine j_sub [1, 0] rfl ?_
      exact hk _ _ hf)
def f_X11_copies (S : St) : Option (Unit × St) := lp (f_X11_copies_2b  (fun v4 S5 => some ((), S5))) FU (0 : Int32) S
theorem c_X11_copies {S : St} {r : Unit} {S' : St} (hf : f_X11_copies S = some (r, S')) : zM yX11_copies cX11_copies 2 1 none [.ref 122] S (none) S' := by
  refine zM_of (zpl (by decide)) (Nat.le_of_ble_eq_true rfl) rfl (fun K hK hA => ?_)
  unfold f_X11_copies at hf
  refine j_iconst hK (0 : Int32) dX11_copies_0 ic_0 ?_
  refine j_istore_n hK (L' := [(1, .int (0 : Int32)), (0, .ref 122)]) dX11_copies_1 rfl (by decide) rfl ?_
  refine j_sub [1, 0] rfl ?_
  refine t_X11_copies_2 hK hA  (fun v4 S5 hf => ?_) _ _ _ hf
  exact j_vret hK dX11_copies_26 rfl (rt_V hA hf)
def f_X11_route_46b (e : Int32 → St → Option (Int32 × St)) (k : Int32 → St → Option (Int32 × St)) (v : Int32) (S : St) : Option (Int32 × St) := (if (gI S 122 24) ≤ v then e v S else if inb v 12 then bd (f_X11_enters (gI S 134 v.toNatClampNeg).toInt64 S) (fun r2 S3 => k (v + (1 : Int32)) S3) else none)
theorem t_X11_route_46 {K : CT} (hK : KO K cX11_route RX11 4 4 (some .int)) {r : Int32} {S' : St} (hA : zans K (some (.int r), S')) {e : Int32 → St → Option (Int32 × St)} (he : ∀ (v : Int32) (S : St), e v S = some (r, S') → J K 71 [(0, .ref 122)] [] S) : ∀ (n : Nat) (v : Int32) (S : St), lp (f_X11_route_46b  e) n v S = some (r, S') → J K 46 [(0, .ref 122), (3, .int v)] [] S :=
  lp_J (P := fun (v : Int32) (S : St) => J K 46 [(0, .ref 122), (3, .int v)] [] S) (fun k hk v S hf => by
    unfold f_X11_route_46b at hf
    refine j_iload_n hK dX11_route_46 1 rfl rfl ?_
    refine j_aload_n hK dX11_route_47 0 rfl rfl ?_
    refine j_getI hK fl_X11_269 dX11_route_48 zo_122 zf_11_24 ?_
    refine j_icmp_ge hK 71 dX11_route_51 (by decide) (fun hc => ?_) (fun hc => ?_)
    · replace hf := if_1 hc hf
      refine j_sub [0] rfl ?_
      exact he _ _ hf
    · replace hf := if_2 hc hf
      refine j_aload_n hK dX11_route_54 0 rfl rfl ?_
      refine j_aload_n hK dX11_route_55 0 rfl rfl ?_
      refine j_getR hK fl_X11_55 dX11_route_56 zo_122 zf_11_22 zr_122_22 ?_
      refine j_iload_n hK dX11_route_59 1 rfl rfl ?_
      obtain ⟨hi1, hf⟩ := gd hf
      refine k_iald hK dX11_route_60 zb_134 hi1 rfl ?_
      refine j_i2l hK dX11_route_61 ?_
      obtain ⟨r2, S3, h4, hf⟩ := bd_J hf
      refine k_callVv hK (c_X11_enters h4) dX11_route_62 zclX11 zo_122 ml_X11_340 mi_X11_enters mx_X11_enters in_X11 mc_X11_enters hy_X11_enters ⟨by decide, by decide⟩ rfl (Nat.le_of_ble_eq_true rfl) ?_
      refine j_pc (pc' := 65) rfl ?_
      refine j_iinc hK (L' := [(3, .int (v + (1 : Int32))), (0, .ref 122)]) dX11_route_65 1 rfl (congrArg (fun y => v + y) ic_1) (by decide) rfl ?_
      refine j_goto hK 46 dX11_route_68 (by decide) ?_
      refine j_sub [1, 0] rfl ?_
      exact hk _ _ hf)
def f_X11_route (p1 : Int32) (p2 : Int32) (S : St) : Option (Int32 × St) := lt (sI S 122 0 (0 : Int32)) (fun S5 => bd (f_X11_isEcho 126 p1 p2 S5) (fun r6 S7 => (if r6 = 0 then some ((-1 : Int32), S7) else bd (f_X11_laysEcho 126 p1 p2 S7) (fun r9 S10 => lt (sI S10 122 1 (0 : Int32)) (fun S12 => bd (f_X11_enters (gI S12 122 26).toInt64 S12) (fun r13 S14 => lp (f_X11_route_46b  (fun v16 S17 => some ((gI S17 122 25), S17))) FU (0 : Int32) S14))))))
theorem c_X11_route {p1 : Int32} {p2 : Int32} {S : St} {r : Int32} {S' : St} (hf : f_X11_route p1 p2 S = some (r, S')) : zM yX11_route cX11_route 4 4 (some .int) [.ref 122, .int p1, .int p2] S (some (.int r)) S' := by
  refine zM_of (zpl (by decide)) (Nat.le_of_ble_eq_true rfl) rfl (fun K hK hA => ?_)
  unfold f_X11_route at hf
  refine j_aload_n hK dX11_route_0 0 rfl rfl ?_
  refine j_iconst hK (0 : Int32) dX11_route_1 ic_0 ?_
  refine j_putI hK fl_X11_3 dX11_route_2 zo_122 zf_11_0 ?_
  refine lt_S hf (fun S5 hf => ?_)
  refine j_aload_n hK dX11_route_5 0 rfl rfl ?_
  refine j_aload_n hK dX11_route_6 0 rfl rfl ?_
  refine j_getR hK fl_X11_31 dX11_route_7 zo_122 zf_11_7 zr_122_7 ?_
  refine j_iload_n hK dX11_route_10 1 rfl rfl ?_
  refine j_iload_n hK dX11_route_11 2 rfl rfl ?_
  refine j_pc (pc' := 12) rfl ?_
  obtain ⟨r6, S7, h8, hf⟩ := bd_J hf
  refine k_callVi hK (c_X11_isEcho zb_126 h8) dX11_route_12 zclX11 zo_122 ml_X11_326 mi_X11_isEcho mx_X11_isEcho in_X11 mc_X11_isEcho hy_X11_isEcho ⟨by decide, by decide⟩ rfl (Nat.le_of_ble_eq_true rfl) ?_
  refine j_if_ne hK 20 dX11_route_15 (by decide) (fun hc => ?_) (fun hc => ?_)
  · replace hf := if_2 hc hf
    refine j_aload_n hK dX11_route_20 0 rfl rfl ?_
    refine j_aload_n hK dX11_route_21 0 rfl rfl ?_
    refine j_getR hK fl_X11_31 dX11_route_22 zo_122 zf_11_7 zr_122_7 ?_
    refine j_iload_n hK dX11_route_25 1 rfl rfl ?_
    refine j_iload_n hK dX11_route_26 2 rfl rfl ?_
    obtain ⟨r9, S10, h11, hf⟩ := bd_J hf
    refine k_callVv hK (c_X11_laysEcho zb_126 h11) dX11_route_27 zclX11 zo_122 ml_X11_336 mi_X11_laysEcho mx_X11_laysEcho in_X11 mc_X11_laysEcho hy_X11_laysEcho ⟨by decide, by decide⟩ rfl (Nat.le_of_ble_eq_true rfl) ?_
    refine j_aload_n hK dX11_route_30 0 rfl rfl ?_
    refine j_pc (pc' := 31) rfl ?_
    refine j_iconst hK (0 : Int32) dX11_route_31 ic_0 ?_
    refine j_putI hK fl_X11_15 dX11_route_32 zo_122 zf_11_1 ?_
    refine lt_S hf (fun S12 hf => ?_)
    refine j_aload_n hK dX11_route_35 0 rfl rfl ?_
    refine j_aload_n hK dX11_route_36 0 rfl rfl ?_
    refine j_getI hK fl_X11_275 dX11_route_37 zo_122 zf_11_26 ?_
    refine j_i2l hK dX11_route_40 ?_
    obtain ⟨r13, S14, h15, hf⟩ := bd_J hf
    refine k_callVv hK (c_X11_enters h15) dX11_route_41 zclX11 zo_122 ml_X11_340 mi_X11_enters mx_X11_enters in_X11 mc_X11_enters hy_X11_enters ⟨by decide, by decide⟩ rfl (Nat.le_of_ble_eq_true rfl) ?_
    refine j_iconst hK (0 : Int32) dX11_route_44 ic_0 ?_
    refine j_pc (pc' := 45) rfl ?_
    refine j_istore_n hK (L' := [(3, .int (0 : Int32)), (0, .ref 122), (1, .int p1), (2, .int p2)]) dX11_route_45 rfl (by decide) rfl ?_
    refine j_sub [1, 0] rfl ?_
    refine t_X11_route_46 hK hA  (fun v16 S17 hf => ?_) _ _ _ hf
    refine j_aload_n hK dX11_route_71 0 rfl rfl ?_
    refine j_getI hK fl_X11_272 dX11_route_72 zo_122 zf_11_25 ?_
    exact j_iret hK dX11_route_75 rfl (rt_I hA hf)
  · replace hf := if_1 hc hf
    refine j_iconst hK (-1 : Int32) dX11_route_18 ic_m1 ?_
    exact j_iret hK dX11_route_19 rfl (rt_I hA hf)
def f_X11_hears_83 (x3 : Int32) (x5 : Int32) (x6 : Int32) (s0 : Int32) (s1 : Int32) (k e : Int32 × Int32 → St → Option (Int32 × St)) (S : St) : Option (Int32 × St) := bd (f_X11_flag s1 S) (fun r1 S2 => lt (s0 + r1) (fun y4 => bd (f_X11_enters x6.toInt64 S2) (fun r5 S6 => k (y4, (x5 + (1 : Int32))) S6)))
theorem t_X11_hears_83 {K : CT} (hK : KO K cX11_hears RX11 7 6 (some .int)) {r : Int32} {S' : St} (hA : zans K (some (.int r), S')) {x3 : Int32} {x5 : Int32} {x6 : Int32} {s0 : Int32} {s1 : Int32} {k e : Int32 × Int32 → St → Option (Int32 × St)} (hk : ∀ (v : Int32 × Int32) (S : St), k v S = some (r, S') → J K 39 [(0, .ref 122), (3, .int x3), (4, .int v.1), (5, .int v.2)] [] S) (he : ∀ (v : Int32 × Int32) (S : St), e v S = some (r, S') → J K 102 [(4, .int v.1)] [] S) {S : St} (hf : f_X11_hears_83 x3 x5 x6 s0 s1 k e S = some (r, S')) : J K 83 [(0, .ref 122), (3, .int x3), (5, .int x5), (6, .int x6)] [.int s1, .int s0] S := by
  unfold f_X11_hears_83 at hf
  obtain ⟨r1, S2, h3, hf⟩ := bd_J hf
  refine k_callSi hK (c_X11_flag h3) dX11_hears_83 ml_X11_155 ms_X11_flag in_X11 mc_X11_flag hy_X11_flag ⟨by decide, by decide⟩ rfl (Nat.le_of_ble_eq_true rfl) ?_
  refine j_iadd hK dX11_hears_86 ?_
  refine lt_I hf (fun y4 hf => ?_)
  refine j_istore hK (L' := [(4, .int y4), (0, .ref 122), (3, .int x3), (5, .int x5), (6, .int x6)]) dX11_hears_87 (by decide) rfl ?_
  refine j_aload_n hK dX11_hears_89 1 rfl rfl ?_
  refine j_iload hK dX11_hears_90 4 rfl ?_
  refine j_i2l hK dX11_hears_92 ?_
  obtain ⟨r5, S6, h7, hf⟩ := bd_J hf
  refine k_callVv hK (c_X11_enters h7) dX11_hears_93 zclX11 zo_122 ml_X11_340 mi_X11_enters mx_X11_enters in_X11 mc_X11_enters hy_X11_enters ⟨by decide, by decide⟩ rfl (Nat.le_of_ble_eq_true rfl) ?_
  refine j_iinc hK (L' := [(5, .int (x5 + (1 : Int32))), (4, .int y4), (0, .ref 122), (3, .int x3), (6, .int x6)]) dX11_hears_96 3 rfl (congrArg (fun y => x5 + y) ic_1) (by decide) rfl ?_
  refine j_pc (pc' := 99) rfl ?_
  refine j_goto hK 39 dX11_hears_99 (by decide) ?_
  refine j_sub [2, 3, 1, 0] rfl ?_
  exact hk _ _ hf
def f_X11_hears_39b (x3 : Int32) (e : Int32 × Int32 → St → Option (Int32 × St)) (k : Int32 × Int32 → St → Option (Int32 × St)) (v : Int32 × Int32) (S : St) : Option (Int32 × St) := (if x3 ≤ v.2 then e (v.1, v.2) S else if inb v.2 6 then bd (f_X11_comesOut 126 (gI S 138 v.2.toNatClampNeg) v.2 S) (fun r9 S10 => if inb v.2 6 then (if r9 = (gI S10 138 v.2.toNatClampNeg) then f_X11_hears_83 x3 v.2 r9 v.1 (1 : Int32) k e S10 else f_X11_hears_83 x3 v.2 r9 v.1 (0 : Int32) k e S10) else none) else none)
theorem t_X11_hears_39 {K : CT} (hK : KO K cX11_hears RX11 7 6 (some .int)) {r : Int32} {S' : St} (hA : zans K (some (.int r), S')) {x3 : Int32} {e : Int32 × Int32 → St → Option (Int32 × St)} (he : ∀ (v : Int32 × Int32) (S : St), e v S = some (r, S') → J K 102 [(4, .int v.1)] [] S) : ∀ (n : Nat) (v : Int32 × Int32) (S : St), lp (f_X11_hears_39b x3 e) n v S = some (r, S') → J K 39 [(0, .ref 122), (3, .int x3), (4, .int v.1), (5, .int v.2)] [] S :=
  lp_J (P := fun (v : Int32 × Int32) (S : St) => J K 39 [(0, .ref 122), (3, .int x3), (4, .int v.1), (5, .int v.2)] [] S) (fun k hk v S hf => by
    unfold f_X11_hears_39b at hf
    refine j_iload hK dX11_hears_39 3 rfl ?_
    refine j_iload_n hK dX11_hears_41 1 rfl rfl ?_
    refine j_icmp_ge hK 102 dX11_hears_42 (by decide) (fun hc => ?_) (fun hc => ?_)
    · replace hf := if_1 hc hf
      refine j_sub [2] rfl ?_
      exact he _ _ hf
    · replace hf := if_2 hc hf
      refine j_aload_n hK dX11_hears_45 0 rfl rfl ?_
      refine j_aload_n hK dX11_hears_46 0 rfl rfl ?_
      refine j_getR hK fl_X11_31 dX11_hears_47 zo_122 zf_11_7 zr_122_7 ?_
      refine j_aload_n hK dX11_hears_50 0 rfl rfl ?_
      refine j_getR hK fl_X11_68 dX11_hears_51 zo_122 zf_11_30 zr_122_30 ?_
      refine j_iload hK dX11_hears_54 3 rfl ?_
      obtain ⟨hi8, hf⟩ := gd hf
      refine k_iald hK dX11_hears_56 zb_138 hi8 rfl ?_
      refine j_pc (pc' := 57) rfl ?_
      refine j_iload hK dX11_hears_57 3 rfl ?_
      obtain ⟨r9, S10, h11, hf⟩ := bd_J hf
      refine k_callVi hK (c_X11_comesOut zb_126 h11) dX11_hears_59 zclX11 zo_122 ml_X11_344 mi_X11_comesOut mx_X11_comesOut in_X11 mc_X11_comesOut hy_X11_comesOut ⟨by decide, by decide⟩ rfl (Nat.le_of_ble_eq_true rfl) ?_
      refine j_istore hK (L' := [(6, .int r9), (0, .ref 122), (3, .int x3), (4, .int v.1), (5, .int v.2)]) dX11_hears_62 (by decide) rfl ?_
      refine j_iload hK dX11_hears_64 3 rfl ?_
      refine j_iload hK dX11_hears_66 0 rfl ?_
      refine j_aload_n hK dX11_hears_68 1 rfl rfl ?_
      refine j_getR hK fl_X11_68 dX11_hears_69 zo_122 zf_11_30 zr_122_30 ?_
      refine j_iload hK dX11_hears_72 4 rfl ?_
      refine j_pc (pc' := 74) rfl ?_
      obtain ⟨hi12, hf⟩ := gd hf
      refine k_iald hK dX11_hears_74 zb_138 hi12 rfl ?_
      refine j_icmp_ne hK 82 dX11_hears_75 (by decide) (fun hc => ?_) (fun hc => ?_)
      · replace hf := if_2 hc hf
        refine j_iconst hK (0 : Int32) dX11_hears_82 ic_0 ?_
        refine j_sub [1, 2, 4, 0] rfl ?_
        exact t_X11_hears_83 hK hA hk he hf
      · replace hf := if_1 hc hf
        refine j_iconst hK (1 : Int32) dX11_hears_78 ic_1 ?_
        refine j_goto hK 83 dX11_hears_79 (by decide) ?_
        refine j_sub [1, 2, 4, 0] rfl ?_
        exact t_X11_hears_83 hK hA hk he hf)
def f_X11_hears (p1 : Int32) (p2 : Int32) (S : St) : Option (Int32 × St) := lt (sI S 122 0 (0 : Int32)) (fun S13 => bd (f_X11_readsCall p1 p2 S13) (fun r14 S15 => (if 0 ≤ r14 then bd (f_X11_laysEcho 126 p1 p2 S15) (fun r17 S18 => lt (sI S18 122 1 (0 : Int32)) (fun S20 => lp (f_X11_hears_39b r14 (fun v21 S22 => some (v21.1, S22))) FU ((0 : Int32), (0 : Int32)) S20)) else some (r14, S15))))
theorem c_X11_hears {p1 : Int32} {p2 : Int32} {S : St} {r : Int32} {S' : St} (hf : f_X11_hears p1 p2 S = some (r, S')) : zM yX11_hears cX11_hears 7 6 (some .int) [.ref 122, .int p1, .int p2] S (some (.int r)) S' := by
  refine zM_of (zpl (by decide)) (Nat.le_of_ble_eq_true rfl) rfl (fun K hK hA => ?_)
  unfold f_X11_hears at hf
  refine j_aload_n hK dX11_hears_0 0 rfl rfl ?_
  refine j_iconst hK (0 : Int32) dX11_hears_1 ic_0 ?_
  refine j_putI hK fl_X11_3 dX11_hears_2 zo_122 zf_11_0 ?_
  refine lt_S hf (fun S13 hf => ?_)
  refine j_aload_n hK dX11_hears_5 0 rfl rfl ?_
  refine j_iload_n hK dX11_hears_6 1 rfl rfl ?_
  refine j_iload_n hK dX11_hears_7 2 rfl rfl ?_
  obtain ⟨r14, S15, h16, hf⟩ := bd_J hf
  refine k_callVi hK (c_X11_readsCall h16) dX11_hears_8 zclX11 zo_122 ml_X11_333 mi_X11_readsCall mx_X11_readsCall in_X11 mc_X11_readsCall hy_X11_readsCall ⟨by decide, by decide⟩ rfl (Nat.le_of_ble_eq_true rfl) ?_
  refine j_istore_n hK (L' := [(3, .int r14), (0, .ref 122), (1, .int p1), (2, .int p2)]) dX11_hears_11 rfl (by decide) rfl ?_
  refine j_pc (pc' := 12) rfl ?_
  refine j_iload_n hK dX11_hears_12 0 rfl rfl ?_
  refine j_if_ge hK 18 dX11_hears_13 (by decide) (fun hc => ?_) (fun hc => ?_)
  · replace hf := if_1 hc hf
    refine j_aload_n hK dX11_hears_18 1 rfl rfl ?_
    refine j_aload_n hK dX11_hears_19 1 rfl rfl ?_
    refine j_getR hK fl_X11_31 dX11_hears_20 zo_122 zf_11_7 zr_122_7 ?_
    refine j_iload_n hK dX11_hears_23 2 rfl rfl ?_
    refine j_iload_n hK dX11_hears_24 3 rfl rfl ?_
    obtain ⟨r17, S18, h19, hf⟩ := bd_J hf
    refine k_callVv hK (c_X11_laysEcho zb_126 h19) dX11_hears_25 zclX11 zo_122 ml_X11_336 mi_X11_laysEcho mx_X11_laysEcho in_X11 mc_X11_laysEcho hy_X11_laysEcho ⟨by decide, by decide⟩ rfl (Nat.le_of_ble_eq_true rfl) ?_
    refine j_iconst hK (0 : Int32) dX11_hears_28 ic_0 ?_
    refine j_pc (pc' := 29) rfl ?_
    refine j_istore hK (L' := [(4, .int (0 : Int32)), (3, .int r14), (0, .ref 122), (1, .int p1), (2, .int p2)]) dX11_hears_29 (by decide) rfl ?_
    refine j_aload_n hK dX11_hears_31 2 rfl rfl ?_
    refine j_iconst hK (0 : Int32) dX11_hears_32 ic_0 ?_
    refine j_putI hK fl_X11_15 dX11_hears_33 zo_122 zf_11_1 ?_
    refine lt_S hf (fun S20 hf => ?_)
    refine j_iconst hK (0 : Int32) dX11_hears_36 ic_0 ?_
    refine j_istore hK (L' := [(5, .int (0 : Int32)), (4, .int (0 : Int32)), (3, .int r14), (0, .ref 122), (1, .int p1), (2, .int p2)]) dX11_hears_37 (by decide) rfl ?_
    refine j_sub [3, 2, 1, 0] rfl ?_
    refine t_X11_hears_39 hK hA  (fun v21 S22 hf => ?_) _ _ _ hf
    refine j_iload hK dX11_hears_102 0 rfl ?_
    exact j_iret hK dX11_hears_104 rfl (rt_I hA hf)
  · replace hf := if_2 hc hf
    refine j_iload_n hK dX11_hears_16 0 rfl rfl ?_
    exact j_iret hK dX11_hears_17 rfl (rt_I hA hf)
def f_X11_asks_153 (x4 : Int32) (s1 : Int32) (S : St) : Option (Int32 × St) := lt (sI S 122 1 s1) (fun S1 => some (x4, S1))
theorem t_X11_asks_153 {K : CT} (hK : KO K cX11_asks RX11 10 6 (some .int)) {r : Int32} {S' : St} (hA : zans K (some (.int r), S')) {x4 : Int32} {s1 : Int32} {S : St} (hf : f_X11_asks_153 x4 s1 S = some (r, S')) : J K 153 [(4, .int x4)] [.int s1, .ref 122] S := by
  unfold f_X11_asks_153 at hf
  refine j_putI hK fl_X11_15 dX11_asks_153 zo_122 zf_11_1 ?_
  refine lt_S hf (fun S1 hf => ?_)
  refine j_iload hK dX11_asks_156 0 rfl ?_
  exact j_iret hK dX11_asks_158 rfl (rt_I hA hf)
def f_X11_asks_101 (x3 : Int32) (x4 : Int32) (x5 : Int32) (x6 : Int32) (x8 : Int32) (x9 : Int32) (s0 : Int32) (k e : Int32 × Int32 × Int32 → St → Option (Int32 × St)) (S : St) : Option (Int32 × St) := bd (f_X11_flag x9 S) (fun r2 S3 => lt (x6 + r2) (fun y5 => k (y5, s0, (x8 + (-1 : Int32))) S3))
theorem t_X11_asks_101 {K : CT} (hK : KO K cX11_asks RX11 10 6 (some .int)) {r : Int32} {S' : St} (hA : zans K (some (.int r), S')) {x3 : Int32} {x4 : Int32} {x5 : Int32} {x6 : Int32} {x8 : Int32} {x9 : Int32} {s0 : Int32} {k e : Int32 × Int32 × Int32 → St → Option (Int32 × St)} (hk : ∀ (v : Int32 × Int32 × Int32) (S : St), k v S = some (r, S') → J K 55 [(0, .ref 122), (3, .int x3), (4, .int x4), (5, .int x5), (6, .int v.1), (7, .int v.2.1), (8, .int v.2.2)] [] S) (he : ∀ (v : Int32 × Int32 × Int32) (S : St), e v S = some (r, S') → J K 119 [(0, .ref 122), (3, .int x3), (4, .int x4), (5, .int x5), (6, .int v.1), (7, .int v.2.1)] [] S) {S : St} (hf : f_X11_asks_101 x3 x4 x5 x6 x8 x9 s0 k e S = some (r, S')) : J K 101 [(0, .ref 122), (3, .int x3), (4, .int x4), (5, .int x5), (6, .int x6), (8, .int x8), (9, .int x9)] [.int s0] S := by
  unfold f_X11_asks_101 at hf
  refine j_istore hK (L' := [(7, .int s0), (0, .ref 122), (3, .int x3), (4, .int x4), (5, .int x5), (6, .int x6), (8, .int x8), (9, .int x9)]) dX11_asks_101 (by decide) rfl ?_
  refine j_iload hK dX11_asks_103 5 rfl ?_
  refine j_iload hK dX11_asks_105 7 rfl ?_
  obtain ⟨r2, S3, h4, hf⟩ := bd_J hf
  refine k_callSi hK (c_X11_flag h4) dX11_asks_107 ml_X11_155 ms_X11_flag in_X11 mc_X11_flag hy_X11_flag ⟨by decide, by decide⟩ rfl (Nat.le_of_ble_eq_true rfl) ?_
  refine j_iadd hK dX11_asks_110 ?_
  refine lt_I hf (fun y5 hf => ?_)
  refine j_istore hK (L' := [(6, .int y5), (7, .int s0), (0, .ref 122), (3, .int x3), (4, .int x4), (5, .int x5), (8, .int x8), (9, .int x9)]) dX11_asks_111 (by decide) rfl ?_
  refine j_iinc hK (L' := [(8, .int (x8 + (-1 : Int32))), (6, .int y5), (7, .int s0), (0, .ref 122), (3, .int x3), (4, .int x4), (5, .int x5), (9, .int x9)]) dX11_asks_113 6 rfl (congrArg (fun y => x8 + y) ic_m1) (by decide) rfl ?_
  refine j_goto hK 55 dX11_asks_116 (by decide) ?_
  refine j_sub [3, 4, 5, 6, 1, 2, 0] rfl ?_
  exact hk _ _ hf
def f_X11_asks_87 (x3 : Int32) (x4 : Int32) (x5 : Int32) (x6 : Int32) (x7 : Int32) (x8 : Int32) (s0 : Int32) (k e : Int32 × Int32 × Int32 → St → Option (Int32 × St)) (S : St) : Option (Int32 × St) := (if s0 = 0 then f_X11_asks_101 x3 x4 x5 x6 x8 s0 x7 k e S else f_X11_asks_101 x3 x4 x5 x6 x8 s0 x8 k e S)
theorem t_X11_asks_87 {K : CT} (hK : KO K cX11_asks RX11 10 6 (some .int)) {r : Int32} {S' : St} (hA : zans K (some (.int r), S')) {x3 : Int32} {x4 : Int32} {x5 : Int32} {x6 : Int32} {x7 : Int32} {x8 : Int32} {s0 : Int32} {k e : Int32 × Int32 × Int32 → St → Option (Int32 × St)} (hk : ∀ (v : Int32 × Int32 × Int32) (S : St), k v S = some (r, S') → J K 55 [(0, .ref 122), (3, .int x3), (4, .int x4), (5, .int x5), (6, .int v.1), (7, .int v.2.1), (8, .int v.2.2)] [] S) (he : ∀ (v : Int32 × Int32 × Int32) (S : St), e v S = some (r, S') → J K 119 [(0, .ref 122), (3, .int x3), (4, .int x4), (5, .int x5), (6, .int v.1), (7, .int v.2.1)] [] S) {S : St} (hf : f_X11_asks_87 x3 x4 x5 x6 x7 x8 s0 k e S = some (r, S')) : J K 87 [(0, .ref 122), (3, .int x3), (4, .int x4), (5, .int x5), (6, .int x6), (7, .int x7), (8, .int x8)] [.int s0] S := by
  unfold f_X11_asks_87 at hf
  refine j_istore hK (L' := [(9, .int s0), (0, .ref 122), (3, .int x3), (4, .int x4), (5, .int x5), (6, .int x6), (7, .int x7), (8, .int x8)]) dX11_asks_87 (by decide) rfl ?_
  refine j_iload hK dX11_asks_89 0 rfl ?_
  refine j_if_eq hK 99 dX11_asks_91 (by decide) (fun hc => ?_) (fun hc => ?_)
  · replace hf := if_1 hc hf
    refine j_iload hK dX11_asks_99 6 rfl ?_
    refine j_sub [1, 2, 3, 4, 5, 7, 0] rfl ?_
    exact t_X11_asks_101 hK hA hk he hf
  · replace hf := if_2 hc hf
    refine j_iload hK dX11_asks_94 7 rfl ?_
    refine j_goto hK 101 dX11_asks_96 (by decide) ?_
    refine j_sub [1, 2, 3, 4, 5, 7, 0] rfl ?_
    exact t_X11_asks_101 hK hA hk he hf
def f_X11_asks_55b (x3 : Int32) (x4 : Int32) (x5 : Int32) (e : Int32 × Int32 × Int32 → St → Option (Int32 × St)) (k : Int32 × Int32 × Int32 → St → Option (Int32 × St)) (v : Int32 × Int32 × Int32) (S : St) : Option (Int32 × St) := (if v.2.2 < 0 then e (v.1, v.2.1, v.2.2) S else bd (f_X11_comesOut 126 v.2.2 x5 S) (fun r6 S7 => if inb x5 6 then (if r6 = (gI S7 138 x5.toNatClampNeg) then f_X11_asks_87 x3 x4 x5 v.1 v.2.1 v.2.2 (1 : Int32) k e S7 else f_X11_asks_87 x3 x4 x5 v.1 v.2.1 v.2.2 (0 : Int32) k e S7) else none))
theorem t_X11_asks_55 {K : CT} (hK : KO K cX11_asks RX11 10 6 (some .int)) {r : Int32} {S' : St} (hA : zans K (some (.int r), S')) {x3 : Int32} {x4 : Int32} {x5 : Int32} {e : Int32 × Int32 × Int32 → St → Option (Int32 × St)} (he : ∀ (v : Int32 × Int32 × Int32) (S : St), e v S = some (r, S') → J K 119 [(0, .ref 122), (3, .int x3), (4, .int x4), (5, .int x5), (6, .int v.1), (7, .int v.2.1)] [] S) : ∀ (n : Nat) (v : Int32 × Int32 × Int32) (S : St), lp (f_X11_asks_55b x3 x4 x5 e) n v S = some (r, S') → J K 55 [(0, .ref 122), (3, .int x3), (4, .int x4), (5, .int x5), (6, .int v.1), (7, .int v.2.1), (8, .int v.2.2)] [] S :=
  lp_J (P := fun (v : Int32 × Int32 × Int32) (S : St) => J K 55 [(0, .ref 122), (3, .int x3), (4, .int x4), (5, .int x5), (6, .int v.1), (7, .int v.2.1), (8, .int v.2.2)] [] S) (fun k hk v S hf => by
    unfold f_X11_asks_55b at hf
    refine j_iload hK dX11_asks_55 6 rfl ?_
    refine j_if_lt hK 119 dX11_asks_57 (by decide) (fun hc => ?_) (fun hc => ?_)
    · replace hf := if_1 hc hf
      refine j_sub [0, 1, 2, 3, 4, 5] rfl ?_
      exact he _ _ hf
    · replace hf := if_2 hc hf
      refine j_aload_n hK dX11_asks_60 0 rfl rfl ?_
      refine j_aload_n hK dX11_asks_61 0 rfl rfl ?_
      refine j_getR hK fl_X11_31 dX11_asks_62 zo_122 zf_11_7 zr_122_7 ?_
      refine j_iload hK dX11_asks_65 6 rfl ?_
      refine j_iload hK dX11_asks_67 3 rfl ?_
      obtain ⟨r6, S7, h8, hf⟩ := bd_J hf
      refine k_callVi hK (c_X11_comesOut zb_126 h8) dX11_asks_69 zclX11 zo_122 ml_X11_344 mi_X11_comesOut mx_X11_comesOut in_X11 mc_X11_comesOut hy_X11_comesOut ⟨by decide, by decide⟩ rfl (Nat.le_of_ble_eq_true rfl) ?_
      refine j_aload_n hK dX11_asks_72 0 rfl rfl ?_
      refine j_pc (pc' := 73) rfl ?_
      refine j_getR hK fl_X11_68 dX11_asks_73 zo_122 zf_11_30 zr_122_30 ?_
      refine j_iload hK dX11_asks_76 3 rfl ?_
      obtain ⟨hi9, hf⟩ := gd hf
      refine k_iald hK dX11_asks_78 zb_138 hi9 rfl ?_
      refine j_icmp_ne hK 86 dX11_asks_79 (by decide) (fun hc => ?_) (fun hc => ?_)
      · replace hf := if_2 hc hf
        refine j_iconst hK (0 : Int32) dX11_asks_86 ic_0 ?_
        exact t_X11_asks_87 hK hA hk he hf
      · replace hf := if_1 hc hf
        refine j_iconst hK (1 : Int32) dX11_asks_82 ic_1 ?_
        refine j_goto hK 87 dX11_asks_83 (by decide) ?_
        exact t_X11_asks_87 hK hA hk he hf)
def f_X11_asks_39b (x3 : Int32) (e : Int32 × Int32 → St → Option (Int32 × St)) (k : Int32 × Int32 → St → Option (Int32 × St)) (v : Int32 × Int32) (S : St) : Option (Int32 × St) := (if x3 ≤ v.2 then e (v.1, v.2) S else lp (f_X11_asks_55b x3 v.1 v.2 (fun v10 S11 => lt (v.1 * v10.1) (fun y12 => bd (f_X11_enters v10.2.1.toInt64 S11) (fun r13 S14 => k (y12, (v.2 + (1 : Int32))) S14)))) FU ((0 : Int32), (-1 : Int32), (7 : Int32)) S)
theorem t_X11_asks_39 {K : CT} (hK : KO K cX11_asks RX11 10 6 (some .int)) {r : Int32} {S' : St} (hA : zans K (some (.int r), S')) {x3 : Int32} {e : Int32 × Int32 → St → Option (Int32 × St)} (he : ∀ (v : Int32 × Int32) (S : St), e v S = some (r, S') → J K 139 [(0, .ref 122), (4, .int v.1)] [] S) : ∀ (n : Nat) (v : Int32 × Int32) (S : St), lp (f_X11_asks_39b x3 e) n v S = some (r, S') → J K 39 [(0, .ref 122), (3, .int x3), (4, .int v.1), (5, .int v.2)] [] S :=
  lp_J (P := fun (v : Int32 × Int32) (S : St) => J K 39 [(0, .ref 122), (3, .int x3), (4, .int v.1), (5, .int v.2)] [] S) (fun k hk v S hf => by
    unfold f_X11_asks_39b at hf
    refine j_iload hK dX11_asks_39 3 rfl ?_
    refine j_iload_n hK dX11_asks_41 1 rfl rfl ?_
    refine j_icmp_ge hK 139 dX11_asks_42 (by decide) (fun hc => ?_) (fun hc => ?_)
    · replace hf := if_1 hc hf
      refine j_sub [0, 2] rfl ?_
      exact he _ _ hf
    · replace hf := if_2 hc hf
      refine j_iconst hK (0 : Int32) dX11_asks_45 ic_0 ?_
      refine j_istore hK (L' := [(6, .int (0 : Int32)), (0, .ref 122), (3, .int x3), (4, .int v.1), (5, .int v.2)]) dX11_asks_46 (by decide) rfl ?_
      refine j_iconst hK (-1 : Int32) dX11_asks_48 ic_m1 ?_
      refine j_istore hK (L' := [(7, .int (-1 : Int32)), (6, .int (0 : Int32)), (0, .ref 122), (3, .int x3), (4, .int v.1), (5, .int v.2)]) dX11_asks_49 (by decide) rfl ?_
      refine j_bipush hK (7 : Int32) dX11_asks_51 bi_7 ?_
      refine j_istore hK (L' := [(8, .int (7 : Int32)), (7, .int (-1 : Int32)), (6, .int (0 : Int32)), (0, .ref 122), (3, .int x3), (4, .int v.1), (5, .int v.2)]) dX11_asks_53 (by decide) rfl ?_
      refine j_sub [3, 4, 5, 6, 2, 1, 0] rfl ?_
      refine t_X11_asks_55 hK hA  (fun v10 S11 hf => ?_) _ _ _ hf
      refine j_iload hK dX11_asks_119 2 rfl ?_
      refine j_iload hK dX11_asks_121 4 rfl ?_
      refine j_imul hK dX11_asks_123 ?_
      refine lt_I hf (fun y12 hf => ?_)
      refine j_istore hK (L' := [(4, .int y12), (0, .ref 122), (3, .int x3), (5, .int v.2), (6, .int v10.1), (7, .int v10.2.1)]) dX11_asks_124 (by decide) rfl ?_
      refine j_aload_n hK dX11_asks_126 1 rfl rfl ?_
      refine j_iload hK dX11_asks_127 5 rfl ?_
      refine j_i2l hK dX11_asks_129 ?_
      refine j_pc (pc' := 130) rfl ?_
      obtain ⟨r13, S14, h15, hf⟩ := bd_J hf
      refine k_callVv hK (c_X11_enters h15) dX11_asks_130 zclX11 zo_122 ml_X11_340 mi_X11_enters mx_X11_enters in_X11 mc_X11_enters hy_X11_enters ⟨by decide, by decide⟩ rfl (Nat.le_of_ble_eq_true rfl) ?_
      refine j_iinc hK (L' := [(5, .int (v.2 + (1 : Int32))), (4, .int y12), (0, .ref 122), (3, .int x3), (6, .int v10.1), (7, .int v10.2.1)]) dX11_asks_133 3 rfl (congrArg (fun y => v.2 + y) ic_1) (by decide) rfl ?_
      refine j_goto hK 39 dX11_asks_136 (by decide) ?_
      refine j_sub [2, 3, 1, 0] rfl ?_
      exact hk _ _ hf)
def f_X11_asks (p1 : Int32) (p2 : Int32) (S : St) : Option (Int32 × St) := lt (sI S 122 0 (0 : Int32)) (fun S16 => bd (f_X11_readsCall p1 p2 S16) (fun r17 S18 => (if 0 ≤ r17 then bd (f_X11_laysEcho 126 p1 p2 S18) (fun r20 S21 => lt (sI S21 122 1 (0 : Int32)) (fun S23 => lp (f_X11_asks_39b r17 (fun v24 S25 => (if v24.1 = 0 then f_X11_asks_153 v24.1 (0 : Int32) S25 else f_X11_asks_153 v24.1 (gI S25 122 1) S25))) FU ((1 : Int32), (0 : Int32)) S23)) else some (r17, S18))))
theorem c_X11_asks {p1 : Int32} {p2 : Int32} {S : St} {r : Int32} {S' : St} (hf : f_X11_asks p1 p2 S = some (r, S')) : zM yX11_asks cX11_asks 10 6 (some .int) [.ref 122, .int p1, .int p2] S (some (.int r)) S' := by
  refine zM_of (zpl (by decide)) (Nat.le_of_ble_eq_true rfl) rfl (fun K hK hA => ?_)
  unfold f_X11_asks at hf
  refine j_aload_n hK dX11_asks_0 0 rfl rfl ?_
  refine j_iconst hK (0 : Int32) dX11_asks_1 ic_0 ?_
  refine j_putI hK fl_X11_3 dX11_asks_2 zo_122 zf_11_0 ?_
  refine lt_S hf (fun S16 hf => ?_)
  refine j_aload_n hK dX11_asks_5 0 rfl rfl ?_
  refine j_iload_n hK dX11_asks_6 1 rfl rfl ?_
  refine j_iload_n hK dX11_asks_7 2 rfl rfl ?_
  obtain ⟨r17, S18, h19, hf⟩ := bd_J hf
  refine k_callVi hK (c_X11_readsCall h19) dX11_asks_8 zclX11 zo_122 ml_X11_333 mi_X11_readsCall mx_X11_readsCall in_X11 mc_X11_readsCall hy_X11_readsCall ⟨by decide, by decide⟩ rfl (Nat.le_of_ble_eq_true rfl) ?_
  refine j_istore_n hK (L' := [(3, .int r17), (0, .ref 122), (1, .int p1), (2, .int p2)]) dX11_asks_11 rfl (by decide) rfl ?_
  refine j_pc (pc' := 12) rfl ?_
  refine j_iload_n hK dX11_asks_12 0 rfl rfl ?_
  refine j_if_ge hK 18 dX11_asks_13 (by decide) (fun hc => ?_) (fun hc => ?_)
  · replace hf := if_1 hc hf
    refine j_aload_n hK dX11_asks_18 1 rfl rfl ?_
    refine j_aload_n hK dX11_asks_19 1 rfl rfl ?_
    refine j_getR hK fl_X11_31 dX11_asks_20 zo_122 zf_11_7 zr_122_7 ?_
    refine j_iload_n hK dX11_asks_23 2 rfl rfl ?_
    refine j_iload_n hK dX11_asks_24 3 rfl rfl ?_
    obtain ⟨r20, S21, h22, hf⟩ := bd_J hf
    refine k_callVv hK (c_X11_laysEcho zb_126 h22) dX11_asks_25 zclX11 zo_122 ml_X11_336 mi_X11_laysEcho mx_X11_laysEcho in_X11 mc_X11_laysEcho hy_X11_laysEcho ⟨by decide, by decide⟩ rfl (Nat.le_of_ble_eq_true rfl) ?_
    refine j_iconst hK (1 : Int32) dX11_asks_28 ic_1 ?_
    refine j_pc (pc' := 29) rfl ?_
    refine j_istore hK (L' := [(4, .int (1 : Int32)), (3, .int r17), (0, .ref 122), (1, .int p1), (2, .int p2)]) dX11_asks_29 (by decide) rfl ?_
    refine j_aload_n hK dX11_asks_31 2 rfl rfl ?_
    refine j_iconst hK (0 : Int32) dX11_asks_32 ic_0 ?_
    refine j_putI hK fl_X11_15 dX11_asks_33 zo_122 zf_11_1 ?_
    refine lt_S hf (fun S23 hf => ?_)
    refine j_iconst hK (0 : Int32) dX11_asks_36 ic_0 ?_
    refine j_istore hK (L' := [(5, .int (0 : Int32)), (4, .int (1 : Int32)), (3, .int r17), (0, .ref 122), (1, .int p1), (2, .int p2)]) dX11_asks_37 (by decide) rfl ?_
    refine j_sub [3, 2, 1, 0] rfl ?_
    refine t_X11_asks_39 hK hA  (fun v24 S25 hf => ?_) _ _ _ hf
    refine j_aload_n hK dX11_asks_139 0 rfl rfl ?_
    refine j_iload hK dX11_asks_140 1 rfl ?_
    refine j_if_ne hK 149 dX11_asks_142 (by decide) (fun hc => ?_) (fun hc => ?_)
    · replace hf := if_2 hc hf
      refine j_aload_n hK dX11_asks_149 0 rfl rfl ?_
      refine j_getI hK fl_X11_15 dX11_asks_150 zo_122 zf_11_1 ?_
      refine j_sub [1] rfl ?_
      exact t_X11_asks_153 hK hA  hf
    · replace hf := if_1 hc hf
      refine j_iconst hK (0 : Int32) dX11_asks_145 ic_0 ?_
      refine j_goto hK 153 dX11_asks_146 (by decide) ?_
      refine j_sub [1] rfl ?_
      exact t_X11_asks_153 hK hA  hf
  · replace hf := if_2 hc hf
    refine j_iload_n hK dX11_asks_16 0 rfl rfl ?_
    exact j_iret hK dX11_asks_17 rfl (rt_I hA hf)
def f_X11_becomes_263 (x1 : Int32) (x3 : Int32) (x4 : Int32) (x5 : Int32) (k e : Int32 × Int32 → St → Option (Int32 × St)) (S : St) : Option (Int32 × St) := k (x3, (x5 + (1 : Int32))) S
theorem t_X11_becomes_263 {K : CT} (hK : KO K cX11_becomes RX11 8 6 (some .int)) {r : Int32} {S' : St} (hA : zans K (some (.int r), S')) {x1 : Int32} {x3 : Int32} {x4 : Int32} {x5 : Int32} {k e : Int32 × Int32 → St → Option (Int32 × St)} (hk : ∀ (v : Int32 × Int32) (S : St), k v S = some (r, S') → J K 139 [(0, .ref 122), (1, .int x1), (3, .int v.1), (4, .int x4), (5, .int v.2)] [] S) (he : ∀ (v : Int32 × Int32) (S : St), e v S = some (r, S') → J K 269 [(0, .ref 122), (1, .int x1), (3, .int v.1), (4, .int x4)] [] S) {S : St} (hf : f_X11_becomes_263 x1 x3 x4 x5 k e S = some (r, S')) : J K 263 [(0, .ref 122), (1, .int x1), (3, .int x3), (4, .int x4), (5, .int x5)] [] S := by
  unfold f_X11_becomes_263 at hf
  refine j_iinc hK (L' := [(5, .int (x5 + (1 : Int32))), (0, .ref 122), (1, .int x1), (3, .int x3), (4, .int x4)]) dX11_becomes_263 4 rfl (congrArg (fun y => x5 + y) ic_1) (by decide) rfl ?_
  refine j_goto hK 139 dX11_becomes_266 (by decide) ?_
  refine j_sub [1, 2, 3, 4, 0] rfl ?_
  exact hk _ _ hf
def f_X11_becomes_255 (x1 : Int32) (x3 : Int32) (x4 : Int32) (x5 : Int32) (x6 : Int32) (k e : Int32 × Int32 → St → Option (Int32 × St)) (S : St) : Option (Int32 × St) := bd (f_X11_flag x6 S) (fun r1 S2 => lt (x3 + r1) (fun y4 => f_X11_becomes_263 x1 y4 x4 x5 k e S2))
theorem t_X11_becomes_255 {K : CT} (hK : KO K cX11_becomes RX11 8 6 (some .int)) {r : Int32} {S' : St} (hA : zans K (some (.int r), S')) {x1 : Int32} {x3 : Int32} {x4 : Int32} {x5 : Int32} {x6 : Int32} {k e : Int32 × Int32 → St → Option (Int32 × St)} (hk : ∀ (v : Int32 × Int32) (S : St), k v S = some (r, S') → J K 139 [(0, .ref 122), (1, .int x1), (3, .int v.1), (4, .int x4), (5, .int v.2)] [] S) (he : ∀ (v : Int32 × Int32) (S : St), e v S = some (r, S') → J K 269 [(0, .ref 122), (1, .int x1), (3, .int v.1), (4, .int x4)] [] S) {S : St} (hf : f_X11_becomes_255 x1 x3 x4 x5 x6 k e S = some (r, S')) : J K 255 [(0, .ref 122), (1, .int x1), (3, .int x3), (4, .int x4), (5, .int x5), (6, .int x6)] [] S := by
  unfold f_X11_becomes_255 at hf
  refine j_iload_n hK dX11_becomes_255 2 rfl rfl ?_
  refine j_iload hK dX11_becomes_256 5 rfl ?_
  obtain ⟨r1, S2, h3, hf⟩ := bd_J hf
  refine k_callSi hK (c_X11_flag h3) dX11_becomes_258 ml_X11_155 ms_X11_flag in_X11 mc_X11_flag hy_X11_flag ⟨by decide, by decide⟩ rfl (Nat.le_of_ble_eq_true rfl) ?_
  refine j_iadd hK dX11_becomes_261 ?_
  refine lt_I hf (fun y4 hf => ?_)
  refine j_istore_n hK (L' := [(3, .int y4), (0, .ref 122), (1, .int x1), (4, .int x4), (5, .int x5), (6, .int x6)]) dX11_becomes_262 rfl (by decide) rfl ?_
  refine j_sub [1, 2, 0, 3, 4] rfl ?_
  exact t_X11_becomes_263 hK hA hk he hf
def f_X11_becomes_224 (x1 : Int32) (x3 : Int32) (x4 : Int32) (x5 : Int32) (x7 : Int32) (s0 : Int32) (k e : Int32 × Int32 → St → Option (Int32 × St)) (S : St) : Option (Int32 × St) := k (s0, (x7 + (1 : Int32))) S
theorem t_X11_becomes_224 {K : CT} (hK : KO K cX11_becomes RX11 8 6 (some .int)) {r : Int32} {S' : St} (hA : zans K (some (.int r), S')) {x1 : Int32} {x3 : Int32} {x4 : Int32} {x5 : Int32} {x7 : Int32} {s0 : Int32} {k e : Int32 × Int32 → St → Option (Int32 × St)} (hk : ∀ (v : Int32 × Int32) (S : St), k v S = some (r, S') → J K 181 [(0, .ref 122), (1, .int x1), (3, .int x3), (4, .int x4), (5, .int x5), (6, .int v.1), (7, .int v.2)] [] S) (he : ∀ (v : Int32 × Int32) (S : St), e v S = some (r, S') → J K 232 [(0, .ref 122), (1, .int x1), (3, .int x3), (4, .int x4), (5, .int x5), (6, .int v.1)] [] S) {S : St} (hf : f_X11_becomes_224 x1 x3 x4 x5 x7 s0 k e S = some (r, S')) : J K 224 [(0, .ref 122), (1, .int x1), (3, .int x3), (4, .int x4), (5, .int x5), (7, .int x7)] [.int s0] S := by
  unfold f_X11_becomes_224 at hf
  refine j_istore hK (L' := [(6, .int s0), (0, .ref 122), (1, .int x1), (3, .int x3), (4, .int x4), (5, .int x5), (7, .int x7)]) dX11_becomes_224 (by decide) rfl ?_
  refine j_iinc hK (L' := [(7, .int (x7 + (1 : Int32))), (6, .int s0), (0, .ref 122), (1, .int x1), (3, .int x3), (4, .int x4), (5, .int x5)]) dX11_becomes_226 6 rfl (congrArg (fun y => x7 + y) ic_1) (by decide) rfl ?_
  refine j_goto hK 181 dX11_becomes_229 (by decide) ?_
  refine j_sub [2, 3, 4, 5, 6, 1, 0] rfl ?_
  exact hk _ _ hf
def f_X11_becomes_223 (x1 : Int32) (x3 : Int32) (x4 : Int32) (x5 : Int32) (x7 : Int32) (k e : Int32 × Int32 → St → Option (Int32 × St)) (S : St) : Option (Int32 × St) := f_X11_becomes_224 x1 x3 x4 x5 x7 (0 : Int32) k e S
theorem t_X11_becomes_223 {K : CT} (hK : KO K cX11_becomes RX11 8 6 (some .int)) {r : Int32} {S' : St} (hA : zans K (some (.int r), S')) {x1 : Int32} {x3 : Int32} {x4 : Int32} {x5 : Int32} {x7 : Int32} {k e : Int32 × Int32 → St → Option (Int32 × St)} (hk : ∀ (v : Int32 × Int32) (S : St), k v S = some (r, S') → J K 181 [(0, .ref 122), (1, .int x1), (3, .int x3), (4, .int x4), (5, .int x5), (6, .int v.1), (7, .int v.2)] [] S) (he : ∀ (v : Int32 × Int32) (S : St), e v S = some (r, S') → J K 232 [(0, .ref 122), (1, .int x1), (3, .int x3), (4, .int x4), (5, .int x5), (6, .int v.1)] [] S) {S : St} (hf : f_X11_becomes_223 x1 x3 x4 x5 x7 k e S = some (r, S')) : J K 223 [(0, .ref 122), (1, .int x1), (3, .int x3), (4, .int x4), (5, .int x5), (7, .int x7)] [] S := by
  unfold f_X11_becomes_223 at hf
  refine j_iconst hK (0 : Int32) dX11_becomes_223 ic_0 ?_
  exact t_X11_becomes_224 hK hA hk he hf
def f_X11_becomes_181b (x1 : Int32) (x3 : Int32) (x4 : Int32) (x5 : Int32) (e : Int32 × Int32 → St → Option (Int32 × St)) (k : Int32 × Int32 → St → Option (Int32 × St)) (v : Int32 × Int32) (S : St) : Option (Int32 × St) := (if x1 ≤ v.2 then e (v.1, v.2) S else (if v.1 = 0 then f_X11_becomes_223 x1 x3 x4 x5 v.2 k e S else if inb v.2 6 then bd (f_X11_comesOut 126 (gI S 138 v.2.toNatClampNeg) v.2 S) (fun r6 S7 => if inb v.2 6 then (if r6 = (gI S7 143 v.2.toNatClampNeg) then f_X11_becomes_224 x1 x3 x4 x5 v.2 (1 : Int32) k e S7 else f_X11_becomes_223 x1 x3 x4 x5 v.2 k e S7) else none) else none))
theorem t_X11_becomes_181 {K : CT} (hK : KO K cX11_becomes RX11 8 6 (some .int)) {r : Int32} {S' : St} (hA : zans K (some (.int r), S')) {x1 : Int32} {x3 : Int32} {x4 : Int32} {x5 : Int32} {e : Int32 × Int32 → St → Option (Int32 × St)} (he : ∀ (v : Int32 × Int32) (S : St), e v S = some (r, S') → J K 232 [(0, .ref 122), (1, .int x1), (3, .int x3), (4, .int x4), (5, .int x5), (6, .int v.1)] [] S) : ∀ (n : Nat) (v : Int32 × Int32) (S : St), lp (f_X11_becomes_181b x1 x3 x4 x5 e) n v S = some (r, S') → J K 181 [(0, .ref 122), (1, .int x1), (3, .int x3), (4, .int x4), (5, .int x5), (6, .int v.1), (7, .int v.2)] [] S :=
  lp_J (P := fun (v : Int32 × Int32) (S : St) => J K 181 [(0, .ref 122), (1, .int x1), (3, .int x3), (4, .int x4), (5, .int x5), (6, .int v.1), (7, .int v.2)] [] S) (fun k hk v S hf => by
    unfold f_X11_becomes_181b at hf
    refine j_iload hK dX11_becomes_181 6 rfl ?_
    refine j_iload_n hK dX11_becomes_183 1 rfl rfl ?_
    refine j_icmp_ge hK 232 dX11_becomes_184 (by decide) (fun hc => ?_) (fun hc => ?_)
    · replace hf := if_1 hc hf
      refine j_sub [0, 1, 2, 3, 4, 5] rfl ?_
      exact he _ _ hf
    · replace hf := if_2 hc hf
      refine j_iload hK dX11_becomes_187 5 rfl ?_
      refine j_if_eq hK 223 dX11_becomes_189 (by decide) (fun hc => ?_) (fun hc => ?_)
      · replace hf := if_1 hc hf
        refine j_sub [0, 1, 2, 3, 4, 6] rfl ?_
        exact t_X11_becomes_223 hK hA hk he hf
      · replace hf := if_2 hc hf
        refine j_aload_n hK dX11_becomes_192 0 rfl rfl ?_
        refine j_aload_n hK dX11_becomes_193 0 rfl rfl ?_
        refine j_getR hK fl_X11_31 dX11_becomes_194 zo_122 zf_11_7 zr_122_7 ?_
        refine j_aload_n hK dX11_becomes_197 0 rfl rfl ?_
        refine j_getR hK fl_X11_68 dX11_becomes_198 zo_122 zf_11_30 zr_122_30 ?_
        refine j_iload hK dX11_becomes_201 6 rfl ?_
        obtain ⟨hi5, hf⟩ := gd hf
        refine k_iald hK dX11_becomes_203 zb_138 hi5 rfl ?_
        refine j_pc (pc' := 204) rfl ?_
        refine j_iload hK dX11_becomes_204 6 rfl ?_
        obtain ⟨r6, S7, h8, hf⟩ := bd_J hf
        refine k_callVi hK (c_X11_comesOut zb_126 h8) dX11_becomes_206 zclX11 zo_122 ml_X11_344 mi_X11_comesOut mx_X11_comesOut in_X11 mc_X11_comesOut hy_X11_comesOut ⟨by decide, by decide⟩ rfl (Nat.le_of_ble_eq_true rfl) ?_
        refine j_aload_n hK dX11_becomes_209 0 rfl rfl ?_
        refine j_getR hK fl_X11_83 dX11_becomes_210 zo_122 zf_11_36 zr_122_36 ?_
        refine j_iload hK dX11_becomes_213 6 rfl ?_
        obtain ⟨hi9, hf⟩ := gd hf
        refine k_iald hK dX11_becomes_215 zb_143 hi9 rfl ?_
        refine j_icmp_ne hK 223 dX11_becomes_216 (by decide) (fun hc => ?_) (fun hc => ?_)
        · replace hf := if_2 hc hf
          refine j_sub [0, 1, 2, 3, 4, 6] rfl ?_
          exact t_X11_becomes_223 hK hA hk he hf
        · replace hf := if_1 hc hf
          refine j_iconst hK (1 : Int32) dX11_becomes_219 ic_1 ?_
          refine j_goto hK 224 dX11_becomes_220 (by decide) ?_
          refine j_sub [0, 1, 2, 3, 4, 6] rfl ?_
          exact t_X11_becomes_224 hK hA hk he hf)
def f_X11_becomes_139b (x1 : Int32) (x4 : Int32) (e : Int32 × Int32 → St → Option (Int32 × St)) (k : Int32 × Int32 → St → Option (Int32 × St)) (v : Int32 × Int32) (S : St) : Option (Int32 × St) := (if (gI S 122 3) ≤ v.2 then e (v.1, v.2) S else bd (f_X11_isEcho 126 x4 v.2 S) (fun r10 S11 => (if r10 = 0 then f_X11_becomes_263 x1 v.1 x4 v.2 k e S11 else bd (f_X11_laysEcho 126 x4 v.2 S11) (fun r13 S14 => lp (f_X11_becomes_181b x1 v.1 x4 v.2 (fun v16 S17 => (if v16.1 = 0 then f_X11_becomes_255 x1 v.1 x4 v.2 v16.1 k e S17 else (if v.1 = 0 then bd (f_X11_enters x4.toInt64 S17) (fun r18 S19 => bd (f_X11_enters v.2.toInt64 S19) (fun r21 S22 => f_X11_becomes_255 x1 v.1 x4 v.2 v16.1 k e S22)) else f_X11_becomes_255 x1 v.1 x4 v.2 v16.1 k e S17)))) FU ((1 : Int32), (0 : Int32)) S14))))
theorem t_X11_becomes_139 {K : CT} (hK : KO K cX11_becomes RX11 8 6 (some .int)) {r : Int32} {S' : St} (hA : zans K (some (.int r), S')) {x1 : Int32} {x4 : Int32} {e : Int32 × Int32 → St → Option (Int32 × St)} (he : ∀ (v : Int32 × Int32) (S : St), e v S = some (r, S') → J K 269 [(0, .ref 122), (1, .int x1), (3, .int v.1), (4, .int x4)] [] S) : ∀ (n : Nat) (v : Int32 × Int32) (S : St), lp (f_X11_becomes_139b x1 x4 e) n v S = some (r, S') → J K 139 [(0, .ref 122), (1, .int x1), (3, .int v.1), (4, .int x4), (5, .int v.2)] [] S :=
  lp_J (P := fun (v : Int32 × Int32) (S : St) => J K 139 [(0, .ref 122), (1, .int x1), (3, .int v.1), (4, .int x4), (5, .int v.2)] [] S) (fun k hk v S hf => by
    unfold f_X11_becomes_139b at hf
    refine j_iload hK dX11_becomes_139 4 rfl ?_
    refine j_aload_n hK dX11_becomes_141 0 rfl rfl ?_
    refine j_getI hK fl_X11_128 dX11_becomes_142 zo_122 zf_11_3 ?_
    refine j_icmp_ge hK 269 dX11_becomes_145 (by decide) (fun hc => ?_) (fun hc => ?_)
    · replace hf := if_1 hc hf
      refine j_sub [0, 1, 2, 3] rfl ?_
      exact he _ _ hf
    · replace hf := if_2 hc hf
      refine j_aload_n hK dX11_becomes_148 0 rfl rfl ?_
      refine j_aload_n hK dX11_becomes_149 0 rfl rfl ?_
      refine j_getR hK fl_X11_31 dX11_becomes_150 zo_122 zf_11_7 zr_122_7 ?_
      refine j_iload hK dX11_becomes_153 3 rfl ?_
      refine j_iload hK dX11_becomes_155 4 rfl ?_
      obtain ⟨r10, S11, h12, hf⟩ := bd_J hf
      refine k_callVi hK (c_X11_isEcho zb_126 h12) dX11_becomes_157 zclX11 zo_122 ml_X11_326 mi_X11_isEcho mx_X11_isEcho in_X11 mc_X11_isEcho hy_X11_isEcho ⟨by decide, by decide⟩ rfl (Nat.le_of_ble_eq_true rfl) ?_
      refine j_if_eq hK 263 dX11_becomes_160 (by decide) (fun hc => ?_) (fun hc => ?_)
      · replace hf := if_1 hc hf
        exact t_X11_becomes_263 hK hA hk he hf
      · replace hf := if_2 hc hf
        refine j_aload_n hK dX11_becomes_163 0 rfl rfl ?_
        refine j_aload_n hK dX11_becomes_164 0 rfl rfl ?_
        refine j_getR hK fl_X11_31 dX11_becomes_165 zo_122 zf_11_7 zr_122_7 ?_
        refine j_iload hK dX11_becomes_168 3 rfl ?_
        refine j_iload hK dX11_becomes_170 4 rfl ?_
        obtain ⟨r13, S14, h15, hf⟩ := bd_J hf
        refine k_callVv hK (c_X11_laysEcho zb_126 h15) dX11_becomes_172 zclX11 zo_122 ml_X11_336 mi_X11_laysEcho mx_X11_laysEcho in_X11 mc_X11_laysEcho hy_X11_laysEcho ⟨by decide, by decide⟩ rfl (Nat.le_of_ble_eq_true rfl) ?_
        refine j_iconst hK (1 : Int32) dX11_becomes_175 ic_1 ?_
        refine j_pc (pc' := 176) rfl ?_
        refine j_istore hK (L' := [(6, .int (1 : Int32)), (0, .ref 122), (1, .int x1), (3, .int v.1), (4, .int x4), (5, .int v.2)]) dX11_becomes_176 (by decide) rfl ?_
        refine j_iconst hK (0 : Int32) dX11_becomes_178 ic_0 ?_
        refine j_istore hK (L' := [(7, .int (0 : Int32)), (6, .int (1 : Int32)), (0, .ref 122), (1, .int x1), (3, .int v.1), (4, .int x4), (5, .int v.2)]) dX11_becomes_179 (by decide) rfl ?_
        refine j_sub [2, 3, 4, 5, 6, 1, 0] rfl ?_
        refine t_X11_becomes_181 hK hA  (fun v16 S17 hf => ?_) _ _ _ hf
        refine j_iload hK dX11_becomes_232 5 rfl ?_
        refine j_if_eq hK 255 dX11_becomes_234 (by decide) (fun hc => ?_) (fun hc => ?_)
        · replace hf := if_1 hc hf
          exact t_X11_becomes_255 hK hA hk he hf
        · replace hf := if_2 hc hf
          refine j_iload_n hK dX11_becomes_237 2 rfl rfl ?_
          refine j_if_ne hK 255 dX11_becomes_238 (by decide) (fun hc => ?_) (fun hc => ?_)
          · replace hf := if_2 hc hf
            exact t_X11_becomes_255 hK hA hk he hf
          · replace hf := if_1 hc hf
            refine j_aload_n hK dX11_becomes_241 0 rfl rfl ?_
            refine j_iload hK dX11_becomes_242 3 rfl ?_
            refine j_i2l hK dX11_becomes_244 ?_
            obtain ⟨r18, S19, h20, hf⟩ := bd_J hf
            refine k_callVv hK (c_X11_enters h20) dX11_becomes_245 zclX11 zo_122 ml_X11_340 mi_X11_enters mx_X11_enters in_X11 mc_X11_enters hy_X11_enters ⟨by decide, by decide⟩ rfl (Nat.le_of_ble_eq_true rfl) ?_
            refine j_aload_n hK dX11_becomes_248 0 rfl rfl ?_
            refine j_iload hK dX11_becomes_249 4 rfl ?_
            refine j_i2l hK dX11_becomes_251 ?_
            refine j_pc (pc' := 252) rfl ?_
            obtain ⟨r21, S22, h23, hf⟩ := bd_J hf
            refine k_callVv hK (c_X11_enters h23) dX11_becomes_252 zclX11 zo_122 ml_X11_340 mi_X11_enters mx_X11_enters in_X11 mc_X11_enters hy_X11_enters ⟨by decide, by decide⟩ rfl (Nat.le_of_ble_eq_true rfl) ?_
            exact t_X11_becomes_255 hK hA hk he hf)
def f_X11_becomes_129b (x1 : Int32) (e : Int32 × Int32 → St → Option (Int32 × St)) (k : Int32 × Int32 → St → Option (Int32 × St)) (v : Int32 × Int32) (S : St) : Option (Int32 × St) := (if (8 : Int32) ≤ v.2 then e (v.1, v.2) S else lp (f_X11_becomes_139b x1 v.2 (fun v24 S25 => k (v24.1, (v.2 + (1 : Int32))) S25)) FU (v.1, (0 : Int32)) S)
theorem t_X11_becomes_129 {K : CT} (hK : KO K cX11_becomes RX11 8 6 (some .int)) {r : Int32} {S' : St} (hA : zans K (some (.int r), S')) {x1 : Int32} {e : Int32 × Int32 → St → Option (Int32 × St)} (he : ∀ (v : Int32 × Int32) (S : St), e v S = some (r, S') → J K 275 [(3, .int v.1)] [] S) : ∀ (n : Nat) (v : Int32 × Int32) (S : St), lp (f_X11_becomes_129b x1 e) n v S = some (r, S') → J K 129 [(0, .ref 122), (1, .int x1), (3, .int v.1), (4, .int v.2)] [] S :=
  lp_J (P := fun (v : Int32 × Int32) (S : St) => J K 129 [(0, .ref 122), (1, .int x1), (3, .int v.1), (4, .int v.2)] [] S) (fun k hk v S hf => by
    unfold f_X11_becomes_129b at hf
    refine j_iload hK dX11_becomes_129 3 rfl ?_
    refine j_bipush hK (8 : Int32) dX11_becomes_131 bi_8 ?_
    refine j_icmp_ge hK 275 dX11_becomes_133 (by decide) (fun hc => ?_) (fun hc => ?_)
    · replace hf := if_1 hc hf
      refine j_sub [2] rfl ?_
      exact he _ _ hf
    · replace hf := if_2 hc hf
      refine j_iconst hK (0 : Int32) dX11_becomes_136 ic_0 ?_
      refine j_istore hK (L' := [(5, .int (0 : Int32)), (0, .ref 122), (1, .int x1), (3, .int v.1), (4, .int v.2)]) dX11_becomes_137 (by decide) rfl ?_
      refine j_sub [1, 2, 3, 4, 0] rfl ?_
      refine t_X11_becomes_139 hK hA  (fun v24 S25 hf => ?_) _ _ _ hf
      refine j_iinc hK (L' := [(4, .int (v.2 + (1 : Int32))), (0, .ref 122), (1, .int x1), (3, .int v24.1)]) dX11_becomes_269 3 rfl (congrArg (fun y => v.2 + y) ic_1) (by decide) rfl ?_
      refine j_goto hK 129 dX11_becomes_272 (by decide) ?_
      refine j_sub [1, 2, 3, 0] rfl ?_
      exact hk _ _ hf)
def f_X11_becomes_112 (S : St) : Option (Int32 × St) := some (((-1 : Int32) - (gI S 122 11)), S)
theorem t_X11_becomes_112 {K : CT} (hK : KO K cX11_becomes RX11 8 6 (some .int)) {r : Int32} {S' : St} (hA : zans K (some (.int r), S')) {S : St} (hf : f_X11_becomes_112  S = some (r, S')) : J K 112 [(0, .ref 122)] [] S := by
  unfold f_X11_becomes_112 at hf
  refine j_iconst hK (-1 : Int32) dX11_becomes_112 ic_m1 ?_
  refine j_aload_n hK dX11_becomes_113 0 rfl rfl ?_
  refine j_getI hK fl_X11_140 dX11_becomes_114 zo_122 zf_11_11 ?_
  refine j_isub hK dX11_becomes_117 ?_
  exact j_iret hK dX11_becomes_118 rfl (rt_I hA hf)
def f_X11_becomes_77 (x1 : Int32) (x2 : Int32) (x3 : Int32) (s1 : Int32) (s2 : Int32) (k e : Int32 × Int32 → St → Option (Int32 × St)) (S : St) : Option (Int32 × St) := if inb s1 6 then lt (sI S 143 s1.toNatClampNeg s2) (fun S27 => bd (f_X11_flag x2 S27) (fun r28 S29 => lt (sI S29 122 11 ((gI S27 122 11) + r28)) (fun S31 => k (x2, (x3 + (1 : Int32))) S31))) else none
theorem t_X11_becomes_77 {K : CT} (hK : KO K cX11_becomes RX11 8 6 (some .int)) {r : Int32} {S' : St} (hA : zans K (some (.int r), S')) {x1 : Int32} {x2 : Int32} {x3 : Int32} {s1 : Int32} {s2 : Int32} {k e : Int32 × Int32 → St → Option (Int32 × St)} (hk : ∀ (v : Int32 × Int32) (S : St), k v S = some (r, S') → J K 38 [(0, .ref 122), (1, .int x1), (2, .int v.1), (3, .int v.2)] [] S) (he : ∀ (v : Int32 × Int32) (S : St), e v S = some (r, S') → J K 97 [(0, .ref 122), (1, .int x1), (2, .int v.1)] [] S) {S : St} (hf : f_X11_becomes_77 x1 x2 x3 s1 s2 k e S = some (r, S')) : J K 77 [(0, .ref 122), (1, .int x1), (2, .int x2), (3, .int x3)] [.int s2, .int s1, .ref 143] S := by
  unfold f_X11_becomes_77 at hf
  obtain ⟨hi26, hf⟩ := gd hf
  refine k_iast hK dX11_becomes_77 zb_143 hi26 rfl ?_
  refine lt_S hf (fun S27 hf => ?_)
  refine j_aload_n hK dX11_becomes_78 0 rfl rfl ?_
  refine j_dup hK dX11_becomes_79 rfl ?_
  refine j_getI hK fl_X11_140 dX11_becomes_80 zo_122 zf_11_11 ?_
  refine j_iload_n hK dX11_becomes_83 2 rfl rfl ?_
  obtain ⟨r28, S29, h30, hf⟩ := bd_J hf
  refine k_callSi hK (c_X11_flag h30) dX11_becomes_84 ml_X11_155 ms_X11_flag in_X11 mc_X11_flag hy_X11_flag ⟨by decide, by decide⟩ rfl (Nat.le_of_ble_eq_true rfl) ?_
  refine j_iadd hK dX11_becomes_87 ?_
  refine j_putI hK fl_X11_140 dX11_becomes_88 zo_122 zf_11_11 ?_
  refine lt_S hf (fun S31 hf => ?_)
  refine j_pc (pc' := 91) rfl ?_
  refine j_iinc hK (L' := [(3, .int (x3 + (1 : Int32))), (0, .ref 122), (1, .int x1), (2, .int x2)]) dX11_becomes_91 3 rfl (congrArg (fun y => x3 + y) ic_1) (by decide) rfl ?_
  refine j_goto hK 38 dX11_becomes_94 (by decide) ?_
  refine j_sub [1, 2, 3, 0] rfl ?_
  exact hk _ _ hf
def f_X11_becomes_38b (x1 : Int32) (e : Int32 × Int32 → St → Option (Int32 × St)) (k : Int32 × Int32 → St → Option (Int32 × St)) (v : Int32 × Int32) (S : St) : Option (Int32 × St) := (if x1 ≤ v.2 then e (v.1, v.2) S else (if v.1 = 0 then e (v.1, v.2) S else bd (f_X11_isLetter S) (fun r32 S33 => (if r32 = 0 then f_X11_becomes_77 x1 r32 v.2 v.2 (-1 : Int32) k e S33 else if inb (gI S33 122 11) 80 then f_X11_becomes_77 x1 r32 v.2 v.2 ((gI S33 128 (gI S33 122 11).toNatClampNeg) - (97 : Int32)) k e S33 else none))))
theorem t_X11_becomes_38 {K : CT} (hK : KO K cX11_becomes RX11 8 6 (some .int)) {r : Int32} {S' : St} (hA : zans K (some (.int r), S')) {x1 : Int32} {e : Int32 × Int32 → St → Option (Int32 × St)} (he : ∀ (v : Int32 × Int32) (S : St), e v S = some (r, S') → J K 97 [(0, .ref 122), (1, .int x1), (2, .int v.1)] [] S) : ∀ (n : Nat) (v : Int32 × Int32) (S : St), lp (f_X11_becomes_38b x1 e) n v S = some (r, S') → J K 38 [(0, .ref 122), (1, .int x1), (2, .int v.1), (3, .int v.2)] [] S :=
  lp_J (P := fun (v : Int32 × Int32) (S : St) => J K 38 [(0, .ref 122), (1, .int x1), (2, .int v.1), (3, .int v.2)] [] S) (fun k hk v S hf => by
    unfold f_X11_becomes_38b at hf
    refine j_iload_n hK dX11_becomes_38 3 rfl rfl ?_
    refine j_iload_n hK dX11_becomes_39 1 rfl rfl ?_
    refine j_icmp_ge hK 97 dX11_becomes_40 (by decide) (fun hc => ?_) (fun hc => ?_)
    · replace hf := if_1 hc hf
      refine j_sub [0, 1, 2] rfl ?_
      exact he _ _ hf
    · replace hf := if_2 hc hf
      refine j_iload_n hK dX11_becomes_43 2 rfl rfl ?_
      refine j_if_eq hK 97 dX11_becomes_44 (by decide) (fun hc => ?_) (fun hc => ?_)
      · replace hf := if_1 hc hf
        refine j_sub [0, 1, 2] rfl ?_
        exact he _ _ hf
      · replace hf := if_2 hc hf
        refine j_aload_n hK dX11_becomes_47 0 rfl rfl ?_
        obtain ⟨r32, S33, h34, hf⟩ := bd_J hf
        refine k_callVi hK (c_X11_isLetter h34) dX11_becomes_48 zclX11 zo_122 ml_X11_323 mi_X11_isLetter mx_X11_isLetter in_X11 mc_X11_isLetter hy_X11_isLetter ⟨by decide, by decide⟩ rfl (Nat.le_of_ble_eq_true rfl) ?_
        refine j_istore_n hK (L' := [(2, .int r32), (0, .ref 122), (1, .int x1), (3, .int v.2)]) dX11_becomes_51 rfl (by decide) rfl ?_
        refine j_aload_n hK dX11_becomes_52 1 rfl rfl ?_
        refine j_getR hK fl_X11_83 dX11_becomes_53 zo_122 zf_11_36 zr_122_36 ?_
        refine j_iload_n hK dX11_becomes_56 3 rfl rfl ?_
        refine j_iload_n hK dX11_becomes_57 0 rfl rfl ?_
        refine j_pc (pc' := 58) rfl ?_
        refine j_if_eq hK 76 dX11_becomes_58 (by decide) (fun hc => ?_) (fun hc => ?_)
        · replace hf := if_1 hc hf
          refine j_iconst hK (-1 : Int32) dX11_becomes_76 ic_m1 ?_
          refine j_sub [1, 2, 0, 3] rfl ?_
          exact t_X11_becomes_77 hK hA hk he hf
        · replace hf := if_2 hc hf
          refine j_aload_n hK dX11_becomes_61 1 rfl rfl ?_
          refine j_getR hK fl_X11_37 dX11_becomes_62 zo_122 zf_11_9 zr_122_9 ?_
          refine j_aload_n hK dX11_becomes_65 1 rfl rfl ?_
          refine j_getI hK fl_X11_140 dX11_becomes_66 zo_122 zf_11_11 ?_
          obtain ⟨hi35, hf⟩ := gd hf
          refine k_iald hK dX11_becomes_69 zb_128 hi35 rfl ?_
          refine j_bipush hK (97 : Int32) dX11_becomes_70 bi_97 ?_
          refine j_isub hK dX11_becomes_72 ?_
          refine j_pc (pc' := 73) rfl ?_
          refine j_goto hK 77 dX11_becomes_73 (by decide) ?_
          refine j_sub [1, 2, 0, 3] rfl ?_
          exact t_X11_becomes_77 hK hA hk he hf)
def f_X11_becomes_35 (x1 : Int32) (s0 : Int32) (S : St) : Option (Int32 × St) := lp (f_X11_becomes_38b x1 (fun v36 S37 => (if v36.1 = 0 then f_X11_becomes_112  S37 else (if (gI S37 122 12) ≤ (gI S37 122 11) then lt (sI S37 122 1 (0 : Int32)) (fun S38 => lp (f_X11_becomes_129b x1 (fun v39 S40 => some (v39.1, S40))) FU ((0 : Int32), (0 : Int32)) S38) else f_X11_becomes_112  S37)))) FU (s0, (0 : Int32)) S
theorem t_X11_becomes_35 {K : CT} (hK : KO K cX11_becomes RX11 8 6 (some .int)) {r : Int32} {S' : St} (hA : zans K (some (.int r), S')) {x1 : Int32} {s0 : Int32} {S : St} (hf : f_X11_becomes_35 x1 s0 S = some (r, S')) : J K 35 [(0, .ref 122), (1, .int x1)] [.int s0] S := by
  unfold f_X11_becomes_35 at hf
  refine j_istore_n hK (L' := [(2, .int s0), (0, .ref 122), (1, .int x1)]) dX11_becomes_35 rfl (by decide) rfl ?_
  refine j_iconst hK (0 : Int32) dX11_becomes_36 ic_0 ?_
  refine j_istore_n hK (L' := [(3, .int (0 : Int32)), (2, .int s0), (0, .ref 122), (1, .int x1)]) dX11_becomes_37 rfl (by decide) rfl ?_
  refine j_sub [2, 3, 1, 0] rfl ?_
  refine t_X11_becomes_38 hK hA  (fun v36 S37 hf => ?_) _ _ _ hf
  refine j_iload_n hK dX11_becomes_97 2 rfl rfl ?_
  refine j_if_eq hK 112 dX11_becomes_98 (by decide) (fun hc => ?_) (fun hc => ?_)
  · replace hf := if_1 hc hf
    refine j_sub [0] rfl ?_
    exact t_X11_becomes_112 hK hA  hf
  · replace hf := if_2 hc hf
    refine j_aload_n hK dX11_becomes_101 0 rfl rfl ?_
    refine j_getI hK fl_X11_140 dX11_becomes_102 zo_122 zf_11_11 ?_
    refine j_aload_n hK dX11_becomes_105 0 rfl rfl ?_
    refine j_getI hK fl_X11_152 dX11_becomes_106 zo_122 zf_11_12 ?_
    refine j_icmp_ge hK 119 dX11_becomes_109 (by decide) (fun hc => ?_) (fun hc => ?_)
    · replace hf := if_1 hc hf
      refine j_iconst hK (0 : Int32) dX11_becomes_119 ic_0 ?_
      refine j_istore_n hK (L' := [(3, .int (0 : Int32)), (0, .ref 122), (1, .int x1), (2, .int v36.1)]) dX11_becomes_120 rfl (by decide) rfl ?_
      refine j_aload_n hK dX11_becomes_121 1 rfl rfl ?_
      refine j_iconst hK (0 : Int32) dX11_becomes_122 ic_0 ?_
      refine j_putI hK fl_X11_15 dX11_becomes_123 zo_122 zf_11_1 ?_
      refine lt_S hf (fun S38 hf => ?_)
      refine j_iconst hK (0 : Int32) dX11_becomes_126 ic_0 ?_
      refine j_istore hK (L' := [(4, .int (0 : Int32)), (3, .int (0 : Int32)), (0, .ref 122), (1, .int x1), (2, .int v36.1)]) dX11_becomes_127 (by decide) rfl ?_
      refine j_sub [2, 3, 1, 0] rfl ?_
      refine t_X11_becomes_129 hK hA  (fun v39 S40 hf => ?_) _ _ _ hf
      refine j_iload_n hK dX11_becomes_275 0 rfl rfl ?_
      exact j_iret hK dX11_becomes_276 rfl (rt_I hA hf)
    · replace hf := if_2 hc hf
      refine j_sub [0] rfl ?_
      exact t_X11_becomes_112 hK hA  hf
def f_X11_becomes_34 (x1 : Int32) (S : St) : Option (Int32 × St) := f_X11_becomes_35 x1 (0 : Int32) S
theorem t_X11_becomes_34 {K : CT} (hK : KO K cX11_becomes RX11 8 6 (some .int)) {r : Int32} {S' : St} (hA : zans K (some (.int r), S')) {x1 : Int32} {S : St} (hf : f_X11_becomes_34 x1 S = some (r, S')) : J K 34 [(0, .ref 122), (1, .int x1)] [] S := by
  unfold f_X11_becomes_34 at hf
  refine j_iconst hK (0 : Int32) dX11_becomes_34 ic_0 ?_
  exact t_X11_becomes_35 hK hA  hf
def f_X11_becomes (S : St) : Option (Int32 × St) := lt (sI S 122 0 (0 : Int32)) (fun S41 => bd (f_X11_begins (80 : Int32) S41) (fun r42 S43 => bd (f_X11_readsLetters S43) (fun r45 S46 => (if r45 ≤ 0 then f_X11_becomes_34 r45 S46 else bd (f_X11_takes (59 : Int32) S46) (fun r48 S49 => (if r48 = 0 then f_X11_becomes_34 r45 S49 else f_X11_becomes_35 r45 (1 : Int32) S49))))))
theorem c_X11_becomes {S : St} {r : Int32} {S' : St} (hf : f_X11_becomes S = some (r, S')) : zM yX11_becomes cX11_becomes 8 6 (some .int) [.ref 122] S (some (.int r)) S' := by
  refine zM_of (zpl (by decide)) (Nat.le_of_ble_eq_true rfl) rfl (fun K hK hA => ?_)
  unfold f_X11_becomes at hf
  refine j_aload_n hK dX11_becomes_0 0 rfl rfl ?_
  refine j_iconst hK (0 : Int32) dX11_becomes_1 ic_0 ?_
  refine j_putI hK fl_X11_3 dX11_becomes_2 zo_122 zf_11_0 ?_
  refine lt_S hf (fun S41 hf => ?_)
  refine j_aload_n hK dX11_becomes_5 0 rfl rfl ?_
  refine j_bipush hK (80 : Int32) dX11_becomes_6 bi_80 ?_
  obtain ⟨r42, S43, h44, hf⟩ := bd_J hf
  refine k_callVi hK (c_X11_begins h44) dX11_becomes_8 zclX11 zo_122 ml_X11_192 mi_X11_begins mx_X11_begins in_X11 mc_X11_begins hy_X11_begins ⟨by decide, by decide⟩ rfl (Nat.le_of_ble_eq_true rfl) ?_
  refine j_pop hK dX11_becomes_11 rfl ?_
  refine j_aload_n hK dX11_becomes_12 0 rfl rfl ?_
  refine j_pc (pc' := 13) rfl ?_
  obtain ⟨r45, S46, h47, hf⟩ := bd_J hf
  refine k_callVi hK (c_X11_readsLetters h47) dX11_becomes_13 zclX11 zo_122 ml_X11_330 mi_X11_readsLetters mx_X11_readsLetters in_X11 mc_X11_readsLetters hy_X11_readsLetters ⟨by decide, by decide⟩ rfl (Nat.le_of_ble_eq_true rfl) ?_
  refine j_istore_n hK (L' := [(1, .int r45), (0, .ref 122)]) dX11_becomes_16 rfl (by decide) rfl ?_
  refine j_iload_n hK dX11_becomes_17 0 rfl rfl ?_
  refine j_if_le hK 34 dX11_becomes_18 (by decide) (fun hc => ?_) (fun hc => ?_)
  · replace hf := if_1 hc hf
    refine j_sub [1, 0] rfl ?_
    exact t_X11_becomes_34 hK hA  hf
  · replace hf := if_2 hc hf
    refine j_aload_n hK dX11_becomes_21 1 rfl rfl ?_
    refine j_bipush hK (59 : Int32) dX11_becomes_22 bi_59 ?_
    obtain ⟨r48, S49, h50, hf⟩ := bd_J hf
    refine k_callVi hK (c_X11_takes h50) dX11_becomes_24 zclX11 zo_122 ml_X11_198 mi_X11_takes mx_X11_takes in_X11 mc_X11_takes hy_X11_takes ⟨by decide, by decide⟩ rfl (Nat.le_of_ble_eq_true rfl) ?_
    refine j_if_eq hK 34 dX11_becomes_27 (by decide) (fun hc => ?_) (fun hc => ?_)
    · replace hf := if_1 hc hf
      refine j_sub [1, 0] rfl ?_
      exact t_X11_becomes_34 hK hA  hf
    · replace hf := if_2 hc hf
      refine j_iconst hK (1 : Int32) dX11_becomes_30 ic_1 ?_
      refine j_goto hK 35 dX11_becomes_31 (by decide) ?_
      refine j_sub [1, 0] rfl ?_
      exact t_X11_becomes_35 hK hA  hf
def f_X11_kept_30 (x1 : Int32) (x3 : Int32) (s0 : Int32) (s1 : Int32) (k e : Int32 × Int32 → St → Option (Int32 × St)) (S : St) : Option (Int32 × St) := bd (f_X11_flag s1 S) (fun r1 S2 => lt (s0 + r1) (fun y4 => k (y4, (x3 + (1 : Int32))) S2))
theorem t_X11_kept_30 {K : CT} (hK : KO K cX11_kept RX11 4 6 (some .int)) {r : Int32} {S' : St} (hA : zans K (some (.int r), S')) {x1 : Int32} {x3 : Int32} {s0 : Int32} {s1 : Int32} {k e : Int32 × Int32 → St → Option (Int32 × St)} (hk : ∀ (v : Int32 × Int32) (S : St), k v S = some (r, S') → J K 4 [(0, .ref 122), (1, .int x1), (2, .int v.1), (3, .int v.2)] [] S) (he : ∀ (v : Int32 × Int32) (S : St), e v S = some (r, S') → J K 41 [(2, .int v.1)] [] S) {S : St} (hf : f_X11_kept_30 x1 x3 s0 s1 k e S = some (r, S')) : J K 30 [(0, .ref 122), (1, .int x1), (3, .int x3)] [.int s1, .int s0] S := by
  unfold f_X11_kept_30 at hf
  obtain ⟨r1, S2, h3, hf⟩ := bd_J hf
  refine k_callSi hK (c_X11_flag h3) dX11_kept_30 ml_X11_155 ms_X11_flag in_X11 mc_X11_flag hy_X11_flag ⟨by decide, by decide⟩ rfl (Nat.le_of_ble_eq_true rfl) ?_
  refine j_iadd hK dX11_kept_33 ?_
  refine lt_I hf (fun y4 hf => ?_)
  refine j_istore_n hK (L' := [(2, .int y4), (0, .ref 122), (1, .int x1), (3, .int x3)]) dX11_kept_34 rfl (by decide) rfl ?_
  refine j_iinc hK (L' := [(3, .int (x3 + (1 : Int32))), (2, .int y4), (0, .ref 122), (1, .int x1)]) dX11_kept_35 3 rfl (congrArg (fun y => x3 + y) ic_1) (by decide) rfl ?_
  refine j_goto hK 4 dX11_kept_38 (by decide) ?_
  refine j_sub [2, 3, 1, 0] rfl ?_
  exact hk _ _ hf
def f_X11_kept_4b (x1 : Int32) (e : Int32 × Int32 → St → Option (Int32 × St)) (k : Int32 × Int32 → St → Option (Int32 × St)) (v : Int32 × Int32) (S : St) : Option (Int32 × St) := (if (8 : Int32) ≤ v.2 then e (v.1, v.2) S else bd (f_X11_comesOut 126 v.2 x1 S) (fun r5 S6 => (if r5 = v.2 then f_X11_kept_30 x1 v.2 v.1 (1 : Int32) k e S6 else f_X11_kept_30 x1 v.2 v.1 (0 : Int32) k e S6)))
theorem t_X11_kept_4 {K : CT} (hK : KO K cX11_kept RX11 4 6 (some .int)) {r : Int32} {S' : St} (hA : zans K (some (.int r), S')) {x1 : Int32} {e : Int32 × Int32 → St → Option (Int32 × St)} (he : ∀ (v : Int32 × Int32) (S : St), e v S = some (r, S') → J K 41 [(2, .int v.1)] [] S) : ∀ (n : Nat) (v : Int32 × Int32) (S : St), lp (f_X11_kept_4b x1 e) n v S = some (r, S') → J K 4 [(0, .ref 122), (1, .int x1), (2, .int v.1), (3, .int v.2)] [] S :=
  lp_J (P := fun (v : Int32 × Int32) (S : St) => J K 4 [(0, .ref 122), (1, .int x1), (2, .int v.1), (3, .int v.2)] [] S) (fun k hk v S hf => by
    unfold f_X11_kept_4b at hf
    refine j_iload_n hK dX11_kept_4 3 rfl rfl ?_
    refine j_bipush hK (8 : Int32) dX11_kept_5 bi_8 ?_
    refine j_icmp_ge hK 41 dX11_kept_7 (by decide) (fun hc => ?_) (fun hc => ?_)
    · replace hf := if_1 hc hf
      refine j_sub [2] rfl ?_
      exact he _ _ hf
    · replace hf := if_2 hc hf
      refine j_iload_n hK dX11_kept_10 2 rfl rfl ?_
      refine j_aload_n hK dX11_kept_11 0 rfl rfl ?_
      refine j_aload_n hK dX11_kept_12 0 rfl rfl ?_
      refine j_getR hK fl_X11_31 dX11_kept_13 zo_122 zf_11_7 zr_122_7 ?_
      refine j_iload_n hK dX11_kept_16 3 rfl rfl ?_
      refine j_iload_n hK dX11_kept_17 1 rfl rfl ?_
      obtain ⟨r5, S6, h7, hf⟩ := bd_J hf
      refine k_callVi hK (c_X11_comesOut zb_126 h7) dX11_kept_18 zclX11 zo_122 ml_X11_344 mi_X11_comesOut mx_X11_comesOut in_X11 mc_X11_comesOut hy_X11_comesOut ⟨by decide, by decide⟩ rfl (Nat.le_of_ble_eq_true rfl) ?_
      refine j_pc (pc' := 21) rfl ?_
      refine j_iload_n hK dX11_kept_21 3 rfl rfl ?_
      refine j_icmp_ne hK 29 dX11_kept_22 (by decide) (fun hc => ?_) (fun hc => ?_)
      · replace hf := if_2 hc hf
        refine j_iconst hK (0 : Int32) dX11_kept_29 ic_0 ?_
        refine j_sub [0, 1, 3] rfl ?_
        exact t_X11_kept_30 hK hA hk he hf
      · replace hf := if_1 hc hf
        refine j_iconst hK (1 : Int32) dX11_kept_25 ic_1 ?_
        refine j_goto hK 30 dX11_kept_26 (by decide) ?_
        refine j_sub [0, 1, 3] rfl ?_
        exact t_X11_kept_30 hK hA hk he hf)
def f_X11_kept (p1 : Int32) (S : St) : Option (Int32 × St) := lp (f_X11_kept_4b p1 (fun v8 S9 => some (v8.1, S9))) FU ((0 : Int32), (0 : Int32)) S
theorem c_X11_kept {p1 : Int32} {S : St} {r : Int32} {S' : St} (hf : f_X11_kept p1 S = some (r, S')) : zM yX11_kept cX11_kept 4 6 (some .int) [.ref 122, .int p1] S (some (.int r)) S' := by
  refine zM_of (zpl (by decide)) (Nat.le_of_ble_eq_true rfl) rfl (fun K hK hA => ?_)
  unfold f_X11_kept at hf
  refine j_iconst hK (0 : Int32) dX11_kept_0 ic_0 ?_
  refine j_istore_n hK (L' := [(2, .int (0 : Int32)), (0, .ref 122), (1, .int p1)]) dX11_kept_1 rfl (by decide) rfl ?_
  refine j_iconst hK (0 : Int32) dX11_kept_2 ic_0 ?_
  refine j_istore_n hK (L' := [(3, .int (0 : Int32)), (2, .int (0 : Int32)), (0, .ref 122), (1, .int p1)]) dX11_kept_3 rfl (by decide) rfl ?_
  refine j_sub [2, 3, 1, 0] rfl ?_
  refine t_X11_kept_4 hK hA  (fun v8 S9 hf => ?_) _ _ _ hf
  refine j_iload_n hK dX11_kept_41 0 rfl rfl ?_
  exact j_iret hK dX11_kept_42 rfl (rt_I hA hf)
