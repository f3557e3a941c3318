def f_X8_within (p1 : Int32) (p2 : Int32) (p3 : Int32) (S : St) : Option (Int32 × St) := (if p1 < 0 then some ((0 : Int32), S) else (if (80 : Int32) ≤ p1 then some ((0 : Int32), S) else if inb p1 80 then (if (gI S 2 p1.toNatClampNeg) < p2 then some ((0 : Int32), S) else if inb p1 80 then (if p3 < (gI S 2 p1.toNatClampNeg) then some ((0 : Int32), S) else some ((1 : Int32), S)) else none) else none))
theorem c_X8_within {p1 : Int32} {p2 : Int32} {p3 : Int32} {S : St} {r : Int32} {S' : St} (hf : f_X8_within p1 p2 p3 S = some (r, S')) : zM yX8_within cX8_within 4 1 (some .boolean) [.ref 1, .int p1, .int p2, .int p3] S (some (.int r)) S' := by
  refine zM_of (zpl (by decide)) (Nat.le_of_ble_eq_true rfl) rfl (fun K hK hA => ?_)
  unfold f_X8_within at hf
  refine j_iload_n hK dX8_within_0 1 rfl rfl ?_
  refine j_if_lt hK 34 dX8_within_1 (by decide) (fun hc => ?_) (fun hc => ?_)
  · replace hf := if_1 hc hf
    refine j_iconst hK (0 : Int32) dX8_within_34 ic_0 ?_
    exact j_zret hK dX8_within_35 rfl rfl (rt_I hA hf)
  · replace hf := if_2 hc hf
    refine j_iload_n hK dX8_within_4 1 rfl rfl ?_
    refine j_bipush hK (80 : Int32) dX8_within_5 bi_80 ?_
    refine j_icmp_ge hK 34 dX8_within_7 (by decide) (fun hc => ?_) (fun hc => ?_)
    · replace hf := if_1 hc hf
      refine j_iconst hK (0 : Int32) dX8_within_34 ic_0 ?_
      exact j_zret hK dX8_within_35 rfl rfl (rt_I hA hf)
    · replace hf := if_2 hc hf
      refine j_aload_n hK dX8_within_10 0 rfl rfl ?_
      refine j_getR hK fl_X8_11 dX8_within_11 zo_1 zf_8_0 zr_1_0 ?_
      refine j_iload_n hK dX8_within_14 1 rfl rfl ?_
      obtain ⟨hi1, hf⟩ := gd hf
      refine k_cald hK dX8_within_15 zb_2 hi1 rfl ?_
      refine j_iload_n hK dX8_within_16 2 rfl rfl ?_
      refine j_icmp_lt hK 34 dX8_within_17 (by decide) (fun hc => ?_) (fun hc => ?_)
      · replace hf := if_1 hc hf
        refine j_iconst hK (0 : Int32) dX8_within_34 ic_0 ?_
        exact j_zret hK dX8_within_35 rfl rfl (rt_I hA hf)
      · replace hf := if_2 hc hf
        refine j_aload_n hK dX8_within_20 0 rfl rfl ?_
        refine j_getR hK fl_X8_11 dX8_within_21 zo_1 zf_8_0 zr_1_0 ?_
        refine j_iload_n hK dX8_within_24 1 rfl rfl ?_
        obtain ⟨hi2, hf⟩ := gd hf
        refine k_cald hK dX8_within_25 zb_2 hi2 rfl ?_
        refine j_iload_n hK dX8_within_26 3 rfl rfl ?_
        refine j_icmp_gt hK 34 dX8_within_27 (by decide) (fun hc => ?_) (fun hc => ?_)
        · replace hf := if_1 hc hf
          refine j_iconst hK (0 : Int32) dX8_within_34 ic_0 ?_
          exact j_zret hK dX8_within_35 rfl rfl (rt_I hA hf)
        · replace hf := if_2 hc hf
          refine j_iconst hK (1 : Int32) dX8_within_30 ic_1 ?_
          refine j_goto hK 35 dX8_within_31 (by decide) ?_
          exact j_zret hK dX8_within_35 rfl rfl (rt_I hA hf)
def f_X8_digit (p1 : Int32) (S : St) : Option (Int32 × St) := (if p1 < 0 then some ((-1 : Int32), S) else (if (80 : Int32) ≤ p1 then some ((-1 : Int32), S) else if inb p1 80 then some (((gI S 2 p1.toNatClampNeg) - (48 : Int32)), S) else none))
theorem c_X8_digit {p1 : Int32} {S : St} {r : Int32} {S' : St} (hf : f_X8_digit p1 S = some (r, S')) : zM yX8_digit cX8_digit 2 1 (some .int) [.ref 1, .int p1] S (some (.int r)) S' := by
  refine zM_of (zpl (by decide)) (Nat.le_of_ble_eq_true rfl) rfl (fun K hK hA => ?_)
  unfold f_X8_digit at hf
  refine j_iload_n hK dX8_digit_0 1 rfl rfl ?_
  refine j_if_lt hK 22 dX8_digit_1 (by decide) (fun hc => ?_) (fun hc => ?_)
  · replace hf := if_1 hc hf
    refine j_iconst hK (-1 : Int32) dX8_digit_22 ic_m1 ?_
    exact j_iret hK dX8_digit_23 rfl (rt_I hA hf)
  · replace hf := if_2 hc hf
    refine j_iload_n hK dX8_digit_4 1 rfl rfl ?_
    refine j_bipush hK (80 : Int32) dX8_digit_5 bi_80 ?_
    refine j_icmp_ge hK 22 dX8_digit_7 (by decide) (fun hc => ?_) (fun hc => ?_)
    · replace hf := if_1 hc hf
      refine j_iconst hK (-1 : Int32) dX8_digit_22 ic_m1 ?_
      exact j_iret hK dX8_digit_23 rfl (rt_I hA hf)
    · replace hf := if_2 hc hf
      refine j_aload_n hK dX8_digit_10 0 rfl rfl ?_
      refine j_getR hK fl_X8_11 dX8_digit_11 zo_1 zf_8_0 zr_1_0 ?_
      refine j_iload_n hK dX8_digit_14 1 rfl rfl ?_
      obtain ⟨hi1, hf⟩ := gd hf
      refine k_cald hK dX8_digit_15 zb_2 hi1 rfl ?_
      refine j_bipush hK (48 : Int32) dX8_digit_16 bi_48 ?_
      refine j_isub hK dX8_digit_18 ?_
      refine j_goto hK 23 dX8_digit_19 (by decide) ?_
      exact j_iret hK dX8_digit_23 rfl (rt_I hA hf)
def f_X8_standsInLine (p1 : Int32) (p2 : Int32) (S : St) : Option (Int32 × St) := (if (p1 - p1 / (5 : Int32) * (5 : Int32)) = (0 : Int32) then (if p2 ≤ (p1 / (5 : Int32)) then some ((0 : Int32), S) else bd (f_X8_within p1 (48 : Int32) (55 : Int32) S) (fun r2 S3 => (if r2 = 0 then some ((0 : Int32), S3) else some ((1 : Int32), S3)))) else (if (p1 - p1 / (5 : Int32) * (5 : Int32)) = (1 : Int32) then bd (f_X8_within p1 (48 : Int32) (55 : Int32) S) (fun r6 S7 => (if r6 = 0 then some ((0 : Int32), S7) else bd (f_X8_digit p1 S7) (fun r9 S10 => bd (f_X8_digit (p1 - (1 : Int32)) S10) (fun r12 S13 => (if r9 = r12 then some ((0 : Int32), S13) else some ((1 : Int32), S13)))))) else (if (p1 - p1 / (5 : Int32) * (5 : Int32)) = (2 : Int32) then bd (f_X8_within p1 (49 : Int32) (57 : Int32) S) (fun r16 S17 => if r16 = 0 ∨ r16 = 1 then some (r16, S17) else none) else (if (p1 - p1 / (5 : Int32) * (5 : Int32)) = (3 : Int32) then bd (f_X8_within p1 (48 : Int32) (57 : Int32) S) (fun r20 S21 => if r20 = 0 ∨ r20 = 1 then some (r20, S21) else none) else bd (f_X8_within p1 (59 : Int32) (59 : Int32) S) (fun r23 S24 => if r23 = 0 ∨ r23 = 1 then some (r23, S24) else none)))))
theorem c_X8_standsInLine {p1 : Int32} {p2 : Int32} {S : St} {r : Int32} {S' : St} (hf : f_X8_standsInLine p1 p2 S = some (r, S')) : zM yX8_standsInLine cX8_standsInLine 3 2 (some .boolean) [.ref 1, .int p1, .int p2] S (some (.int r)) S' := by
  refine zM_of (zpl (by decide)) (Nat.le_of_ble_eq_true rfl) rfl (fun K hK hA => ?_)
  unfold f_X8_standsInLine at hf
  refine j_iload_n hK dX8_standsInLine_0 1 rfl rfl ?_
  refine j_iconst hK (5 : Int32) dX8_standsInLine_1 ic_5 ?_
  refine j_irem hK dX8_standsInLine_2 (by decide) ?_
  by_cases hs1 : (p1 - p1 / (5 : Int32) * (5 : Int32)) = (0 : Int32)
  · replace hf := if_1 hs1 hf
    refine j_tabC hK (0 : Int32) 32 dX8_standsInLine_3 hs1 (by decide) rfl (by decide) ?_
    refine j_iload_n hK dX8_standsInLine_32 1 rfl rfl ?_
    refine j_iconst hK (5 : Int32) dX8_standsInLine_33 ic_5 ?_
    refine j_idiv hK dX8_standsInLine_34 (by decide) ?_
    refine j_iload_n hK dX8_standsInLine_35 2 rfl rfl ?_
    refine j_icmp_ge hK 55 dX8_standsInLine_36 (by decide) (fun hc => ?_) (fun hc => ?_)
    · replace hf := if_1 hc hf
      refine j_iconst hK (0 : Int32) dX8_standsInLine_55 ic_0 ?_
      exact j_zret hK dX8_standsInLine_56 rfl rfl (rt_I hA hf)
    · replace hf := if_2 hc hf
      refine j_aload_n hK dX8_standsInLine_39 0 rfl rfl ?_
      refine j_iload_n hK dX8_standsInLine_40 1 rfl rfl ?_
      refine j_bipush hK (48 : Int32) dX8_standsInLine_41 bi_48 ?_
      refine j_bipush hK (55 : Int32) dX8_standsInLine_43 bi_55 ?_
      obtain ⟨r2, S3, h4, hf⟩ := bd_J hf
      refine k_callVi hK (c_X8_within h4) dX8_standsInLine_45 zclX8 zo_1 ml_X8_19 mi_X8_within mx_X8_within in_X8 mc_X8_within hy_X8_within ⟨by decide, by decide⟩ rfl (Nat.le_of_ble_eq_true rfl) ?_
      refine j_if_eq hK 55 dX8_standsInLine_48 (by decide) (fun hc => ?_) (fun hc => ?_)
      · replace hf := if_1 hc hf
        refine j_iconst hK (0 : Int32) dX8_standsInLine_55 ic_0 ?_
        exact j_zret hK dX8_standsInLine_56 rfl rfl (rt_I hA hf)
      · replace hf := if_2 hc hf
        refine j_iconst hK (1 : Int32) dX8_standsInLine_51 ic_1 ?_
        refine j_goto hK 56 dX8_standsInLine_52 (by decide) ?_
        exact j_zret hK dX8_standsInLine_56 rfl rfl (rt_I hA hf)
  · replace hf := if_2 hs1 hf
    by_cases hs5 : (p1 - p1 / (5 : Int32) * (5 : Int32)) = (1 : Int32)
    · replace hf := if_1 hs5 hf
      refine j_tabC hK (1 : Int32) 57 dX8_standsInLine_3 hs5 (by decide) rfl (by decide) ?_
      refine j_aload_n hK dX8_standsInLine_57 0 rfl rfl ?_
      refine j_iload_n hK dX8_standsInLine_58 1 rfl rfl ?_
      refine j_bipush hK (48 : Int32) dX8_standsInLine_59 bi_48 ?_
      refine j_bipush hK (55 : Int32) dX8_standsInLine_61 bi_55 ?_
      obtain ⟨r6, S7, h8, hf⟩ := bd_J hf
      refine k_callVi hK (c_X8_within h8) dX8_standsInLine_63 zclX8 zo_1 ml_X8_19 mi_X8_within mx_X8_within in_X8 mc_X8_within hy_X8_within ⟨by decide, by decide⟩ rfl (Nat.le_of_ble_eq_true rfl) ?_
      refine j_if_eq hK 88 dX8_standsInLine_66 (by decide) (fun hc => ?_) (fun hc => ?_)
      · replace hf := if_1 hc hf
        refine j_iconst hK (0 : Int32) dX8_standsInLine_88 ic_0 ?_
        exact j_zret hK dX8_standsInLine_89 rfl rfl (rt_I hA hf)
      · replace hf := if_2 hc hf
        refine j_aload_n hK dX8_standsInLine_69 0 rfl rfl ?_
        refine j_iload_n hK dX8_standsInLine_70 1 rfl rfl ?_
        obtain ⟨r9, S10, h11, hf⟩ := bd_J hf
        refine k_callVi hK (c_X8_digit h11) dX8_standsInLine_71 zclX8 zo_1 ml_X8_33 mi_X8_digit mx_X8_digit in_X8 mc_X8_digit hy_X8_digit ⟨by decide, by decide⟩ rfl (Nat.le_of_ble_eq_true rfl) ?_
        refine j_aload_n hK dX8_standsInLine_74 0 rfl rfl ?_
        refine j_iload_n hK dX8_standsInLine_75 1 rfl rfl ?_
        refine j_iconst hK (1 : Int32) dX8_standsInLine_76 ic_1 ?_
        refine j_isub hK dX8_standsInLine_77 ?_
        refine j_pc (pc' := 78) rfl ?_
        obtain ⟨r12, S13, h14, hf⟩ := bd_J hf
        refine k_callVi hK (c_X8_digit h14) dX8_standsInLine_78 zclX8 zo_1 ml_X8_33 mi_X8_digit mx_X8_digit in_X8 mc_X8_digit hy_X8_digit ⟨by decide, by decide⟩ rfl (Nat.le_of_ble_eq_true rfl) ?_
        refine j_icmp_eq hK 88 dX8_standsInLine_81 (by decide) (fun hc => ?_) (fun hc => ?_)
        · replace hf := if_1 hc hf
          refine j_iconst hK (0 : Int32) dX8_standsInLine_88 ic_0 ?_
          exact j_zret hK dX8_standsInLine_89 rfl rfl (rt_I hA hf)
        · replace hf := if_2 hc hf
          refine j_iconst hK (1 : Int32) dX8_standsInLine_84 ic_1 ?_
          refine j_goto hK 89 dX8_standsInLine_85 (by decide) ?_
          exact j_zret hK dX8_standsInLine_89 rfl rfl (rt_I hA hf)
    · replace hf := if_2 hs5 hf
      by_cases hs15 : (p1 - p1 / (5 : Int32) * (5 : Int32)) = (2 : Int32)
      · replace hf := if_1 hs15 hf
        refine j_tabC hK (2 : Int32) 90 dX8_standsInLine_3 hs15 (by decide) rfl (by decide) ?_
        refine j_aload_n hK dX8_standsInLine_90 0 rfl rfl ?_
        refine j_iload_n hK dX8_standsInLine_91 1 rfl rfl ?_
        refine j_bipush hK (49 : Int32) dX8_standsInLine_92 bi_49 ?_
        refine j_bipush hK (57 : Int32) dX8_standsInLine_94 bi_57 ?_
        obtain ⟨r16, S17, h18, hf⟩ := bd_J hf
        refine k_callVi hK (c_X8_within h18) dX8_standsInLine_96 zclX8 zo_1 ml_X8_19 mi_X8_within mx_X8_within in_X8 mc_X8_within hy_X8_within ⟨by decide, by decide⟩ rfl (Nat.le_of_ble_eq_true rfl) ?_
        obtain ⟨hz, hf⟩ := gd hf
        exact j_zret hK dX8_standsInLine_99 rfl (nz hz) (rt_I hA hf)
      · replace hf := if_2 hs15 hf
        by_cases hs19 : (p1 - p1 / (5 : Int32) * (5 : Int32)) = (3 : Int32)
        · replace hf := if_1 hs19 hf
          refine j_tabC hK (3 : Int32) 100 dX8_standsInLine_3 hs19 (by decide) rfl (by decide) ?_
          refine j_aload_n hK dX8_standsInLine_100 0 rfl rfl ?_
          refine j_iload_n hK dX8_standsInLine_101 1 rfl rfl ?_
          refine j_bipush hK (48 : Int32) dX8_standsInLine_102 bi_48 ?_
          refine j_bipush hK (57 : Int32) dX8_standsInLine_104 bi_57 ?_
          obtain ⟨r20, S21, h22, hf⟩ := bd_J hf
          refine k_callVi hK (c_X8_within h22) dX8_standsInLine_106 zclX8 zo_1 ml_X8_19 mi_X8_within mx_X8_within in_X8 mc_X8_within hy_X8_within ⟨by decide, by decide⟩ rfl (Nat.le_of_ble_eq_true rfl) ?_
          obtain ⟨hz, hf⟩ := gd hf
          exact j_zret hK dX8_standsInLine_109 rfl (nz hz) (rt_I hA hf)
        · replace hf := if_2 hs19 hf
          refine j_tabOut hK 110 dX8_standsInLine_3 (by have q := And.intro (ne_toInt 0 (by decide) hs1) (And.intro (ne_toInt 1 (by decide) hs5) (And.intro (ne_toInt 2 (by decide) hs15) (And.intro (ne_toInt 3 (by decide) hs19) trivial))); omega) (by decide) ?_
          refine j_aload_n hK dX8_standsInLine_110 0 rfl rfl ?_
          refine j_iload_n hK dX8_standsInLine_111 1 rfl rfl ?_
          refine j_bipush hK (59 : Int32) dX8_standsInLine_112 bi_59 ?_
          refine j_bipush hK (59 : Int32) dX8_standsInLine_114 bi_59 ?_
          obtain ⟨r23, S24, h25, hf⟩ := bd_J hf
          refine k_callVi hK (c_X8_within h25) dX8_standsInLine_116 zclX8 zo_1 ml_X8_19 mi_X8_within mx_X8_within in_X8 mc_X8_within hy_X8_within ⟨by decide, by decide⟩ rfl (Nat.le_of_ble_eq_true rfl) ?_
          obtain ⟨hz, hf⟩ := gd hf
          exact j_zret hK dX8_standsInLine_119 rfl (nz hz) (rt_I hA hf)
def f_X8_faultOfLines_60 (x2 : Int32) (S : St) : Option (Int32 × St) := some (x2, S)
theorem t_X8_faultOfLines_60 {K : CT} (hK : KO K cX8_faultOfLines RX8 4 3 (some .int)) {r : Int32} {S' : St} (hA : zans K = (some (.int r), S')) {x2 : Int32} {S : St} (hf : f_X8_faultOfLines_60 x2 S = some (r, S')) : J K 60 [(2, .int x2)] [] S := by
  unfold f_X8_faultOfLines_60 at hf
  refine j_iload_n hK dX8_faultOfLines_60 0 rfl rfl ?_
  refine j_goto hK 65 dX8_faultOfLines_61 (by decide) ?_
  exact j_iret hK dX8_faultOfLines_65 rfl (rt_I hA hf)
def f_X8_faultOfLines_46 (x2 : Int32) (s0 : Int32) (S : St) : Option (Int32 × St) := (if s0 = 0 then (if (gI S 1 1) ≤ (59 : Int32) then some ((-1 : Int32), S) else f_X8_faultOfLines_60 x2 S) else f_X8_faultOfLines_60 x2 S)
theorem t_X8_faultOfLines_46 {K : CT} (hK : KO K cX8_faultOfLines RX8 4 3 (some .int)) {r : Int32} {S' : St} (hA : zans K = (some (.int r), S')) {x2 : Int32} {s0 : Int32} {S : St} (hf : f_X8_faultOfLines_46 x2 s0 S = some (r, S')) : J K 46 [(0, .ref 1), (2, .int x2)] [.int s0] S := by
  unfold f_X8_faultOfLines_46 at hf
  refine j_istore_n hK (L' := [(3, .int s0), (0, .ref 1), (2, .int x2)]) dX8_faultOfLines_46 rfl (by decide) rfl ?_
  refine j_iload_n hK dX8_faultOfLines_47 0 rfl rfl ?_
  refine j_if_ne hK 60 dX8_faultOfLines_48 (by decide) (fun hc => ?_) (fun hc => ?_)
  · replace hf := if_2 hc hf
    refine j_sub [2] rfl ?_
    exact t_X8_faultOfLines_60 hK hA  hf
  · replace hf := if_1 hc hf
    refine j_aload_n hK dX8_faultOfLines_51 1 rfl rfl ?_
    refine j_getI hK fl_X8_15 dX8_faultOfLines_52 zo_1 zf_8_1 ?_
    refine j_bipush hK (59 : Int32) dX8_faultOfLines_55 bi_59 ?_
    refine j_icmp_le hK 64 dX8_faultOfLines_57 (by decide) (fun hc => ?_) (fun hc => ?_)
    · replace hf := if_1 hc hf
      refine j_iconst hK (-1 : Int32) dX8_faultOfLines_64 ic_m1 ?_
      exact j_iret hK dX8_faultOfLines_65 rfl (rt_I hA hf)
    · replace hf := if_2 hc hf
      refine j_sub [2] rfl ?_
      exact t_X8_faultOfLines_60 hK hA  hf
def f_X8_faultOfLines_12b (x1 : Int32) (x2 : Int32) (e : Int32 → St → Option (Int32 × St)) (k : Int32 → St → Option (Int32 × St)) (v : Int32) (S : St) : Option (Int32 × St) := (if x2 ≤ v then e v S else bd (f_X8_standsInLine v x1 S) (fun r1 S2 => (if r1 = 0 then some (v, S2) else k (v + (1 : Int32)) S2)))
theorem t_X8_faultOfLines_12 {K : CT} (hK : KO K cX8_faultOfLines RX8 4 3 (some .int)) {r : Int32} {S' : St} (hA : zans K = (some (.int r), S')) {x1 : Int32} {x2 : Int32} {e : Int32 → St → Option (Int32 × St)} (he : ∀ (v : Int32) (S : St), e v S = some (r, S') → J K 34 [(0, .ref 1), (2, .int x2)] [] S) : ∀ (n : Nat) (v : Int32) (S : St), lp (f_X8_faultOfLines_12b x1 x2 e) n v S = some (r, S') → J K 12 [(0, .ref 1), (1, .int x1), (2, .int x2), (3, .int v)] [] S :=
  lp_J (P := fun (v : Int32) (S : St) => J K 12 [(0, .ref 1), (1, .int x1), (2, .int x2), (3, .int v)] [] S) (fun k hk v S hf => by
    unfold f_X8_faultOfLines_12b at hf
    refine j_iload_n hK dX8_faultOfLines_12 3 rfl rfl ?_
    refine j_iload_n hK dX8_faultOfLines_13 2 rfl rfl ?_
    refine j_icmp_ge hK 34 dX8_faultOfLines_14 (by decide) (fun hc => ?_) (fun hc => ?_)
    · replace hf := if_1 hc hf
      refine j_sub [0, 2] rfl ?_
      exact he _ _ hf
    · replace hf := if_2 hc hf
      refine j_aload_n hK dX8_faultOfLines_17 0 rfl rfl ?_
      refine j_iload_n hK dX8_faultOfLines_18 3 rfl rfl ?_
      refine j_iload_n hK dX8_faultOfLines_19 1 rfl rfl ?_
      obtain ⟨r1, S2, h3, hf⟩ := bd_J hf
      refine k_callVi hK (c_X8_standsInLine h3) dX8_faultOfLines_20 zclX8 zo_1 ml_X8_29 mi_X8_standsInLine mx_X8_standsInLine in_X8 mc_X8_standsInLine hy_X8_standsInLine ⟨by decide, by decide⟩ rfl (Nat.le_of_ble_eq_true rfl) ?_
      refine j_if_ne hK 28 dX8_faultOfLines_23 (by decide) (fun hc => ?_) (fun hc => ?_)
      · replace hf := if_2 hc hf
        refine j_iinc hK (L' := [(3, .int (v + (1 : Int32))), (0, .ref 1), (1, .int x1), (2, .int x2)]) dX8_faultOfLines_28 3 rfl (congrArg (fun y => v + y) ic_1) (by decide) rfl ?_
        refine j_goto hK 12 dX8_faultOfLines_31 (by decide) ?_
        refine j_sub [1, 2, 3, 0] rfl ?_
        exact hk _ _ hf
      · replace hf := if_1 hc hf
        refine j_iload_n hK dX8_faultOfLines_26 3 rfl rfl ?_
        exact j_iret hK dX8_faultOfLines_27 rfl (rt_I hA hf))
def f_X8_faultOfLines (p1 : Int32) (S : St) : Option (Int32 × St) := lt (mnI (gI S 1 1) (59 : Int32)) (fun y4 => lp (f_X8_faultOfLines_12b p1 y4 (fun v5 S6 => (if (y4 - y4 / (5 : Int32) * (5 : Int32)) = (4 : Int32) then f_X8_faultOfLines_46 y4 (0 : Int32) S6 else f_X8_faultOfLines_46 y4 (1 : Int32) S6))) FU (0 : Int32) S)
theorem c_X8_faultOfLines {p1 : Int32} {S : St} {r : Int32} {S' : St} (hf : f_X8_faultOfLines p1 S = some (r, S')) : zM yX8_faultOfLines cX8_faultOfLines 4 3 (some .int) [.ref 1, .int p1] S (some (.int r)) S' := by
  refine zM_of (zpl (by decide)) (Nat.le_of_ble_eq_true rfl) rfl (fun K hK hA => ?_)
  unfold f_X8_faultOfLines at hf
  refine j_aload_n hK dX8_faultOfLines_0 0 rfl rfl ?_
  refine j_getI hK fl_X8_15 dX8_faultOfLines_1 zo_1 zf_8_1 ?_
  refine j_bipush hK (59 : Int32) dX8_faultOfLines_4 bi_59 ?_
  refine j_min hK ml_X8_23 dX8_faultOfLines_6 (by decide) (Nat.le_of_ble_eq_true rfl) ?_
  refine lt_I hf (fun y4 hf => ?_)
  refine j_istore_n hK (L' := [(2, .int y4), (0, .ref 1), (1, .int p1)]) dX8_faultOfLines_9 rfl (by decide) rfl ?_
  refine j_iconst hK (0 : Int32) dX8_faultOfLines_10 ic_0 ?_
  refine j_istore_n hK (L' := [(3, .int (0 : Int32)), (2, .int y4), (0, .ref 1), (1, .int p1)]) dX8_faultOfLines_11 rfl (by decide) rfl ?_
  refine j_sub [2, 3, 1, 0] rfl ?_
  refine t_X8_faultOfLines_12 hK hA  (fun v5 S6 hf => ?_) _ _ _ hf
  refine j_iload_n hK dX8_faultOfLines_34 1 rfl rfl ?_
  refine j_iconst hK (5 : Int32) dX8_faultOfLines_35 ic_5 ?_
  refine j_irem hK dX8_faultOfLines_36 (by decide) ?_
  refine j_iconst hK (4 : Int32) dX8_faultOfLines_37 ic_4 ?_
  refine j_icmp_eq hK 45 dX8_faultOfLines_38 (by decide) (fun hc => ?_) (fun hc => ?_)
  · replace hf := if_1 hc hf
    refine j_iconst hK (0 : Int32) dX8_faultOfLines_45 ic_0 ?_
    exact t_X8_faultOfLines_46 hK hA  hf
  · replace hf := if_2 hc hf
    refine j_iconst hK (1 : Int32) dX8_faultOfLines_41 ic_1 ?_
    refine j_goto hK 46 dX8_faultOfLines_42 (by decide) ?_
    exact t_X8_faultOfLines_46 hK hA  hf
def f_X8_lettersFrom_2b (x1 : Int32) (e : Int32 → St → Option (Int32 × St)) (k : Int32 → St → Option (Int32 × St)) (v : Int32) (S : St) : Option (Int32 × St) := (if (gI S 1 1) ≤ (x1 + v) then e v S else bd (f_X8_within (x1 + v) (97 : Int32) (104 : Int32) S) (fun r1 S2 => (if r1 = 0 then e v S2 else k (v + (1 : Int32)) S2)))
theorem t_X8_lettersFrom_2 {K : CT} (hK : KO K cX8_lettersFrom RX8 3 2 (some .int)) {r : Int32} {S' : St} (hA : zans K = (some (.int r), S')) {x1 : Int32} {e : Int32 → St → Option (Int32 × St)} (he : ∀ (v : Int32) (S : St), e v S = some (r, S') → J K 32 [(2, .int v)] [] S) : ∀ (n : Nat) (v : Int32) (S : St), lp (f_X8_lettersFrom_2b x1 e) n v S = some (r, S') → J K 2 [(0, .ref 1), (1, .int x1), (2, .int v)] [] S :=
  lp_J (P := fun (v : Int32) (S : St) => J K 2 [(0, .ref 1), (1, .int x1), (2, .int v)] [] S) (fun k hk v S hf => by
    unfold f_X8_lettersFrom_2b at hf
    refine j_iload_n hK dX8_lettersFrom_2 1 rfl rfl ?_
    refine j_iload_n hK dX8_lettersFrom_3 2 rfl rfl ?_
    refine j_iadd hK dX8_lettersFrom_4 ?_
    refine j_aload_n hK dX8_lettersFrom_5 0 rfl rfl ?_
    refine j_getI hK fl_X8_15 dX8_lettersFrom_6 zo_1 zf_8_1 ?_
    refine j_icmp_ge hK 32 dX8_lettersFrom_9 (by decide) (fun hc => ?_) (fun hc => ?_)
    · replace hf := if_1 hc hf
      refine j_sub [2] rfl ?_
      exact he _ _ hf
    · replace hf := if_2 hc hf
      refine j_aload_n hK dX8_lettersFrom_12 0 rfl rfl ?_
      refine j_iload_n hK dX8_lettersFrom_13 1 rfl rfl ?_
      refine j_iload_n hK dX8_lettersFrom_14 2 rfl rfl ?_
      refine j_iadd hK dX8_lettersFrom_15 ?_
      refine j_bipush hK (97 : Int32) dX8_lettersFrom_16 bi_97 ?_
      refine j_bipush hK (104 : Int32) dX8_lettersFrom_18 bi_104 ?_
      obtain ⟨r1, S2, h3, hf⟩ := bd_J hf
      refine k_callVi hK (c_X8_within h3) dX8_lettersFrom_20 zclX8 zo_1 ml_X8_19 mi_X8_within mx_X8_within in_X8 mc_X8_within hy_X8_within ⟨by decide, by decide⟩ rfl (Nat.le_of_ble_eq_true rfl) ?_
      refine j_pc (pc' := 23) rfl ?_
      refine j_if_eq hK 32 dX8_lettersFrom_23 (by decide) (fun hc => ?_) (fun hc => ?_)
      · replace hf := if_1 hc hf
        refine j_sub [2] rfl ?_
        exact he _ _ hf
      · replace hf := if_2 hc hf
        refine j_iinc hK (L' := [(2, .int (v + (1 : Int32))), (0, .ref 1), (1, .int x1)]) dX8_lettersFrom_26 2 rfl (congrArg (fun y => v + y) ic_1) (by decide) rfl ?_
        refine j_goto hK 2 dX8_lettersFrom_29 (by decide) ?_
        refine j_sub [1, 2, 0] rfl ?_
        exact hk _ _ hf)
def f_X8_lettersFrom (p1 : Int32) (S : St) : Option (Int32 × St) := lp (f_X8_lettersFrom_2b p1 (fun v4 S5 => some (v4, S5))) FU (0 : Int32) S
theorem c_X8_lettersFrom {p1 : Int32} {S : St} {r : Int32} {S' : St} (hf : f_X8_lettersFrom p1 S = some (r, S')) : zM yX8_lettersFrom cX8_lettersFrom 3 2 (some .int) [.ref 1, .int p1] S (some (.int r)) S' := by
  refine zM_of (zpl (by decide)) (Nat.le_of_ble_eq_true rfl) rfl (fun K hK hA => ?_)
  unfold f_X8_lettersFrom at hf
  refine j_iconst hK (0 : Int32) dX8_lettersFrom_0 ic_0 ?_
  refine j_istore_n hK (L' := [(2, .int (0 : Int32)), (0, .ref 1), (1, .int p1)]) dX8_lettersFrom_1 rfl (by decide) rfl ?_
  refine j_sub [1, 2, 0] rfl ?_
  refine t_X8_lettersFrom_2 hK hA  (fun v4 S5 hf => ?_) _ _ _ hf
  refine j_iload_n hK dX8_lettersFrom_32 0 rfl rfl ?_
  exact j_iret hK dX8_lettersFrom_33 rfl (rt_I hA hf)
def f_X8_faultOfCall_27 (x1 : Int32) (S : St) : Option (Int32 × St) := some (x1, S)
theorem t_X8_faultOfCall_27 {K : CT} (hK : KO K cX8_faultOfCall RX8 2 3 (some .int)) {r : Int32} {S' : St} (hA : zans K = (some (.int r), S')) {x1 : Int32} {S : St} (hf : f_X8_faultOfCall_27 x1 S = some (r, S')) : J K 27 [(1, .int x1)] [] S := by
  unfold f_X8_faultOfCall_27 at hf
  refine j_iload_n hK dX8_faultOfCall_27 0 rfl rfl ?_
  refine j_goto hK 32 dX8_faultOfCall_28 (by decide) ?_
  exact j_iret hK dX8_faultOfCall_32 rfl (rt_I hA hf)
def f_X8_faultOfCall (S : St) : Option (Int32 × St) := bd (f_X8_lettersFrom (0 : Int32) S) (fun r1 S2 => (if r1 ≤ (6 : Int32) then (if r1 = 0 then f_X8_faultOfCall_27 r1 S2 else (if (gI S2 1 1) ≤ r1 then some ((-1 : Int32), S2) else f_X8_faultOfCall_27 r1 S2)) else some ((6 : Int32), S2)))
theorem c_X8_faultOfCall {S : St} {r : Int32} {S' : St} (hf : f_X8_faultOfCall S = some (r, S')) : zM yX8_faultOfCall cX8_faultOfCall 2 3 (some .int) [.ref 1] S (some (.int r)) S' := by
  refine zM_of (zpl (by decide)) (Nat.le_of_ble_eq_true rfl) rfl (fun K hK hA => ?_)
  unfold f_X8_faultOfCall at hf
  refine j_aload_n hK dX8_faultOfCall_0 0 rfl rfl ?_
  refine j_iconst hK (0 : Int32) dX8_faultOfCall_1 ic_0 ?_
  obtain ⟨r1, S2, h3, hf⟩ := bd_J hf
  refine k_callVi hK (c_X8_lettersFrom h3) dX8_faultOfCall_2 zclX8 zo_1 ml_X8_37 mi_X8_lettersFrom mx_X8_lettersFrom in_X8 mc_X8_lettersFrom hy_X8_lettersFrom ⟨by decide, by decide⟩ rfl (Nat.le_of_ble_eq_true rfl) ?_
  refine j_istore_n hK (L' := [(1, .int r1), (0, .ref 1)]) dX8_faultOfCall_5 rfl (by decide) rfl ?_
  refine j_iload_n hK dX8_faultOfCall_6 0 rfl rfl ?_
  refine j_bipush hK (6 : Int32) dX8_faultOfCall_7 bi_6 ?_
  refine j_icmp_le hK 15 dX8_faultOfCall_9 (by decide) (fun hc => ?_) (fun hc => ?_)
  · replace hf := if_1 hc hf
    refine j_iload_n hK dX8_faultOfCall_15 0 rfl rfl ?_
    refine j_if_eq hK 27 dX8_faultOfCall_16 (by decide) (fun hc => ?_) (fun hc => ?_)
    · replace hf := if_1 hc hf
      refine j_sub [0] rfl ?_
      exact t_X8_faultOfCall_27 hK hA  hf
    · replace hf := if_2 hc hf
      refine j_iload_n hK dX8_faultOfCall_19 0 rfl rfl ?_
      refine j_aload_n hK dX8_faultOfCall_20 1 rfl rfl ?_
      refine j_getI hK fl_X8_15 dX8_faultOfCall_21 zo_1 zf_8_1 ?_
      refine j_icmp_ge hK 31 dX8_faultOfCall_24 (by decide) (fun hc => ?_) (fun hc => ?_)
      · replace hf := if_1 hc hf
        refine j_iconst hK (-1 : Int32) dX8_faultOfCall_31 ic_m1 ?_
        exact j_iret hK dX8_faultOfCall_32 rfl (rt_I hA hf)
      · replace hf := if_2 hc hf
        refine j_sub [0] rfl ?_
        exact t_X8_faultOfCall_27 hK hA  hf
  · replace hf := if_2 hc hf
    refine j_bipush hK (6 : Int32) dX8_faultOfCall_12 bi_6 ?_
    exact j_iret hK dX8_faultOfCall_14 rfl (rt_I hA hf)
def f_X8_letter (p1 : Int32) (S : St) : Option (Int32 × St) := (if p1 < 0 then some ((-1 : Int32), S) else (if (80 : Int32) ≤ p1 then some ((-1 : Int32), S) else if inb p1 80 then some (((gI S 2 p1.toNatClampNeg) - (97 : Int32)), S) else none))
theorem c_X8_letter {p1 : Int32} {S : St} {r : Int32} {S' : St} (hf : f_X8_letter p1 S = some (r, S')) : zM yX8_letter cX8_letter 2 1 (some .int) [.ref 1, .int p1] S (some (.int r)) S' := by
  refine zM_of (zpl (by decide)) (Nat.le_of_ble_eq_true rfl) rfl (fun K hK hA => ?_)
  unfold f_X8_letter at hf
  refine j_iload_n hK dX8_letter_0 1 rfl rfl ?_
  refine j_if_lt hK 22 dX8_letter_1 (by decide) (fun hc => ?_) (fun hc => ?_)
  · replace hf := if_1 hc hf
    refine j_iconst hK (-1 : Int32) dX8_letter_22 ic_m1 ?_
    exact j_iret hK dX8_letter_23 rfl (rt_I hA hf)
  · replace hf := if_2 hc hf
    refine j_iload_n hK dX8_letter_4 1 rfl rfl ?_
    refine j_bipush hK (80 : Int32) dX8_letter_5 bi_80 ?_
    refine j_icmp_ge hK 22 dX8_letter_7 (by decide) (fun hc => ?_) (fun hc => ?_)
    · replace hf := if_1 hc hf
      refine j_iconst hK (-1 : Int32) dX8_letter_22 ic_m1 ?_
      exact j_iret hK dX8_letter_23 rfl (rt_I hA hf)
    · replace hf := if_2 hc hf
      refine j_aload_n hK dX8_letter_10 0 rfl rfl ?_
      refine j_getR hK fl_X8_11 dX8_letter_11 zo_1 zf_8_0 zr_1_0 ?_
      refine j_iload_n hK dX8_letter_14 1 rfl rfl ?_
      obtain ⟨hi1, hf⟩ := gd hf
      refine k_cald hK dX8_letter_15 zb_2 hi1 rfl ?_
      refine j_bipush hK (97 : Int32) dX8_letter_16 bi_97 ?_
      refine j_isub hK dX8_letter_18 ?_
      refine j_goto hK 23 dX8_letter_19 (by decide) ?_
      exact j_iret hK dX8_letter_23 rfl (rt_I hA hf)
def f_X8_digitsOfAct (p1 : Int32) (S : St) : Option (Int32 × St) := bd (f_X8_within p1 (110 : Int32) (110 : Int32) S) (fun r1 S2 => (if r1 = 0 then bd (f_X8_within p1 (120 : Int32) (120 : Int32) S2) (fun r4 S5 => (if r4 = 0 then bd (f_X8_within p1 (115 : Int32) (115 : Int32) S5) (fun r7 S8 => (if r7 = 0 then bd (f_X8_within p1 (109 : Int32) (109 : Int32) S8) (fun r10 S11 => (if r10 = 0 then some ((0 : Int32), S11) else some ((3 : Int32), S11))) else some ((2 : Int32), S8))) else some ((1 : Int32), S5))) else some ((1 : Int32), S2)))
theorem c_X8_digitsOfAct {p1 : Int32} {S : St} {r : Int32} {S' : St} (hf : f_X8_digitsOfAct p1 S = some (r, S')) : zM yX8_digitsOfAct cX8_digitsOfAct 2 2 (some .int) [.ref 1, .int p1] S (some (.int r)) S' := by
  refine zM_of (zpl (by decide)) (Nat.le_of_ble_eq_true rfl) rfl (fun K hK hA => ?_)
  unfold f_X8_digitsOfAct at hf
  refine j_aload_n hK dX8_digitsOfAct_0 0 rfl rfl ?_
  refine j_iload_n hK dX8_digitsOfAct_1 1 rfl rfl ?_
  refine j_bipush hK (110 : Int32) dX8_digitsOfAct_2 bi_110 ?_
  refine j_bipush hK (110 : Int32) dX8_digitsOfAct_4 bi_110 ?_
  obtain ⟨r1, S2, h3, hf⟩ := bd_J hf
  refine k_callVi hK (c_X8_within h3) dX8_digitsOfAct_6 zclX8 zo_1 ml_X8_19 mi_X8_within mx_X8_within in_X8 mc_X8_within hy_X8_within ⟨by decide, by decide⟩ rfl (Nat.le_of_ble_eq_true rfl) ?_
  refine j_if_ne hK 24 dX8_digitsOfAct_9 (by decide) (fun hc => ?_) (fun hc => ?_)
  · replace hf := if_2 hc hf
    refine j_iconst hK (1 : Int32) dX8_digitsOfAct_24 ic_1 ?_
    exact j_iret hK dX8_digitsOfAct_25 rfl (rt_I hA hf)
  · replace hf := if_1 hc hf
    refine j_aload_n hK dX8_digitsOfAct_12 0 rfl rfl ?_
    refine j_iload_n hK dX8_digitsOfAct_13 1 rfl rfl ?_
    refine j_bipush hK (120 : Int32) dX8_digitsOfAct_14 bi_120 ?_
    refine j_bipush hK (120 : Int32) dX8_digitsOfAct_16 bi_120 ?_
    obtain ⟨r4, S5, h6, hf⟩ := bd_J hf
    refine k_callVi hK (c_X8_within h6) dX8_digitsOfAct_18 zclX8 zo_1 ml_X8_19 mi_X8_within mx_X8_within in_X8 mc_X8_within hy_X8_within ⟨by decide, by decide⟩ rfl (Nat.le_of_ble_eq_true rfl) ?_
    refine j_if_eq hK 26 dX8_digitsOfAct_21 (by decide) (fun hc => ?_) (fun hc => ?_)
    · replace hf := if_1 hc hf
      refine j_aload_n hK dX8_digitsOfAct_26 0 rfl rfl ?_
      refine j_iload_n hK dX8_digitsOfAct_27 1 rfl rfl ?_
      refine j_bipush hK (115 : Int32) dX8_digitsOfAct_28 bi_115 ?_
      refine j_bipush hK (115 : Int32) dX8_digitsOfAct_30 bi_115 ?_
      obtain ⟨r7, S8, h9, hf⟩ := bd_J hf
      refine k_callVi hK (c_X8_within h9) dX8_digitsOfAct_32 zclX8 zo_1 ml_X8_19 mi_X8_within mx_X8_within in_X8 mc_X8_within hy_X8_within ⟨by decide, by decide⟩ rfl (Nat.le_of_ble_eq_true rfl) ?_
      refine j_if_eq hK 40 dX8_digitsOfAct_35 (by decide) (fun hc => ?_) (fun hc => ?_)
      · replace hf := if_1 hc hf
        refine j_aload_n hK dX8_digitsOfAct_40 0 rfl rfl ?_
        refine j_iload_n hK dX8_digitsOfAct_41 1 rfl rfl ?_
        refine j_bipush hK (109 : Int32) dX8_digitsOfAct_42 bi_109 ?_
        refine j_bipush hK (109 : Int32) dX8_digitsOfAct_44 bi_109 ?_
        obtain ⟨r10, S11, h12, hf⟩ := bd_J hf
        refine k_callVi hK (c_X8_within h12) dX8_digitsOfAct_46 zclX8 zo_1 ml_X8_19 mi_X8_within mx_X8_within in_X8 mc_X8_within hy_X8_within ⟨by decide, by decide⟩ rfl (Nat.le_of_ble_eq_true rfl) ?_
        refine j_if_eq hK 56 dX8_digitsOfAct_49 (by decide) (fun hc => ?_) (fun hc => ?_)
        · replace hf := if_1 hc hf
          refine j_iconst hK (0 : Int32) dX8_digitsOfAct_56 ic_0 ?_
          exact j_iret hK dX8_digitsOfAct_57 rfl (rt_I hA hf)
        · replace hf := if_2 hc hf
          refine j_iconst hK (3 : Int32) dX8_digitsOfAct_52 ic_3 ?_
          refine j_goto hK 57 dX8_digitsOfAct_53 (by decide) ?_
          exact j_iret hK dX8_digitsOfAct_57 rfl (rt_I hA hf)
      · replace hf := if_2 hc hf
        refine j_iconst hK (2 : Int32) dX8_digitsOfAct_38 ic_2 ?_
        exact j_iret hK dX8_digitsOfAct_39 rfl (rt_I hA hf)
    · replace hf := if_2 hc hf
      refine j_iconst hK (1 : Int32) dX8_digitsOfAct_24 ic_1 ?_
      exact j_iret hK dX8_digitsOfAct_25 rfl (rt_I hA hf)
def f_X8_faultOfSeason_154 (x1 : Int32) (S : St) : Option (Int32 × St) := some (x1, S)
theorem t_X8_faultOfSeason_154 {K : CT} (hK : KO K cX8_faultOfSeason RX8 5 3 (some .int)) {r : Int32} {S' : St} (hA : zans K = (some (.int r), S')) {x1 : Int32} {S : St} (hf : f_X8_faultOfSeason_154 x1 S = some (r, S')) : J K 154 [(1, .int x1)] [] S := by
  unfold f_X8_faultOfSeason_154 at hf
  refine j_iload_n hK dX8_faultOfSeason_154 0 rfl rfl ?_
  refine j_goto hK 159 dX8_faultOfSeason_155 (by decide) ?_
  exact j_iret hK dX8_faultOfSeason_159 rfl (rt_I hA hf)
def f_X8_faultOfSeason_138 (x1 : Int32) (s0 : Int32) (S : St) : Option (Int32 × St) := (if s0 = 0 then (if (gI S 1 1) ≤ (60 : Int32) then some ((-1 : Int32), S) else f_X8_faultOfSeason_154 x1 S) else f_X8_faultOfSeason_154 x1 S)
theorem t_X8_faultOfSeason_138 {K : CT} (hK : KO K cX8_faultOfSeason RX8 5 3 (some .int)) {r : Int32} {S' : St} (hA : zans K = (some (.int r), S')) {x1 : Int32} {s0 : Int32} {S : St} (hf : f_X8_faultOfSeason_138 x1 s0 S = some (r, S')) : J K 138 [(0, .ref 1), (1, .int x1)] [.int s0] S := by
  unfold f_X8_faultOfSeason_138 at hf
  refine j_istore hK (L' := [(4, .int s0), (0, .ref 1), (1, .int x1)]) dX8_faultOfSeason_138 (by decide) rfl ?_
  refine j_iload hK dX8_faultOfSeason_140 0 rfl ?_
  refine j_if_ne hK 154 dX8_faultOfSeason_142 (by decide) (fun hc => ?_) (fun hc => ?_)
  · replace hf := if_2 hc hf
    refine j_sub [2] rfl ?_
    exact t_X8_faultOfSeason_154 hK hA  hf
  · replace hf := if_1 hc hf
    refine j_aload_n hK dX8_faultOfSeason_145 1 rfl rfl ?_
    refine j_getI hK fl_X8_15 dX8_faultOfSeason_146 zo_1 zf_8_1 ?_
    refine j_bipush hK (60 : Int32) dX8_faultOfSeason_149 bi_60 ?_
    refine j_icmp_le hK 158 dX8_faultOfSeason_151 (by decide) (fun hc => ?_) (fun hc => ?_)
    · replace hf := if_1 hc hf
      refine j_iconst hK (-1 : Int32) dX8_faultOfSeason_158 ic_m1 ?_
      exact j_iret hK dX8_faultOfSeason_159 rfl (rt_I hA hf)
    · replace hf := if_2 hc hf
      refine j_sub [2] rfl ?_
      exact t_X8_faultOfSeason_154 hK hA  hf
def f_X8_faultOfSeason_133 (x1 : Int32) (S : St) : Option (Int32 × St) := f_X8_faultOfSeason_138 x1 (1 : Int32) S
theorem t_X8_faultOfSeason_133 {K : CT} (hK : KO K cX8_faultOfSeason RX8 5 3 (some .int)) {r : Int32} {S' : St} (hA : zans K = (some (.int r), S')) {x1 : Int32} {S : St} (hf : f_X8_faultOfSeason_133 x1 S = some (r, S')) : J K 133 [(0, .ref 1), (1, .int x1)] [] S := by
  unfold f_X8_faultOfSeason_133 at hf
  refine j_iconst hK (1 : Int32) dX8_faultOfSeason_133 ic_1 ?_
  refine j_goto hK 138 dX8_faultOfSeason_134 (by decide) ?_
  exact t_X8_faultOfSeason_138 hK hA  hf
def f_X8_faultOfSeason_119 (x1 : Int32) (x2 : Int32) (x3 : Int32) (x4 : Int32) (k e : Int32 × Int32 × Int32 → St → Option (Int32 × St)) (S : St) : Option (Int32 × St) := k (x2, x3, (x4 + (1 : Int32))) S
theorem t_X8_faultOfSeason_119 {K : CT} (hK : KO K cX8_faultOfSeason RX8 5 3 (some .int)) {r : Int32} {S' : St} (hA : zans K = (some (.int r), S')) {x1 : Int32} {x2 : Int32} {x3 : Int32} {x4 : Int32} {k e : Int32 × Int32 × Int32 → St → Option (Int32 × St)} (hk : ∀ (v : Int32 × Int32 × Int32) (S : St), k v S = some (r, S') → J K 17 [(0, .ref 1), (1, .int x1), (2, .int v.1), (3, .int v.2.1), (4, .int v.2.2)] [] S) (he : ∀ (v : Int32 × Int32 × Int32) (S : St), e v S = some (r, S') → J K 125 [(0, .ref 1), (1, .int x1), (2, .int v.1), (3, .int v.2.1)] [] S) {S : St} (hf : f_X8_faultOfSeason_119 x1 x2 x3 x4 k e S = some (r, S')) : J K 119 [(0, .ref 1), (1, .int x1), (2, .int x2), (3, .int x3), (4, .int x4)] [] S := by
  unfold f_X8_faultOfSeason_119 at hf
  refine j_iinc hK (L' := [(4, .int (x4 + (1 : Int32))), (0, .ref 1), (1, .int x1), (2, .int x2), (3, .int x3)]) dX8_faultOfSeason_119 4 rfl (congrArg (fun y => x4 + y) ic_1) (by decide) rfl ?_
  refine j_goto hK 17 dX8_faultOfSeason_122 (by decide) ?_
  refine j_sub [1, 2, 3, 4, 0] rfl ?_
  exact hk _ _ hf
def f_X8_faultOfSeason_118 (x1 : Int32) (x2 : Int32) (x4 : Int32) (s0 : Int32) (k e : Int32 × Int32 × Int32 → St → Option (Int32 × St)) (S : St) : Option (Int32 × St) := f_X8_faultOfSeason_119 x1 x2 s0 x4 k e S
theorem t_X8_faultOfSeason_118 {K : CT} (hK : KO K cX8_faultOfSeason RX8 5 3 (some .int)) {r : Int32} {S' : St} (hA : zans K = (some (.int r), S')) {x1 : Int32} {x2 : Int32} {x4 : Int32} {s0 : Int32} {k e : Int32 × Int32 × Int32 → St → Option (Int32 × St)} (hk : ∀ (v : Int32 × Int32 × Int32) (S : St), k v S = some (r, S') → J K 17 [(0, .ref 1), (1, .int x1), (2, .int v.1), (3, .int v.2.1), (4, .int v.2.2)] [] S) (he : ∀ (v : Int32 × Int32 × Int32) (S : St), e v S = some (r, S') → J K 125 [(0, .ref 1), (1, .int x1), (2, .int v.1), (3, .int v.2.1)] [] S) {S : St} (hf : f_X8_faultOfSeason_118 x1 x2 x4 s0 k e S = some (r, S')) : J K 118 [(0, .ref 1), (1, .int x1), (2, .int x2), (4, .int x4)] [.int s0] S := by
  unfold f_X8_faultOfSeason_118 at hf
  refine j_istore_n hK (L' := [(3, .int s0), (0, .ref 1), (1, .int x1), (2, .int x2), (4, .int x4)]) dX8_faultOfSeason_118 rfl (by decide) rfl ?_
  refine j_sub [1, 2, 3, 0, 4] rfl ?_
  exact t_X8_faultOfSeason_119 hK hA hk he hf
def f_X8_faultOfSeason_82 (x1 : Int32) (x3 : Int32) (x4 : Int32) (k e : Int32 × Int32 × Int32 → St → Option (Int32 × St)) (S : St) : Option (Int32 × St) := bd (f_X8_digitsOfAct x4 S) (fun r1 S2 => (if r1 = 0 then some (x4, S2) else (if x3 = 0 then some (x4, S2) else bd (f_X8_within x4 (115 : Int32) (115 : Int32) S2) (fun r4 S5 => (if r4 = 0 then f_X8_faultOfSeason_118 x1 r1 x4 (-1 : Int32) k e S5 else f_X8_faultOfSeason_118 x1 r1 x4 (0 : Int32) k e S5)))))
theorem t_X8_faultOfSeason_82 {K : CT} (hK : KO K cX8_faultOfSeason RX8 5 3 (some .int)) {r : Int32} {S' : St} (hA : zans K = (some (.int r), S')) {x1 : Int32} {x3 : Int32} {x4 : Int32} {k e : Int32 × Int32 × Int32 → St → Option (Int32 × St)} (hk : ∀ (v : Int32 × Int32 × Int32) (S : St), k v S = some (r, S') → J K 17 [(0, .ref 1), (1, .int x1), (2, .int v.1), (3, .int v.2.1), (4, .int v.2.2)] [] S) (he : ∀ (v : Int32 × Int32 × Int32) (S : St), e v S = some (r, S') → J K 125 [(0, .ref 1), (1, .int x1), (2, .int v.1), (3, .int v.2.1)] [] S) {S : St} (hf : f_X8_faultOfSeason_82 x1 x3 x4 k e S = some (r, S')) : J K 82 [(0, .ref 1), (1, .int x1), (3, .int x3), (4, .int x4)] [] S := by
  unfold f_X8_faultOfSeason_82 at hf
  refine j_aload_n hK dX8_faultOfSeason_82 0 rfl rfl ?_
  refine j_iload hK dX8_faultOfSeason_83 3 rfl ?_
  obtain ⟨r1, S2, h3, hf⟩ := bd_J hf
  refine k_callVi hK (c_X8_digitsOfAct h3) dX8_faultOfSeason_85 zclX8 zo_1 ml_X8_40 mi_X8_digitsOfAct mx_X8_digitsOfAct in_X8 mc_X8_digitsOfAct hy_X8_digitsOfAct ⟨by decide, by decide⟩ rfl (Nat.le_of_ble_eq_true rfl) ?_
  refine j_istore_n hK (L' := [(2, .int r1), (0, .ref 1), (1, .int x1), (3, .int x3), (4, .int x4)]) dX8_faultOfSeason_88 rfl (by decide) rfl ?_
  refine j_iload_n hK dX8_faultOfSeason_89 0 rfl rfl ?_
  refine j_if_eq hK 97 dX8_faultOfSeason_90 (by decide) (fun hc => ?_) (fun hc => ?_)
  · replace hf := if_1 hc hf
    refine j_iload hK dX8_faultOfSeason_97 4 rfl ?_
    exact j_iret hK dX8_faultOfSeason_99 rfl (rt_I hA hf)
  · replace hf := if_2 hc hf
    refine j_iload_n hK dX8_faultOfSeason_93 3 rfl rfl ?_
    refine j_if_ne hK 100 dX8_faultOfSeason_94 (by decide) (fun hc => ?_) (fun hc => ?_)
    · replace hf := if_2 hc hf
      refine j_aload_n hK dX8_faultOfSeason_100 1 rfl rfl ?_
      refine j_iload hK dX8_faultOfSeason_101 4 rfl ?_
      refine j_bipush hK (115 : Int32) dX8_faultOfSeason_103 bi_115 ?_
      refine j_bipush hK (115 : Int32) dX8_faultOfSeason_105 bi_115 ?_
      obtain ⟨r4, S5, h6, hf⟩ := bd_J hf
      refine k_callVi hK (c_X8_within h6) dX8_faultOfSeason_107 zclX8 zo_1 ml_X8_19 mi_X8_within mx_X8_within in_X8 mc_X8_within hy_X8_within ⟨by decide, by decide⟩ rfl (Nat.le_of_ble_eq_true rfl) ?_
      refine j_if_eq hK 117 dX8_faultOfSeason_110 (by decide) (fun hc => ?_) (fun hc => ?_)
      · replace hf := if_1 hc hf
        refine j_iconst hK (-1 : Int32) dX8_faultOfSeason_117 ic_m1 ?_
        refine j_sub [1, 2, 0, 4] rfl ?_
        exact t_X8_faultOfSeason_118 hK hA hk he hf
      · replace hf := if_2 hc hf
        refine j_iconst hK (0 : Int32) dX8_faultOfSeason_113 ic_0 ?_
        refine j_goto hK 118 dX8_faultOfSeason_114 (by decide) ?_
        refine j_sub [1, 2, 0, 4] rfl ?_
        exact t_X8_faultOfSeason_118 hK hA hk he hf
    · replace hf := if_1 hc hf
      refine j_iload hK dX8_faultOfSeason_97 4 rfl ?_
      exact j_iret hK dX8_faultOfSeason_99 rfl (rt_I hA hf)
def f_X8_faultOfSeason_17b (x1 : Int32) (e : Int32 × Int32 × Int32 → St → Option (Int32 × St)) (k : Int32 × Int32 × Int32 → St → Option (Int32 × St)) (v : Int32 × Int32 × Int32) (S : St) : Option (Int32 × St) := (if x1 ≤ v.2.2 then e (v.1, v.2.1, v.2.2) S else (if v.1 ≤ 0 then (if v.2.1 = (-1 : Int32) then f_X8_faultOfSeason_82 x1 v.2.1 v.2.2 k e S else bd (f_X8_within v.2.2 (97 : Int32) (104 : Int32) S) (fun r7 S8 => (if r7 = 0 then f_X8_faultOfSeason_82 x1 v.2.1 v.2.2 k e S8 else (if v.2.1 = (6 : Int32) then some (v.2.2, S8) else f_X8_faultOfSeason_119 x1 v.1 (v.2.1 + (1 : Int32)) v.2.2 k e S8)))) else bd (f_X8_within v.2.2 (48 : Int32) (57 : Int32) S) (fun r10 S11 => (if r10 = 0 then some (v.2.2, S11) else f_X8_faultOfSeason_119 x1 (v.1 + (-1 : Int32)) v.2.1 v.2.2 k e S11))))
theorem t_X8_faultOfSeason_17 {K : CT} (hK : KO K cX8_faultOfSeason RX8 5 3 (some .int)) {r : Int32} {S' : St} (hA : zans K = (some (.int r), S')) {x1 : Int32} {e : Int32 × Int32 × Int32 → St → Option (Int32 × St)} (he : ∀ (v : Int32 × Int32 × Int32) (S : St), e v S = some (r, S') → J K 125 [(0, .ref 1), (1, .int x1), (2, .int v.1), (3, .int v.2.1)] [] S) : ∀ (n : Nat) (v : Int32 × Int32 × Int32) (S : St), lp (f_X8_faultOfSeason_17b x1 e) n v S = some (r, S') → J K 17 [(0, .ref 1), (1, .int x1), (2, .int v.1), (3, .int v.2.1), (4, .int v.2.2)] [] S :=
  lp_J (P := fun (v : Int32 × Int32 × Int32) (S : St) => J K 17 [(0, .ref 1), (1, .int x1), (2, .int v.1), (3, .int v.2.1), (4, .int v.2.2)] [] S) (fun k hk v S hf => by
    unfold f_X8_faultOfSeason_17b at hf
    refine j_iload hK dX8_faultOfSeason_17 4 rfl ?_
    refine j_iload_n hK dX8_faultOfSeason_19 1 rfl rfl ?_
    refine j_icmp_ge hK 125 dX8_faultOfSeason_20 (by decide) (fun hc => ?_) (fun hc => ?_)
    · replace hf := if_1 hc hf
      refine j_sub [0, 1, 2, 3] rfl ?_
      exact he _ _ hf
    · replace hf := if_2 hc hf
      refine j_iload_n hK dX8_faultOfSeason_23 2 rfl rfl ?_
      refine j_if_le hK 49 dX8_faultOfSeason_24 (by decide) (fun hc => ?_) (fun hc => ?_)
      · replace hf := if_1 hc hf
        refine j_iload_n hK dX8_faultOfSeason_49 3 rfl rfl ?_
        refine j_iconst hK (-1 : Int32) dX8_faultOfSeason_50 ic_m1 ?_
        refine j_icmp_eq hK 82 dX8_faultOfSeason_51 (by decide) (fun hc => ?_) (fun hc => ?_)
        · replace hf := if_1 hc hf
          refine j_sub [0, 1, 3, 4] rfl ?_
          exact t_X8_faultOfSeason_82 hK hA hk he hf
        · replace hf := if_2 hc hf
          refine j_aload_n hK dX8_faultOfSeason_54 0 rfl rfl ?_
          refine j_iload hK dX8_faultOfSeason_55 4 rfl ?_
          refine j_bipush hK (97 : Int32) dX8_faultOfSeason_57 bi_97 ?_
          refine j_bipush hK (104 : Int32) dX8_faultOfSeason_59 bi_104 ?_
          obtain ⟨r7, S8, h9, hf⟩ := bd_J hf
          refine k_callVi hK (c_X8_within h9) dX8_faultOfSeason_61 zclX8 zo_1 ml_X8_19 mi_X8_within mx_X8_within in_X8 mc_X8_within hy_X8_within ⟨by decide, by decide⟩ rfl (Nat.le_of_ble_eq_true rfl) ?_
          refine j_if_eq hK 82 dX8_faultOfSeason_64 (by decide) (fun hc => ?_) (fun hc => ?_)
          · replace hf := if_1 hc hf
            refine j_sub [0, 1, 3, 4] rfl ?_
            exact t_X8_faultOfSeason_82 hK hA hk he hf
          · replace hf := if_2 hc hf
            refine j_iload_n hK dX8_faultOfSeason_67 3 rfl rfl ?_
            refine j_bipush hK (6 : Int32) dX8_faultOfSeason_68 bi_6 ?_
            refine j_icmp_ne hK 76 dX8_faultOfSeason_70 (by decide) (fun hc => ?_) (fun hc => ?_)
            · replace hf := if_2 hc hf
              refine j_iinc hK (L' := [(3, .int (v.2.1 + (1 : Int32))), (0, .ref 1), (1, .int x1), (2, .int v.1), (4, .int v.2.2)]) dX8_faultOfSeason_76 3 rfl (congrArg (fun y => v.2.1 + y) ic_1) (by decide) rfl ?_
              refine j_goto hK 119 dX8_faultOfSeason_79 (by decide) ?_
              refine j_sub [1, 2, 3, 0, 4] rfl ?_
              exact t_X8_faultOfSeason_119 hK hA hk he hf
            · replace hf := if_1 hc hf
              refine j_iload hK dX8_faultOfSeason_73 4 rfl ?_
              exact j_iret hK dX8_faultOfSeason_75 rfl (rt_I hA hf)
      · replace hf := if_2 hc hf
        refine j_aload_n hK dX8_faultOfSeason_27 0 rfl rfl ?_
        refine j_iload hK dX8_faultOfSeason_28 4 rfl ?_
        refine j_bipush hK (48 : Int32) dX8_faultOfSeason_30 bi_48 ?_
        refine j_bipush hK (57 : Int32) dX8_faultOfSeason_32 bi_57 ?_
        obtain ⟨r10, S11, h12, hf⟩ := bd_J hf
        refine k_callVi hK (c_X8_within h12) dX8_faultOfSeason_34 zclX8 zo_1 ml_X8_19 mi_X8_within mx_X8_within in_X8 mc_X8_within hy_X8_within ⟨by decide, by decide⟩ rfl (Nat.le_of_ble_eq_true rfl) ?_
        refine j_if_ne hK 43 dX8_faultOfSeason_37 (by decide) (fun hc => ?_) (fun hc => ?_)
        · replace hf := if_2 hc hf
          refine j_iinc hK (L' := [(2, .int (v.1 + (-1 : Int32))), (0, .ref 1), (1, .int x1), (3, .int v.2.1), (4, .int v.2.2)]) dX8_faultOfSeason_43 2 rfl (congrArg (fun y => v.1 + y) ic_m1) (by decide) rfl ?_
          refine j_goto hK 119 dX8_faultOfSeason_46 (by decide) ?_
          refine j_sub [1, 2, 0, 3, 4] rfl ?_
          exact t_X8_faultOfSeason_119 hK hA hk he hf
        · replace hf := if_1 hc hf
          refine j_iload hK dX8_faultOfSeason_40 4 rfl ?_
          exact j_iret hK dX8_faultOfSeason_42 rfl (rt_I hA hf))
def f_X8_faultOfSeason (S : St) : Option (Int32 × St) := lt (mnI (gI S 1 1) (60 : Int32)) (fun y13 => lp (f_X8_faultOfSeason_17b y13 (fun v14 S15 => (if 0 < v14.1 then f_X8_faultOfSeason_133 y13 S15 else (if v14.2.1 = 0 then f_X8_faultOfSeason_133 y13 S15 else f_X8_faultOfSeason_138 y13 (0 : Int32) S15)))) FU ((0 : Int32), (-1 : Int32), (0 : Int32)) S)
theorem c_X8_faultOfSeason {S : St} {r : Int32} {S' : St} (hf : f_X8_faultOfSeason S = some (r, S')) : zM yX8_faultOfSeason cX8_faultOfSeason 5 3 (some .int) [.ref 1] S (some (.int r)) S' := by
  refine zM_of (zpl (by decide)) (Nat.le_of_ble_eq_true rfl) rfl (fun K hK hA => ?_)
  unfold f_X8_faultOfSeason at hf
  refine j_aload_n hK dX8_faultOfSeason_0 0 rfl rfl ?_
  refine j_getI hK fl_X8_15 dX8_faultOfSeason_1 zo_1 zf_8_1 ?_
  refine j_bipush hK (60 : Int32) dX8_faultOfSeason_4 bi_60 ?_
  refine j_min hK ml_X8_23 dX8_faultOfSeason_6 (by decide) (Nat.le_of_ble_eq_true rfl) ?_
  refine lt_I hf (fun y13 hf => ?_)
  refine j_istore_n hK (L' := [(1, .int y13), (0, .ref 1)]) dX8_faultOfSeason_9 rfl (by decide) rfl ?_
  refine j_iconst hK (0 : Int32) dX8_faultOfSeason_10 ic_0 ?_
  refine j_istore_n hK (L' := [(2, .int (0 : Int32)), (1, .int y13), (0, .ref 1)]) dX8_faultOfSeason_11 rfl (by decide) rfl ?_
  refine j_iconst hK (-1 : Int32) dX8_faultOfSeason_12 ic_m1 ?_
  refine j_pc (pc' := 13) rfl ?_
  refine j_istore_n hK (L' := [(3, .int (-1 : Int32)), (2, .int (0 : Int32)), (1, .int y13), (0, .ref 1)]) dX8_faultOfSeason_13 rfl (by decide) rfl ?_
  refine j_iconst hK (0 : Int32) dX8_faultOfSeason_14 ic_0 ?_
  refine j_istore hK (L' := [(4, .int (0 : Int32)), (3, .int (-1 : Int32)), (2, .int (0 : Int32)), (1, .int y13), (0, .ref 1)]) dX8_faultOfSeason_15 (by decide) rfl ?_
  refine j_sub [4, 3, 2, 1, 0] rfl ?_
  refine t_X8_faultOfSeason_17 hK hA  (fun v14 S15 hf => ?_) _ _ _ hf
  refine j_iload_n hK dX8_faultOfSeason_125 2 rfl rfl ?_
  refine j_if_gt hK 133 dX8_faultOfSeason_126 (by decide) (fun hc => ?_) (fun hc => ?_)
  · replace hf := if_1 hc hf
    refine j_sub [0, 1] rfl ?_
    exact t_X8_faultOfSeason_133 hK hA  hf
  · replace hf := if_2 hc hf
    refine j_iload_n hK dX8_faultOfSeason_129 3 rfl rfl ?_
    refine j_if_ne hK 137 dX8_faultOfSeason_130 (by decide) (fun hc => ?_) (fun hc => ?_)
    · replace hf := if_2 hc hf
      refine j_iconst hK (0 : Int32) dX8_faultOfSeason_137 ic_0 ?_
      refine j_sub [0, 1] rfl ?_
      exact t_X8_faultOfSeason_138 hK hA  hf
    · replace hf := if_1 hc hf
      refine j_sub [0, 1] rfl ?_
      exact t_X8_faultOfSeason_133 hK hA  hf
def f_X8_signsOfAct_29 (x2 : Int32) (s0 : Int32) (S : St) : Option (Int32 × St) := some ((((1 : Int32) + x2) + s0), S)
theorem t_X8_signsOfAct_29 {K : CT} (hK : KO K cX8_signsOfAct RX8 4 3 (some .int)) {r : Int32} {S' : St} (hA : zans K = (some (.int r), S')) {x2 : Int32} {s0 : Int32} {S : St} (hf : f_X8_signsOfAct_29 x2 s0 S = some (r, S')) : J K 29 [(2, .int x2)] [.int s0] S := by
  unfold f_X8_signsOfAct_29 at hf
  refine j_istore_n hK (L' := [(3, .int s0), (2, .int x2)]) dX8_signsOfAct_29 rfl (by decide) rfl ?_
  refine j_iconst hK (1 : Int32) dX8_signsOfAct_30 ic_1 ?_
  refine j_iload_n hK dX8_signsOfAct_31 1 rfl rfl ?_
  refine j_iadd hK dX8_signsOfAct_32 ?_
  refine j_iload_n hK dX8_signsOfAct_33 0 rfl rfl ?_
  refine j_iadd hK dX8_signsOfAct_34 ?_
  exact j_iret hK dX8_signsOfAct_35 rfl (rt_I hA hf)
def f_X8_signsOfAct (p1 : Int32) (S : St) : Option (Int32 × St) := bd (f_X8_digitsOfAct p1 S) (fun r1 S2 => bd (f_X8_within p1 (115 : Int32) (115 : Int32) S2) (fun r4 S5 => (if r4 = 0 then f_X8_signsOfAct_29 r1 (0 : Int32) S5 else bd (f_X8_lettersFrom (p1 + (3 : Int32)) S5) (fun r7 S8 => f_X8_signsOfAct_29 r1 r7 S8))))
theorem c_X8_signsOfAct {p1 : Int32} {S : St} {r : Int32} {S' : St} (hf : f_X8_signsOfAct p1 S = some (r, S')) : zM yX8_signsOfAct cX8_signsOfAct 4 3 (some .int) [.ref 1, .int p1] S (some (.int r)) S' := by
  refine zM_of (zpl (by decide)) (Nat.le_of_ble_eq_true rfl) rfl (fun K hK hA => ?_)
  unfold f_X8_signsOfAct at hf
  refine j_aload_n hK dX8_signsOfAct_0 0 rfl rfl ?_
  refine j_iload_n hK dX8_signsOfAct_1 1 rfl rfl ?_
  obtain ⟨r1, S2, h3, hf⟩ := bd_J hf
  refine k_callVi hK (c_X8_digitsOfAct h3) dX8_signsOfAct_2 zclX8 zo_1 ml_X8_40 mi_X8_digitsOfAct mx_X8_digitsOfAct in_X8 mc_X8_digitsOfAct hy_X8_digitsOfAct ⟨by decide, by decide⟩ rfl (Nat.le_of_ble_eq_true rfl) ?_
  refine j_istore_n hK (L' := [(2, .int r1), (0, .ref 1), (1, .int p1)]) dX8_signsOfAct_5 rfl (by decide) rfl ?_
  refine j_aload_n hK dX8_signsOfAct_6 1 rfl rfl ?_
  refine j_iload_n hK dX8_signsOfAct_7 2 rfl rfl ?_
  refine j_bipush hK (115 : Int32) dX8_signsOfAct_8 bi_115 ?_
  refine j_bipush hK (115 : Int32) dX8_signsOfAct_10 bi_115 ?_
  refine j_pc (pc' := 12) rfl ?_
  obtain ⟨r4, S5, h6, hf⟩ := bd_J hf
  refine k_callVi hK (c_X8_within h6) dX8_signsOfAct_12 zclX8 zo_1 ml_X8_19 mi_X8_within mx_X8_within in_X8 mc_X8_within hy_X8_within ⟨by decide, by decide⟩ rfl (Nat.le_of_ble_eq_true rfl) ?_
  refine j_if_eq hK 28 dX8_signsOfAct_15 (by decide) (fun hc => ?_) (fun hc => ?_)
  · replace hf := if_1 hc hf
    refine j_iconst hK (0 : Int32) dX8_signsOfAct_28 ic_0 ?_
    refine j_sub [0] rfl ?_
    exact t_X8_signsOfAct_29 hK hA  hf
  · replace hf := if_2 hc hf
    refine j_aload_n hK dX8_signsOfAct_18 1 rfl rfl ?_
    refine j_iload_n hK dX8_signsOfAct_19 2 rfl rfl ?_
    refine j_iconst hK (3 : Int32) dX8_signsOfAct_20 ic_3 ?_
    refine j_iadd hK dX8_signsOfAct_21 ?_
    obtain ⟨r7, S8, h9, hf⟩ := bd_J hf
    refine k_callVi hK (c_X8_lettersFrom h9) dX8_signsOfAct_22 zclX8 zo_1 ml_X8_37 mi_X8_lettersFrom mx_X8_lettersFrom in_X8 mc_X8_lettersFrom hy_X8_lettersFrom ⟨by decide, by decide⟩ rfl (Nat.le_of_ble_eq_true rfl) ?_
    refine j_goto hK 29 dX8_signsOfAct_25 (by decide) ?_
    refine j_sub [0] rfl ?_
    exact t_X8_signsOfAct_29 hK hA  hf
def f_X8_faultOfPair_70 (x2 : Int32) (S : St) : Option (Int32 × St) := some (x2, S)
theorem t_X8_faultOfPair_70 {K : CT} (hK : KO K cX8_faultOfPair RX8 3 3 (some .int)) {r : Int32} {S' : St} (hA : zans K = (some (.int r), S')) {x2 : Int32} {S : St} (hf : f_X8_faultOfPair_70 x2 S = some (r, S')) : J K 70 [(2, .int x2)] [] S := by
  unfold f_X8_faultOfPair_70 at hf
  refine j_iload_n hK dX8_faultOfPair_70 0 rfl rfl ?_
  refine j_goto hK 75 dX8_faultOfPair_71 (by decide) ?_
  exact j_iret hK dX8_faultOfPair_75 rfl (rt_I hA hf)
def f_X8_faultOfPair (S : St) : Option (Int32 × St) := bd (f_X8_lettersFrom (0 : Int32) S) (fun r1 S2 => lt (mnI r1 (6 : Int32)) (fun y4 => (if y4 = 0 then some (y4, S2) else (if (gI S2 1 1) ≤ y4 then some (y4, S2) else bd (f_X8_within y4 (59 : Int32) (59 : Int32) S2) (fun r5 S6 => (if r5 = 0 then some (y4, S6) else bd (f_X8_lettersFrom (y4 + (1 : Int32)) S6) (fun r8 S9 => lt ((y4 + (1 : Int32)) + (mnI r8 y4)) (fun y11 => (if y11 < (((2 : Int32) * y4) + (1 : Int32)) then f_X8_faultOfPair_70 y11 S9 else (if (gI S9 1 1) ≤ y11 then some ((-1 : Int32), S9) else f_X8_faultOfPair_70 y11 S9))))))))))
theorem c_X8_faultOfPair {S : St} {r : Int32} {S' : St} (hf : f_X8_faultOfPair S = some (r, S')) : zM yX8_faultOfPair cX8_faultOfPair 3 3 (some .int) [.ref 1] S (some (.int r)) S' := by
  refine zM_of (zpl (by decide)) (Nat.le_of_ble_eq_true rfl) rfl (fun K hK hA => ?_)
  unfold f_X8_faultOfPair at hf
  refine j_aload_n hK dX8_faultOfPair_0 0 rfl rfl ?_
  refine j_iconst hK (0 : Int32) dX8_faultOfPair_1 ic_0 ?_
  obtain ⟨r1, S2, h3, hf⟩ := bd_J hf
  refine k_callVi hK (c_X8_lettersFrom h3) dX8_faultOfPair_2 zclX8 zo_1 ml_X8_37 mi_X8_lettersFrom mx_X8_lettersFrom in_X8 mc_X8_lettersFrom hy_X8_lettersFrom ⟨by decide, by decide⟩ rfl (Nat.le_of_ble_eq_true rfl) ?_
  refine j_bipush hK (6 : Int32) dX8_faultOfPair_5 bi_6 ?_
  refine j_min hK ml_X8_23 dX8_faultOfPair_7 (by decide) (Nat.le_of_ble_eq_true rfl) ?_
  refine lt_I hf (fun y4 hf => ?_)
  refine j_istore_n hK (L' := [(1, .int y4), (0, .ref 1)]) dX8_faultOfPair_10 rfl (by decide) rfl ?_
  refine j_iload_n hK dX8_faultOfPair_11 0 rfl rfl ?_
  refine j_if_eq hK 35 dX8_faultOfPair_12 (by decide) (fun hc => ?_) (fun hc => ?_)
  · replace hf := if_1 hc hf
    refine j_iload_n hK dX8_faultOfPair_35 0 rfl rfl ?_
    exact j_iret hK dX8_faultOfPair_36 rfl (rt_I hA hf)
  · replace hf := if_2 hc hf
    refine j_iload_n hK dX8_faultOfPair_15 0 rfl rfl ?_
    refine j_aload_n hK dX8_faultOfPair_16 1 rfl rfl ?_
    refine j_getI hK fl_X8_15 dX8_faultOfPair_17 zo_1 zf_8_1 ?_
    refine j_icmp_ge hK 35 dX8_faultOfPair_20 (by decide) (fun hc => ?_) (fun hc => ?_)
    · replace hf := if_1 hc hf
      refine j_iload_n hK dX8_faultOfPair_35 0 rfl rfl ?_
      exact j_iret hK dX8_faultOfPair_36 rfl (rt_I hA hf)
    · replace hf := if_2 hc hf
      refine j_aload_n hK dX8_faultOfPair_23 1 rfl rfl ?_
      refine j_iload_n hK dX8_faultOfPair_24 0 rfl rfl ?_
      refine j_bipush hK (59 : Int32) dX8_faultOfPair_25 bi_59 ?_
      refine j_bipush hK (59 : Int32) dX8_faultOfPair_27 bi_59 ?_
      obtain ⟨r5, S6, h7, hf⟩ := bd_J hf
      refine k_callVi hK (c_X8_within h7) dX8_faultOfPair_29 zclX8 zo_1 ml_X8_19 mi_X8_within mx_X8_within in_X8 mc_X8_within hy_X8_within ⟨by decide, by decide⟩ rfl (Nat.le_of_ble_eq_true rfl) ?_
      refine j_if_ne hK 37 dX8_faultOfPair_32 (by decide) (fun hc => ?_) (fun hc => ?_)
      · replace hf := if_2 hc hf
        refine j_iload_n hK dX8_faultOfPair_37 0 rfl rfl ?_
        refine j_iconst hK (1 : Int32) dX8_faultOfPair_38 ic_1 ?_
        refine j_iadd hK dX8_faultOfPair_39 ?_
        refine j_aload_n hK dX8_faultOfPair_40 1 rfl rfl ?_
        refine j_iload_n hK dX8_faultOfPair_41 0 rfl rfl ?_
        refine j_iconst hK (1 : Int32) dX8_faultOfPair_42 ic_1 ?_
        refine j_iadd hK dX8_faultOfPair_43 ?_
        refine j_pc (pc' := 44) rfl ?_
        obtain ⟨r8, S9, h10, hf⟩ := bd_J hf
        refine k_callVi hK (c_X8_lettersFrom h10) dX8_faultOfPair_44 zclX8 zo_1 ml_X8_37 mi_X8_lettersFrom mx_X8_lettersFrom in_X8 mc_X8_lettersFrom hy_X8_lettersFrom ⟨by decide, by decide⟩ rfl (Nat.le_of_ble_eq_true rfl) ?_
        refine j_iload_n hK dX8_faultOfPair_47 0 rfl rfl ?_
        refine j_min hK ml_X8_23 dX8_faultOfPair_48 (by decide) (Nat.le_of_ble_eq_true rfl) ?_
        refine j_iadd hK dX8_faultOfPair_51 ?_
        refine lt_I hf (fun y11 hf => ?_)
        refine j_istore_n hK (L' := [(2, .int y11), (1, .int y4), (0, .ref 1)]) dX8_faultOfPair_52 rfl (by decide) rfl ?_
        refine j_iload_n hK dX8_faultOfPair_53 0 rfl rfl ?_
        refine j_iconst hK (2 : Int32) dX8_faultOfPair_54 ic_2 ?_
        refine j_iload_n hK dX8_faultOfPair_55 1 rfl rfl ?_
        refine j_pc (pc' := 56) rfl ?_
        refine j_imul hK dX8_faultOfPair_56 ?_
        refine j_iconst hK (1 : Int32) dX8_faultOfPair_57 ic_1 ?_
        refine j_iadd hK dX8_faultOfPair_58 ?_
        refine j_icmp_lt hK 70 dX8_faultOfPair_59 (by decide) (fun hc => ?_) (fun hc => ?_)
        · replace hf := if_1 hc hf
          refine j_sub [0] rfl ?_
          exact t_X8_faultOfPair_70 hK hA  hf
        · replace hf := if_2 hc hf
          refine j_iload_n hK dX8_faultOfPair_62 0 rfl rfl ?_
          refine j_aload_n hK dX8_faultOfPair_63 2 rfl rfl ?_
          refine j_getI hK fl_X8_15 dX8_faultOfPair_64 zo_1 zf_8_1 ?_
          refine j_icmp_ge hK 74 dX8_faultOfPair_67 (by decide) (fun hc => ?_) (fun hc => ?_)
          · replace hf := if_1 hc hf
            refine j_iconst hK (-1 : Int32) dX8_faultOfPair_74 ic_m1 ?_
            exact j_iret hK dX8_faultOfPair_75 rfl (rt_I hA hf)
          · replace hf := if_2 hc hf
            refine j_sub [0] rfl ?_
            exact t_X8_faultOfPair_70 hK hA  hf
      · replace hf := if_1 hc hf
        refine j_iload_n hK dX8_faultOfPair_35 0 rfl rfl ?_
        exact j_iret hK dX8_faultOfPair_36 rfl (rt_I hA hf)
