def f_X10_sign_19b (x1 : Int32) (e : Int32 → St → Option (Int32 × St)) (k : Int32 → St → Option (Int32 × St)) (v : Int32) (S : St) : Option (Int32 × St) := (if v < 0 then e v S else if inb (gI S 1 1) 80 then lt (sI S 2 (gI S 1 1).toNatClampNeg (vp_nar .char ((((ushr x1 v) &&& (255 : Int32))).toUInt32 % 65536).toInt32)) (fun S2 => lt (sI S2 1 1 ((gI S2 1 1) + (1 : Int32))) (fun S3 => k (v + (-8 : Int32)) S3)) else none)
theorem t_X10_sign_19 {K : CT} (hK : KO K cX10_sign RX10 3 1 (some .int)) {r : Int32} {S' : St} (hA : zans K (some (.int r), S')) {x1 : Int32} {e : Int32 → St → Option (Int32 × St)} (he : ∀ (v : Int32) (S : St), e v S = some (r, S') → J K 65 [(0, .ref 0)] [] S) : ∀ (n : Nat) (v : Int32) (S : St), lp (f_X10_sign_19b x1 e) n v S = some (r, S') → J K 19 [(0, .ref 0), (1, .int x1), (2, .int v)] [] S :=
  lp_J (P := fun (v : Int32) (S : St) => J K 19 [(0, .ref 0), (1, .int x1), (2, .int v)] [] S) (fun k hk v S hf => by
    unfold f_X10_sign_19b at hf
    refine j_iload_n hK dX10_sign_19 2 rfl rfl ?_
    refine j_if_lt hK 65 dX10_sign_20 (by decide) (fun hc => ?_) (fun hc => ?_)
    · replace hf := if_1 hc hf
      refine j_sub [0] rfl ?_
      exact he _ _ hf
    · replace hf := if_2 hc hf
      refine j_aload_n hK dX10_sign_23 0 rfl rfl ?_
      refine j_getR hK fl_X10_10 dX10_sign_24 zo_0 zf_10_0 zr_0_0 ?_
      refine j_getR hK fl_X10_91 dX10_sign_27 zo_1 zf_8_0 zr_1_0 ?_
      refine j_aload_n hK dX10_sign_30 0 rfl rfl ?_
      refine j_getR hK fl_X10_10 dX10_sign_31 zo_0 zf_10_0 zr_0_0 ?_
      refine j_getI hK fl_X10_88 dX10_sign_34 zo_1 zf_8_1 ?_
      refine j_iload_n hK dX10_sign_37 1 rfl rfl ?_
      refine j_pc (pc' := 38) rfl ?_
      refine j_iload_n hK dX10_sign_38 2 rfl rfl ?_
      refine j_iushr hK dX10_sign_39 ?_
      refine j_sipush hK (255 : Int32) dX10_sign_40 si_255 ?_
      refine j_iand hK dX10_sign_43 ?_
      refine j_i2c hK dX10_sign_44 ?_
      obtain ⟨hi1, hf⟩ := gd hf
      refine k_cast hK dX10_sign_45 zb_2 hi1 rfl ?_
      refine lt_S hf (fun S2 hf => ?_)
      refine j_aload_n hK dX10_sign_46 0 rfl rfl ?_
      refine j_getR hK fl_X10_10 dX10_sign_47 zo_0 zf_10_0 zr_0_0 ?_
      refine j_pc (pc' := 50) rfl ?_
      refine j_dup hK dX10_sign_50 rfl ?_
      refine j_getI hK fl_X10_88 dX10_sign_51 zo_1 zf_8_1 ?_
      refine j_iconst hK (1 : Int32) dX10_sign_54 ic_1 ?_
      refine j_iadd hK dX10_sign_55 ?_
      refine j_putI hK fl_X10_88 dX10_sign_56 zo_1 zf_8_1 ?_
      refine lt_S hf (fun S3 hf => ?_)
      refine j_iinc hK (L' := [(2, .int (v + (-8 : Int32))), (0, .ref 0), (1, .int x1)]) dX10_sign_59 2 rfl (congrArg (fun y => v + y) ic_m8) (by decide) rfl ?_
      refine j_goto hK 19 dX10_sign_62 (by decide) ?_
      refine j_sub [1, 2, 0] rfl ?_
      exact hk _ _ hf)
def f_X10_sign (p1 : Int32) (S : St) : Option (Int32 × St) := (if ((gI S 1 1) + (4 : Int32)) ≤ (80 : Int32) then lp (f_X10_sign_19b p1 (fun v4 S5 => some ((gI S5 1 1), S5))) FU (24 : Int32) S else some ((-1 : Int32), S))
theorem c_X10_sign {p1 : Int32} {S : St} {r : Int32} {S' : St} (hf : f_X10_sign p1 S = some (r, S')) : zM yX10_sign cX10_sign 3 1 (some .int) [.ref 0, .int p1] S (some (.int r)) S' := by
  refine zM_of (zpl (by decide)) (Nat.le_of_ble_eq_true rfl) rfl (fun K hK hA => ?_)
  unfold f_X10_sign at hf
  refine j_aload_n hK dX10_sign_0 0 rfl rfl ?_
  refine j_getR hK fl_X10_10 dX10_sign_1 zo_0 zf_10_0 zr_0_0 ?_
  refine j_getI hK fl_X10_88 dX10_sign_4 zo_1 zf_8_1 ?_
  refine j_iconst hK (4 : Int32) dX10_sign_7 ic_4 ?_
  refine j_iadd hK dX10_sign_8 ?_
  refine j_bipush hK (80 : Int32) dX10_sign_9 bi_80 ?_
  refine j_icmp_le hK 16 dX10_sign_11 (by decide) (fun hc => ?_) (fun hc => ?_)
  · replace hf := if_1 hc hf
    refine j_bipush hK (24 : Int32) dX10_sign_16 bi_24 ?_
    refine j_istore_n hK (L' := [(2, .int (24 : Int32)), (0, .ref 0), (1, .int p1)]) dX10_sign_18 rfl (by decide) rfl ?_
    refine j_sub [1, 2, 0] rfl ?_
    refine t_X10_sign_19 hK hA  (fun v4 S5 hf => ?_) _ _ _ hf
    refine j_aload_n hK dX10_sign_65 0 rfl rfl ?_
    refine j_getR hK fl_X10_10 dX10_sign_66 zo_0 zf_10_0 zr_0_0 ?_
    refine j_getI hK fl_X10_88 dX10_sign_69 zo_1 zf_8_1 ?_
    exact j_iret hK dX10_sign_72 rfl (rt_I hA hf)
  · replace hf := if_2 hc hf
    refine j_iconst hK (-1 : Int32) dX10_sign_14 ic_m1 ?_
    exact j_iret hK dX10_sign_15 rfl (rt_I hA hf)
def f_X10_end (p1 : Int32) (S : St) : Option (Int32 × St) := (if p1 < 0 then some ((0 : Int32), S) else (if p1 ≤ (gI S 1 1) then lt (sI S 1 1 p1) (fun S1 => some ((1 : Int32), S1)) else some ((0 : Int32), S)))
theorem c_X10_end {p1 : Int32} {S : St} {r : Int32} {S' : St} (hf : f_X10_end p1 S = some (r, S')) : zM yX10_end cX10_end 2 1 (some .boolean) [.ref 0, .int p1] S (some (.int r)) S' := by
  refine zM_of (zpl (by decide)) (Nat.le_of_ble_eq_true rfl) rfl (fun K hK hA => ?_)
  unfold f_X10_end at hf
  refine j_iload_n hK dX10_end_0 1 rfl rfl ?_
  refine j_if_lt hK 15 dX10_end_1 (by decide) (fun hc => ?_) (fun hc => ?_)
  · replace hf := if_1 hc hf
    refine j_iconst hK (0 : Int32) dX10_end_15 ic_0 ?_
    exact j_zret hK dX10_end_16 rfl rfl (rt_I hA hf)
  · replace hf := if_2 hc hf
    refine j_iload_n hK dX10_end_4 1 rfl rfl ?_
    refine j_aload_n hK dX10_end_5 0 rfl rfl ?_
    refine j_getR hK fl_X10_10 dX10_end_6 zo_0 zf_10_0 zr_0_0 ?_
    refine j_getI hK fl_X10_88 dX10_end_9 zo_1 zf_8_1 ?_
    refine j_icmp_le hK 17 dX10_end_12 (by decide) (fun hc => ?_) (fun hc => ?_)
    · replace hf := if_1 hc hf
      refine j_aload_n hK dX10_end_17 0 rfl rfl ?_
      refine j_getR hK fl_X10_10 dX10_end_18 zo_0 zf_10_0 zr_0_0 ?_
      refine j_iload_n hK dX10_end_21 1 rfl rfl ?_
      refine j_putI hK fl_X10_88 dX10_end_22 zo_1 zf_8_1 ?_
      refine lt_S hf (fun S1 hf => ?_)
      refine j_iconst hK (1 : Int32) dX10_end_25 ic_1 ?_
      exact j_zret hK dX10_end_26 rfl rfl (rt_I hA hf)
    · replace hf := if_2 hc hf
      refine j_iconst hK (0 : Int32) dX10_end_15 ic_0 ?_
      exact j_zret hK dX10_end_16 rfl rfl (rt_I hA hf)
def f_X8_within (p1 : Int32) (p2 : Int32) (p3 : Int32) (S : St) : Option (Int32 × St) := (if p1 < 0 then some ((0 : Int32), S) else (if (80 : Int32) ≤ p1 then some ((0 : Int32), S) else if inb p1 80 then (if (gI S 2 p1.toNatClampNeg) < p2 then some ((0 : Int32), S) else if inb p1 80 then (if p3 < (gI S 2 p1.toNatClampNeg) then some ((0 : Int32), S) else some ((1 : Int32), S)) else none) else none))
theorem c_X8_within {p1 : Int32} {p2 : Int32} {p3 : Int32} {S : St} {r : Int32} {S' : St} (hf : f_X8_within p1 p2 p3 S = some (r, S')) : zM yX8_within cX8_within 4 1 (some .boolean) [.ref 1, .int p1, .int p2, .int p3] S (some (.int r)) S' := by
  refine zM_of (zpl (by decide)) (Nat.le_of_ble_eq_true rfl) rfl (fun K hK hA => ?_)
  unfold f_X8_within at hf
  refine j_iload_n hK dX8_within_0 1 rfl rfl ?_
  refine j_if_lt hK 34 dX8_within_1 (by decide) (fun hc => ?_) (fun hc => ?_)
  · replace hf := if_1 hc hf
    refine j_iconst hK (0 : Int32) dX8_within_34 ic_0 ?_
    exact j_zret hK dX8_within_35 rfl rfl (rt_I hA hf)
  · replace hf := if_2 hc hf
    refine j_iload_n hK dX8_within_4 1 rfl rfl ?_
    refine j_bipush hK (80 : Int32) dX8_within_5 bi_80 ?_
    refine j_icmp_ge hK 34 dX8_within_7 (by decide) (fun hc => ?_) (fun hc => ?_)
    · replace hf := if_1 hc hf
      refine j_iconst hK (0 : Int32) dX8_within_34 ic_0 ?_
      exact j_zret hK dX8_within_35 rfl rfl (rt_I hA hf)
    · replace hf := if_2 hc hf
      refine j_aload_n hK dX8_within_10 0 rfl rfl ?_
      refine j_getR hK fl_X8_11 dX8_within_11 zo_1 zf_8_0 zr_1_0 ?_
      refine j_iload_n hK dX8_within_14 1 rfl rfl ?_
      obtain ⟨hi1, hf⟩ := gd hf
      refine k_cald hK dX8_within_15 zb_2 hi1 rfl ?_
      refine j_iload_n hK dX8_within_16 2 rfl rfl ?_
      refine j_icmp_lt hK 34 dX8_within_17 (by decide) (fun hc => ?_) (fun hc => ?_)
      · replace hf := if_1 hc hf
        refine j_iconst hK (0 : Int32) dX8_within_34 ic_0 ?_
        exact j_zret hK dX8_within_35 rfl rfl (rt_I hA hf)
      · replace hf := if_2 hc hf
        refine j_aload_n hK dX8_within_20 0 rfl rfl ?_
        refine j_getR hK fl_X8_11 dX8_within_21 zo_1 zf_8_0 zr_1_0 ?_
        refine j_iload_n hK dX8_within_24 1 rfl rfl ?_
        obtain ⟨hi2, hf⟩ := gd hf
        refine k_cald hK dX8_within_25 zb_2 hi2 rfl ?_
        refine j_iload_n hK dX8_within_26 3 rfl rfl ?_
        refine j_icmp_gt hK 34 dX8_within_27 (by decide) (fun hc => ?_) (fun hc => ?_)
        · replace hf := if_1 hc hf
          refine j_iconst hK (0 : Int32) dX8_within_34 ic_0 ?_
          exact j_zret hK dX8_within_35 rfl rfl (rt_I hA hf)
        · replace hf := if_2 hc hf
          refine j_iconst hK (1 : Int32) dX8_within_30 ic_1 ?_
          refine j_goto hK 35 dX8_within_31 (by decide) ?_
          exact j_zret hK dX8_within_35 rfl rfl (rt_I hA hf)
def f_X8_digit (p1 : Int32) (S : St) : Option (Int32 × St) := (if p1 < 0 then some ((-1 : Int32), S) else (if (80 : Int32) ≤ p1 then some ((-1 : Int32), S) else if inb p1 80 then some (((gI S 2 p1.toNatClampNeg) - (48 : Int32)), S) else none))
theorem c_X8_digit {p1 : Int32} {S : St} {r : Int32} {S' : St} (hf : f_X8_digit p1 S = some (r, S')) : zM yX8_digit cX8_digit 2 1 (some .int) [.ref 1, .int p1] S (some (.int r)) S' := by
  refine zM_of (zpl (by decide)) (Nat.le_of_ble_eq_true rfl) rfl (fun K hK hA => ?_)
  unfold f_X8_digit at hf
  refine j_iload_n hK dX8_digit_0 1 rfl rfl ?_
  refine j_if_lt hK 22 dX8_digit_1 (by decide) (fun hc => ?_) (fun hc => ?_)
  · replace hf := if_1 hc hf
    refine j_iconst hK (-1 : Int32) dX8_digit_22 ic_m1 ?_
    exact j_iret hK dX8_digit_23 rfl (rt_I hA hf)
  · replace hf := if_2 hc hf
    refine j_iload_n hK dX8_digit_4 1 rfl rfl ?_
    refine j_bipush hK (80 : Int32) dX8_digit_5 bi_80 ?_
    refine j_icmp_ge hK 22 dX8_digit_7 (by decide) (fun hc => ?_) (fun hc => ?_)
    · replace hf := if_1 hc hf
      refine j_iconst hK (-1 : Int32) dX8_digit_22 ic_m1 ?_
      exact j_iret hK dX8_digit_23 rfl (rt_I hA hf)
    · replace hf := if_2 hc hf
      refine j_aload_n hK dX8_digit_10 0 rfl rfl ?_
      refine j_getR hK fl_X8_11 dX8_digit_11 zo_1 zf_8_0 zr_1_0 ?_
      refine j_iload_n hK dX8_digit_14 1 rfl rfl ?_
      obtain ⟨hi1, hf⟩ := gd hf
      refine k_cald hK dX8_digit_15 zb_2 hi1 rfl ?_
      refine j_bipush hK (48 : Int32) dX8_digit_16 bi_48 ?_
      refine j_isub hK dX8_digit_18 ?_
      refine j_goto hK 23 dX8_digit_19 (by decide) ?_
      exact j_iret hK dX8_digit_23 rfl (rt_I hA hf)
def f_X8_standsInLine (p1 : Int32) (p2 : Int32) (S : St) : Option (Int32 × St) := (if (p1 - p1 / (5 : Int32) * (5 : Int32)) = (0 : Int32) then (if p2 ≤ (p1 / (5 : Int32)) then some ((0 : Int32), S) else bd (f_X8_within p1 (48 : Int32) (55 : Int32) S) (fun r2 S3 => (if r2 = 0 then some ((0 : Int32), S3) else some ((1 : Int32), S3)))) else (if (p1 - p1 / (5 : Int32) * (5 : Int32)) = (1 : Int32) then bd (f_X8_within p1 (48 : Int32) (55 : Int32) S) (fun r6 S7 => (if r6 = 0 then some ((0 : Int32), S7) else bd (f_X8_digit p1 S7) (fun r9 S10 => bd (f_X8_digit (p1 - (1 : Int32)) S10) (fun r12 S13 => (if r9 = r12 then some ((0 : Int32), S13) else some ((1 : Int32), S13)))))) else (if (p1 - p1 / (5 : Int32) * (5 : Int32)) = (2 : Int32) then bd (f_X8_within p1 (49 : Int32) (57 : Int32) S) (fun r16 S17 => if r16 = 0 ∨ r16 = 1 then some (r16, S17) else none) else (if (p1 - p1 / (5 : Int32) * (5 : Int32)) = (3 : Int32) then bd (f_X8_within p1 (48 : Int32) (57 : Int32) S) (fun r20 S21 => if r20 = 0 ∨ r20 = 1 then some (r20, S21) else none) else bd (f_X8_within p1 (59 : Int32) (59 : Int32) S) (fun r23 S24 => if r23 = 0 ∨ r23 = 1 then some (r23, S24) else none)))))
theorem c_X8_standsInLine {p1 : Int32} {p2 : Int32} {S : St} {r : Int32} {S' : St} (hf : f_X8_standsInLine p1 p2 S = some (r, S')) : zM yX8_standsInLine cX8_standsInLine 3 2 (some .boolean) [.ref 1, .int p1, .int p2] S (some (.int r)) S' := by
  refine zM_of (zpl (by decide)) (Nat.le_of_ble_eq_true rfl) rfl (fun K hK hA => ?_)
  unfold f_X8_standsInLine at hf
  refine j_iload_n hK dX8_standsInLine_0 1 rfl rfl ?_
  refine j_iconst hK (5 : Int32) dX8_standsInLine_1 ic_5 ?_
  refine j_irem hK dX8_standsInLine_2 (by decide) ?_
  by_cases hs1 : (p1 - p1 / (5 : Int32) * (5 : Int32)) = (0 : Int32)
  · replace hf := if_1 hs1 hf
    refine j_tabC hK (0 : Int32) 32 dX8_standsInLine_3 hs1 (by decide) rfl (by decide) ?_
    refine j_iload_n hK dX8_standsInLine_32 1 rfl rfl ?_
    refine j_iconst hK (5 : Int32) dX8_standsInLine_33 ic_5 ?_
    refine j_idiv hK dX8_standsInLine_34 (by decide) ?_
    refine j_iload_n hK dX8_standsInLine_35 2 rfl rfl ?_
    refine j_icmp_ge hK 55 dX8_standsInLine_36 (by decide) (fun hc => ?_) (fun hc => ?_)
    · replace hf := if_1 hc hf
      refine j_iconst hK (0 : Int32) dX8_standsInLine_55 ic_0 ?_
      exact j_zret hK dX8_standsInLine_56 rfl rfl (rt_I hA hf)
    · replace hf := if_2 hc hf
      refine j_aload_n hK dX8_standsInLine_39 0 rfl rfl ?_
      refine j_iload_n hK dX8_standsInLine_40 1 rfl rfl ?_
      refine j_bipush hK (48 : Int32) dX8_standsInLine_41 bi_48 ?_
      refine j_bipush hK (55 : Int32) dX8_standsInLine_43 bi_55 ?_
      obtain ⟨r2, S3, h4, hf⟩ := bd_J hf
      refine k_callVi hK (c_X8_within h4) dX8_standsInLine_45 zclX8 zo_1 ml_X8_19 mi_X8_within mx_X8_within in_X8 mc_X8_within hy_X8_within ⟨by decide, by decide⟩ rfl (Nat.le_of_ble_eq_true rfl) ?_
      refine j_if_eq hK 55 dX8_standsInLine_48 (by decide) (fun hc => ?_) (fun hc => ?_)
      · replace hf := if_1 hc hf
        refine j_iconst hK (0 : Int32) dX8_standsInLine_55 ic_0 ?_
        exact j_zret hK dX8_standsInLine_56 rfl rfl (rt_I hA hf)
      · replace hf := if_2 hc hf
        refine j_iconst hK (1 : Int32) dX8_standsInLine_51 ic_1 ?_
        refine j_goto hK 56 dX8_standsInLine_52 (by decide) ?_
        exact j_zret hK dX8_standsInLine_56 rfl rfl (rt_I hA hf)
  · replace hf := if_2 hs1 hf
    by_cases hs5 : (p1 - p1 / (5 : Int32) * (5 : Int32)) = (1 : Int32)
    · replace hf := if_1 hs5 hf
      refine j_tabC hK (1 : Int32) 57 dX8_standsInLine_3 hs5 (by decide) rfl (by decide) ?_
      refine j_aload_n hK dX8_standsInLine_57 0 rfl rfl ?_
      refine j_iload_n hK dX8_standsInLine_58 1 rfl rfl ?_
      refine j_bipush hK (48 : Int32) dX8_standsInLine_59 bi_48 ?_
      refine j_bipush hK (55 : Int32) dX8_standsInLine_61 bi_55 ?_
      obtain ⟨r6, S7, h8, hf⟩ := bd_J hf
      refine k_callVi hK (c_X8_within h8) dX8_standsInLine_63 zclX8 zo_1 ml_X8_19 mi_X8_within mx_X8_within in_X8 mc_X8_within hy_X8_within ⟨by decide, by decide⟩ rfl (Nat.le_of_ble_eq_true rfl) ?_
      refine j_if_eq hK 88 dX8_standsInLine_66 (by decide) (fun hc => ?_) (fun hc => ?_)
      · replace hf := if_1 hc hf
        refine j_iconst hK (0 : Int32) dX8_standsInLine_88 ic_0 ?_
        exact j_zret hK dX8_standsInLine_89 rfl rfl (rt_I hA hf)
      · replace hf := if_2 hc hf
        refine j_aload_n hK dX8_standsInLine_69 0 rfl rfl ?_
        refine j_iload_n hK dX8_standsInLine_70 1 rfl rfl ?_
        obtain ⟨r9, S10, h11, hf⟩ := bd_J hf
        refine k_callVi hK (c_X8_digit h11) dX8_standsInLine_71 zclX8 zo_1 ml_X8_33 mi_X8_digit mx_X8_digit in_X8 mc_X8_digit hy_X8_digit ⟨by decide, by decide⟩ rfl (Nat.le_of_ble_eq_true rfl) ?_
        refine j_aload_n hK dX8_standsInLine_74 0 rfl rfl ?_
        refine j_iload_n hK dX8_standsInLine_75 1 rfl rfl ?_
        refine j_iconst hK (1 : Int32) dX8_standsInLine_76 ic_1 ?_
        refine j_isub hK dX8_standsInLine_77 ?_
        refine j_pc (pc' := 78) rfl ?_
        obtain ⟨r12, S13, h14, hf⟩ := bd_J hf
        refine k_callVi hK (c_X8_digit h14) dX8_standsInLine_78 zclX8 zo_1 ml_X8_33 mi_X8_digit mx_X8_digit in_X8 mc_X8_digit hy_X8_digit ⟨by decide, by decide⟩ rfl (Nat.le_of_ble_eq_true rfl) ?_
        refine j_icmp_eq hK 88 dX8_standsInLine_81 (by decide) (fun hc => ?_) (fun hc => ?_)
        · replace hf := if_1 hc hf
          refine j_iconst hK (0 : Int32) dX8_standsInLine_88 ic_0 ?_
          exact j_zret hK dX8_standsInLine_89 rfl rfl (rt_I hA hf)
        · replace hf := if_2 hc hf
          refine j_iconst hK (1 : Int32) dX8_standsInLine_84 ic_1 ?_
          refine j_goto hK 89 dX8_standsInLine_85 (by decide) ?_
          exact j_zret hK dX8_standsInLine_89 rfl rfl (rt_I hA hf)
    · replace hf := if_2 hs5 hf
      by_cases hs15 : (p1 - p1 / (5 : Int32) * (5 : Int32)) = (2 : Int32)
      · replace hf := if_1 hs15 hf
        refine j_tabC hK (2 : Int32) 90 dX8_standsInLine_3 hs15 (by decide) rfl (by decide) ?_
        refine j_aload_n hK dX8_standsInLine_90 0 rfl rfl ?_
        refine j_iload_n hK dX8_standsInLine_91 1 rfl rfl ?_
        refine j_bipush hK (49 : Int32) dX8_standsInLine_92 bi_49 ?_
        refine j_bipush hK (57 : Int32) dX8_standsInLine_94 bi_57 ?_
        obtain ⟨r16, S17, h18, hf⟩ := bd_J hf
        refine k_callVi hK (c_X8_within h18) dX8_standsInLine_96 zclX8 zo_1 ml_X8_19 mi_X8_within mx_X8_within in_X8 mc_X8_within hy_X8_within ⟨by decide, by decide⟩ rfl (Nat.le_of_ble_eq_true rfl) ?_
        obtain ⟨hz, hf⟩ := gd hf
        exact j_zret hK dX8_standsInLine_99 rfl (nz hz) (rt_I hA hf)
      · replace hf := if_2 hs15 hf
        by_cases hs19 : (p1 - p1 / (5 : Int32) * (5 : Int32)) = (3 : Int32)
        · replace hf := if_1 hs19 hf
          refine j_tabC hK (3 : Int32) 100 dX8_standsInLine_3 hs19 (by decide) rfl (by decide) ?_
          refine j_aload_n hK dX8_standsInLine_100 0 rfl rfl ?_
          refine j_iload_n hK dX8_standsInLine_101 1 rfl rfl ?_
          refine j_bipush hK (48 : Int32) dX8_standsInLine_102 bi_48 ?_
          refine j_bipush hK (57 : Int32) dX8_standsInLine_104 bi_57 ?_
          obtain ⟨r20, S21, h22, hf⟩ := bd_J hf
          refine k_callVi hK (c_X8_within h22) dX8_standsInLine_106 zclX8 zo_1 ml_X8_19 mi_X8_within mx_X8_within in_X8 mc_X8_within hy_X8_within ⟨by decide, by decide⟩ rfl (Nat.le_of_ble_eq_true rfl) ?_
          obtain ⟨hz, hf⟩ := gd hf
          exact j_zret hK dX8_standsInLine_109 rfl (nz hz) (rt_I hA hf)
        · replace hf := if_2 hs19 hf
          refine j_tabOut hK 110 dX8_standsInLine_3 (by have q := And.intro (ne_toInt 0 (by decide) hs1) (And.intro (ne_toInt 1 (by decide) hs5) (And.intro (ne_toInt 2 (by decide) hs15) (And.intro (ne_toInt 3 (by decide) hs19) trivial))); omega) (by decide) ?_
          refine j_aload_n hK dX8_standsInLine_110 0 rfl rfl ?_
          refine j_iload_n hK dX8_standsInLine_111 1 rfl rfl ?_
          refine j_bipush hK (59 : Int32) dX8_standsInLine_112 bi_59 ?_
          refine j_bipush hK (59 : Int32) dX8_standsInLine_114 bi_59 ?_
          obtain ⟨r23, S24, h25, hf⟩ := bd_J hf
          refine k_callVi hK (c_X8_within h25) dX8_standsInLine_116 zclX8 zo_1 ml_X8_19 mi_X8_within mx_X8_within in_X8 mc_X8_within hy_X8_within ⟨by decide, by decide⟩ rfl (Nat.le_of_ble_eq_true rfl) ?_
          obtain ⟨hz, hf⟩ := gd hf
          exact j_zret hK dX8_standsInLine_119 rfl (nz hz) (rt_I hA hf)
def f_X8_faultOfLines_60 (x2 : Int32) (S : St) : Option (Int32 × St) := some (x2, S)
theorem t_X8_faultOfLines_60 {K : CT} (hK : KO K cX8_faultOfLines RX8 4 3 (some .int)) {r : Int32} {S' : St} (hA : zans K (some (.int r), S')) {x2 : Int32} {S : St} (hf : f_X8_faultOfLines_60 x2 S = some (r, S')) : J K 60 [(2, .int x2)] [] S := by
  unfold f_X8_faultOfLines_60 at hf
  refine j_iload_n hK dX8_faultOfLines_60 0 rfl rfl ?_
  refine j_goto hK 65 dX8_faultOfLines_61 (by decide) ?_
  exact j_iret hK dX8_faultOfLines_65 rfl (rt_I hA hf)
def f_X8_faultOfLines_46 (x2 : Int32) (s0 : Int32) (S : St) : Option (Int32 × St) := (if s0 = 0 then (if (gI S 1 1) ≤ (59 : Int32) then some ((-1 : Int32), S) else f_X8_faultOfLines_60 x2 S) else f_X8_faultOfLines_60 x2 S)
theorem t_X8_faultOfLines_46 {K : CT} (hK : KO K cX8_faultOfLines RX8 4 3 (some .int)) {r : Int32} {S' : St} (hA : zans K (some (.int r), S')) {x2 : Int32} {s0 : Int32} {S : St} (hf : f_X8_faultOfLines_46 x2 s0 S = some (r, S')) : J K 46 [(0, .ref 1), (2, .int x2)] [.int s0] S := by
  unfold f_X8_faultOfLines_46 at hf
  refine j_istore_n hK (L' := [(3, .int s0), (0, .ref 1), (2, .int x2)]) dX8_faultOfLines_46 rfl (by decide) rfl ?_
  refine j_iload_n hK dX8_faultOfLines_47 0 rfl rfl ?_
  refine j_if_ne hK 60 dX8_faultOfLines_48 (by decide) (fun hc => ?_) (fun hc => ?_)
  · replace hf := if_2 hc hf
    refine j_sub [2] rfl ?_
    exact t_X8_faultOfLines_60 hK hA  hf
  · replace hf := if_1 hc hf
    refine j_aload_n hK dX8_faultOfLines_51 1 rfl rfl ?_
    refine j_getI hK fl_X8_15 dX8_faultOfLines_52 zo_1 zf_8_1 ?_
    refine j_bipush hK (59 : Int32) dX8_faultOfLines_55 bi_59 ?_
    refine j_icmp_le hK 64 dX8_faultOfLines_57 (by decide) (fun hc => ?_) (fun hc => ?_)
    · replace hf := if_1 hc hf
      refine j_iconst hK (-1 : Int32) dX8_faultOfLines_64 ic_m1 ?_
      exact j_iret hK dX8_faultOfLines_65 rfl (rt_I hA hf)
    · replace hf := if_2 hc hf
      refine j_sub [2] rfl ?_
      exact t_X8_faultOfLines_60 hK hA  hf
def f_X8_faultOfLines_12b (x1 : Int32) (x2 : Int32) (e : Int32 → St → Option (Int32 × St)) (k : Int32 → St → Option (Int32 × St)) (v : Int32) (S : St) : Option (Int32 × St) := (if x2 ≤ v then e v S else bd (f_X8_standsInLine v x1 S) (fun r1 S2 => (if r1 = 0 then some (v, S2) else k (v + (1 : Int32)) S2)))
theorem t_X8_faultOfLines_12 {K : CT} (hK : KO K cX8_faultOfLines RX8 4 3 (some .int)) {r : Int32} {S' : St} (hA : zans K (some (.int r), S')) {x1 : Int32} {x2 : Int32} {e : Int32 → St → Option (Int32 × St)} (he : ∀ (v : Int32) (S : St), e v S = some (r, S') → J K 34 [(0, .ref 1), (2, .int x2)] [] S) : ∀ (n : Nat) (v : Int32) (S : St), lp (f_X8_faultOfLines_12b x1 x2 e) n v S = some (r, S') → J K 12 [(0, .ref 1), (1, .int x1), (2, .int x2), (3, .int v)] [] S :=
  lp_J (P := fun (v : Int32) (S : St) => J K 12 [(0, .ref 1), (1, .int x1), (2, .int x2), (3, .int v)] [] S) (fun k hk v S hf => by
    unfold f_X8_faultOfLines_12b at hf
    refine j_iload_n hK dX8_faultOfLines_12 3 rfl rfl ?_
    refine j_iload_n hK dX8_faultOfLines_13 2 rfl rfl ?_
    refine j_icmp_ge hK 34 dX8_faultOfLines_14 (by decide) (fun hc => ?_) (fun hc => ?_)
    · replace hf := if_1 hc hf
      refine j_sub [0, 2] rfl ?_
      exact he _ _ hf
    · replace hf := if_2 hc hf
      refine j_aload_n hK dX8_faultOfLines_17 0 rfl rfl ?_
      refine j_iload_n hK dX8_faultOfLines_18 3 rfl rfl ?_
      refine j_iload_n hK dX8_faultOfLines_19 1 rfl rfl ?_
      obtain ⟨r1, S2, h3, hf⟩ := bd_J hf
      refine k_callVi hK (c_X8_standsInLine h3) dX8_faultOfLines_20 zclX8 zo_1 ml_X8_29 mi_X8_standsInLine mx_X8_standsInLine in_X8 mc_X8_standsInLine hy_X8_standsInLine ⟨by decide, by decide⟩ rfl (Nat.le_of_ble_eq_true rfl) ?_
      refine j_if_ne hK 28 dX8_faultOfLines_23 (by decide) (fun hc => ?_) (fun hc => ?_)
      · replace hf := if_2 hc hf
        refine j_iinc hK (L' := [(3, .int (v + (1 : Int32))), (0, .ref 1), (1, .int x1), (2, .int x2)]) dX8_faultOfLines_28 3 rfl (congrArg (fun y => v + y) ic_1) (by decide) rfl ?_
        refine j_goto hK 12 dX8_faultOfLines_31 (by decide) ?_
        refine j_sub [1, 2, 3, 0] rfl ?_
        exact hk _ _ hf
      · replace hf := if_1 hc hf
        refine j_iload_n hK dX8_faultOfLines_26 3 rfl rfl ?_
        exact j_iret hK dX8_faultOfLines_27 rfl (rt_I hA hf))
def f_X8_faultOfLines (p1 : Int32) (S : St) : Option (Int32 × St) := lt (mnI (gI S 1 1) (59 : Int32)) (fun y4 => lp (f_X8_faultOfLines_12b p1 y4 (fun v5 S6 => (if (y4 - y4 / (5 : Int32) * (5 : Int32)) = (4 : Int32) then f_X8_faultOfLines_46 y4 (0 : Int32) S6 else f_X8_faultOfLines_46 y4 (1 : Int32) S6))) FU (0 : Int32) S)
theorem c_X8_faultOfLines {p1 : Int32} {S : St} {r : Int32} {S' : St} (hf : f_X8_faultOfLines p1 S = some (r, S')) : zM yX8_faultOfLines cX8_faultOfLines 4 3 (some .int) [.ref 1, .int p1] S (some (.int r)) S' := by
  refine zM_of (zpl (by decide)) (Nat.le_of_ble_eq_true rfl) rfl (fun K hK hA => ?_)
  unfold f_X8_faultOfLines at hf
  refine j_aload_n hK dX8_faultOfLines_0 0 rfl rfl ?_
  refine j_getI hK fl_X8_15 dX8_faultOfLines_1 zo_1 zf_8_1 ?_
  refine j_bipush hK (59 : Int32) dX8_faultOfLines_4 bi_59 ?_
  refine j_min hK ml_X8_23 dX8_faultOfLines_6 (by decide) (Nat.le_of_ble_eq_true rfl) ?_
  refine lt_I hf (fun y4 hf => ?_)
  refine j_istore_n hK (L' := [(2, .int y4), (0, .ref 1), (1, .int p1)]) dX8_faultOfLines_9 rfl (by decide) rfl ?_
  refine j_iconst hK (0 : Int32) dX8_faultOfLines_10 ic_0 ?_
  refine j_istore_n hK (L' := [(3, .int (0 : Int32)), (2, .int y4), (0, .ref 1), (1, .int p1)]) dX8_faultOfLines_11 rfl (by decide) rfl ?_
  refine j_sub [2, 3, 1, 0] rfl ?_
  refine t_X8_faultOfLines_12 hK hA  (fun v5 S6 hf => ?_) _ _ _ hf
  refine j_iload_n hK dX8_faultOfLines_34 1 rfl rfl ?_
  refine j_iconst hK (5 : Int32) dX8_faultOfLines_35 ic_5 ?_
  refine j_irem hK dX8_faultOfLines_36 (by decide) ?_
  refine j_iconst hK (4 : Int32) dX8_faultOfLines_37 ic_4 ?_
  refine j_icmp_eq hK 45 dX8_faultOfLines_38 (by decide) (fun hc => ?_) (fun hc => ?_)
  · replace hf := if_1 hc hf
    refine j_iconst hK (0 : Int32) dX8_faultOfLines_45 ic_0 ?_
    exact t_X8_faultOfLines_46 hK hA  hf
  · replace hf := if_2 hc hf
    refine j_iconst hK (1 : Int32) dX8_faultOfLines_41 ic_1 ?_
    refine j_goto hK 46 dX8_faultOfLines_42 (by decide) ?_
    exact t_X8_faultOfLines_46 hK hA  hf
def f_X0_add (p1 : Int32) (p2 : Int32) (p3 : Int32) (p4 : Int32) (S : St) : Option (Unit × St) := (if (gI S 3 2) < (12 : Int32) then if inb (gI S 3 2) 12 then lt (sI S 4 (gI S 3 2).toNatClampNeg p1) (fun S2 => if inb (gI S2 3 2) 12 then lt (sI S2 5 (gI S2 3 2).toNatClampNeg p2) (fun S4 => if inb (gI S4 3 2) 12 then lt (sI S4 7 (gI S4 3 2).toNatClampNeg p3) (fun S6 => if inb (gI S6 3 2) 12 then lt (sI S6 8 (gI S6 3 2).toNatClampNeg p4) (fun S8 => if inb (gI S8 3 2) 12 then lt (sI S8 9 (gI S8 3 2).toNatClampNeg (0 : Int32)) (fun S10 => lt (sI S10 6 3 ((gI S10 6 3) ||| ((1 : Int32) <<< ((gI S10 3 2) &&& 31)))) (fun S11 => lt (sI S11 3 2 ((gI S11 3 2) + (1 : Int32))) (fun S12 => some ((), S12)))) else none) else none) else none) else none) else none else some ((), S))
theorem c_X0_add {p1 : Int32} {p2 : Int32} {p3 : Int32} {p4 : Int32} {S : St} {r : Unit} {S' : St} (hf : f_X0_add p1 p2 p3 p4 S = some (r, S')) : zM yX0_add cX0_add 5 1 none [.ref 3, .int p1, .int p2, .int p3, .int p4] S (none) S' := by
  refine zM_of (zpl (by decide)) (Nat.le_of_ble_eq_true rfl) rfl (fun K hK hA => ?_)
  unfold f_X0_add at hf
  refine j_aload_n hK dX0_add_0 0 rfl rfl ?_
  refine j_getI hK fl_X0_18 dX0_add_1 zo_3 zf_0_2 ?_
  refine j_bipush hK (12 : Int32) dX0_add_4 bi_12 ?_
  refine j_icmp_lt hK 10 dX0_add_6 (by decide) (fun hc => ?_) (fun hc => ?_)
  · replace hf := if_1 hc hf
    refine j_aload_n hK dX0_add_10 0 rfl rfl ?_
    refine j_getR hK fl_X0_9 dX0_add_11 zo_3 zf_0_0 zr_3_0 ?_
    refine j_aload_n hK dX0_add_14 0 rfl rfl ?_
    refine j_getI hK fl_X0_18 dX0_add_15 zo_3 zf_0_2 ?_
    refine j_iload_n hK dX0_add_18 1 rfl rfl ?_
    obtain ⟨hi1, hf⟩ := gd hf
    refine k_iast hK dX0_add_19 zb_4 hi1 rfl ?_
    refine lt_S hf (fun S2 hf => ?_)
    refine j_aload_n hK dX0_add_20 0 rfl rfl ?_
    refine j_pc (pc' := 21) rfl ?_
    refine j_getR hK fl_X0_15 dX0_add_21 zo_3 zf_0_1 zr_3_1 ?_
    refine j_aload_n hK dX0_add_24 0 rfl rfl ?_
    refine j_getI hK fl_X0_18 dX0_add_25 zo_3 zf_0_2 ?_
    refine j_iload_n hK dX0_add_28 2 rfl rfl ?_
    obtain ⟨hi3, hf⟩ := gd hf
    refine k_iast hK dX0_add_29 zb_5 hi3 rfl ?_
    refine lt_S hf (fun S4 hf => ?_)
    refine j_aload_n hK dX0_add_30 0 rfl rfl ?_
    refine j_getR hK fl_X0_25 dX0_add_31 zo_3 zf_0_3 zr_3_3 ?_
    refine j_getR hK fl_X0_29 dX0_add_34 zo_6 zf_7_0 zr_6_0 ?_
    refine j_pc (pc' := 37) rfl ?_
    refine j_aload_n hK dX0_add_37 0 rfl rfl ?_
    refine j_getI hK fl_X0_18 dX0_add_38 zo_3 zf_0_2 ?_
    refine j_iload_n hK dX0_add_41 3 rfl rfl ?_
    obtain ⟨hi5, hf⟩ := gd hf
    refine k_iast hK dX0_add_42 zb_7 hi5 rfl ?_
    refine lt_S hf (fun S6 hf => ?_)
    refine j_aload_n hK dX0_add_43 0 rfl rfl ?_
    refine j_getR hK fl_X0_25 dX0_add_44 zo_3 zf_0_3 zr_3_3 ?_
    refine j_getR hK fl_X0_32 dX0_add_47 zo_6 zf_7_1 zr_6_1 ?_
    refine j_aload_n hK dX0_add_50 0 rfl rfl ?_
    refine j_pc (pc' := 51) rfl ?_
    refine j_getI hK fl_X0_18 dX0_add_51 zo_3 zf_0_2 ?_
    refine j_iload hK dX0_add_54 4 rfl ?_
    obtain ⟨hi7, hf⟩ := gd hf
    refine k_iast hK dX0_add_56 zb_8 hi7 rfl ?_
    refine lt_S hf (fun S8 hf => ?_)
    refine j_aload_n hK dX0_add_57 0 rfl rfl ?_
    refine j_getR hK fl_X0_25 dX0_add_58 zo_3 zf_0_3 zr_3_3 ?_
    refine j_getR hK fl_X0_35 dX0_add_61 zo_6 zf_7_2 zr_6_2 ?_
    refine j_aload_n hK dX0_add_64 0 rfl rfl ?_
    refine j_getI hK fl_X0_18 dX0_add_65 zo_3 zf_0_2 ?_
    refine j_pc (pc' := 68) rfl ?_
    refine j_iconst hK (0 : Int32) dX0_add_68 ic_0 ?_
    obtain ⟨hi9, hf⟩ := gd hf
    refine k_iast hK dX0_add_69 zb_9 hi9 rfl ?_
    refine lt_S hf (fun S10 hf => ?_)
    refine j_aload_n hK dX0_add_70 0 rfl rfl ?_
    refine j_getR hK fl_X0_25 dX0_add_71 zo_3 zf_0_3 zr_3_3 ?_
    refine j_dup hK dX0_add_74 rfl ?_
    refine j_getI hK fl_X0_38 dX0_add_75 zo_6 zf_7_3 ?_
    refine j_iconst hK (1 : Int32) dX0_add_78 ic_1 ?_
    refine j_aload_n hK dX0_add_79 0 rfl rfl ?_
    refine j_pc (pc' := 80) rfl ?_
    refine j_getI hK fl_X0_18 dX0_add_80 zo_3 zf_0_2 ?_
    refine j_ishl hK dX0_add_83 ?_
    refine j_ior hK dX0_add_84 ?_
    refine j_putI hK fl_X0_38 dX0_add_85 zo_6 zf_7_3 ?_
    refine lt_S hf (fun S11 hf => ?_)
    refine j_aload_n hK dX0_add_88 0 rfl rfl ?_
    refine j_dup hK dX0_add_89 rfl ?_
    refine j_getI hK fl_X0_18 dX0_add_90 zo_3 zf_0_2 ?_
    refine j_iconst hK (1 : Int32) dX0_add_93 ic_1 ?_
    refine j_pc (pc' := 94) rfl ?_
    refine j_iadd hK dX0_add_94 ?_
    refine j_putI hK fl_X0_18 dX0_add_95 zo_3 zf_0_2 ?_
    refine lt_S hf (fun S12 hf => ?_)
    exact j_vret hK dX0_add_98 rfl (rt_V hA hf)
  · replace hf := if_2 hc hf
    exact j_vret hK dX0_add_9 rfl (rt_V hA hf)
def f_X4_lose_7b (e : Int32 → St → Option (Unit × St)) (k : Int32 → St → Option (Unit × St)) (v : Int32) (S : St) : Option (Unit × St) := (if (3 : Int32) ≤ v then e v S else if inb v 3 then lt (sI S 91 v.toNatClampNeg (vp_nar .boolean (0 : Int32))) (fun S2 => k (v + (1 : Int32)) S2) else none)
theorem t_X4_lose_7 {K : CT} (hK : KO K cX4_lose RX4 2 1 none) {r : Unit} {S' : St} (hA : zans K (none, S')) {e : Int32 → St → Option (Unit × St)} (he : ∀ (v : Int32) (S : St), e v S = some (r, S') → J K 25 [] [] S) : ∀ (n : Nat) (v : Int32) (S : St), lp (f_X4_lose_7b  e) n v S = some (r, S') → J K 7 [(0, .ref 12), (1, .int v)] [] S :=
  lp_J (P := fun (v : Int32) (S : St) => J K 7 [(0, .ref 12), (1, .int v)] [] S) (fun k hk v S hf => by
    unfold f_X4_lose_7b at hf
    refine j_iload_n hK dX4_lose_7 1 rfl rfl ?_
    refine j_iconst hK (3 : Int32) dX4_lose_8 ic_3 ?_
    refine j_icmp_ge hK 25 dX4_lose_9 (by decide) (fun hc => ?_) (fun hc => ?_)
    · replace hf := if_1 hc hf
      refine j_sub [] rfl ?_
      exact he _ _ hf
    · replace hf := if_2 hc hf
      refine j_aload_n hK dX4_lose_12 0 rfl rfl ?_
      refine j_getR hK fl_X4_26 dX4_lose_13 zo_12 zf_4_4 zr_12_4 ?_
      refine j_iload_n hK dX4_lose_16 1 rfl rfl ?_
      refine j_iconst hK (0 : Int32) dX4_lose_17 ic_0 ?_
      obtain ⟨hi1, hf⟩ := gd hf
      refine k_zast hK dX4_lose_18 zb_91 hi1 rfl ?_
      refine lt_S hf (fun S2 hf => ?_)
      refine j_iinc hK (L' := [(1, .int (v + (1 : Int32))), (0, .ref 12)]) dX4_lose_19 1 rfl (congrArg (fun y => v + y) ic_1) (by decide) rfl ?_
      refine j_goto hK 7 dX4_lose_22 (by decide) ?_
      refine j_sub [1, 0] rfl ?_
      exact hk _ _ hf)
def f_X4_lose (S : St) : Option (Unit × St) := lt (sI S 12 2 (0 : Int32)) (fun S3 => lp (f_X4_lose_7b  (fun v4 S5 => some ((), S5))) FU (0 : Int32) S3)
theorem c_X4_lose {S : St} {r : Unit} {S' : St} (hf : f_X4_lose S = some (r, S')) : zM yX4_lose cX4_lose 2 1 none [.ref 12] S (none) S' := by
  refine zM_of (zpl (by decide)) (Nat.le_of_ble_eq_true rfl) rfl (fun K hK hA => ?_)
  unfold f_X4_lose at hf
  refine j_aload_n hK dX4_lose_0 0 rfl rfl ?_
  refine j_iconst hK (0 : Int32) dX4_lose_1 ic_0 ?_
  refine j_putI hK fl_X4_20 dX4_lose_2 zo_12 zf_4_2 ?_
  refine lt_S hf (fun S3 hf => ?_)
  refine j_iconst hK (0 : Int32) dX4_lose_5 ic_0 ?_
  refine j_istore_n hK (L' := [(1, .int (0 : Int32)), (0, .ref 12)]) dX4_lose_6 rfl (by decide) rfl ?_
  refine j_sub [1, 0] rfl ?_
  refine t_X4_lose_7 hK hA  (fun v4 S5 hf => ?_) _ _ _ hf
  exact j_vret hK dX4_lose_25 rfl (rt_V hA hf)
def f_X10_passages_60b (x1 : Int32) (x3 : Int32) (e : Int32 → St → Option (Int32 × St)) (k : Int32 → St → Option (Int32 × St)) (v : Int32) (S : St) : Option (Int32 × St) := (if x1 ≤ v then e v S else bd (f_X8_digit v S) (fun r1 S2 => bd (f_X8_digit (v + (1 : Int32)) S2) (fun r4 S5 => bd (f_X8_digit (v + (2 : Int32)) S5) (fun r7 S8 => bd (f_X8_digit (v + (3 : Int32)) S8) (fun r10 S11 => bd (f_X0_add r1 r4 r7 r10 S11) (fun r13 S14 => k (v + (5 : Int32)) S14))))))
theorem t_X10_passages_60 {K : CT} (hK : KO K cX10_passages RX10 5 4 (some .int)) {r : Int32} {S' : St} (hA : zans K (some (.int r), S')) {x1 : Int32} {x3 : Int32} {e : Int32 → St → Option (Int32 × St)} (he : ∀ (v : Int32) (S : St), e v S = some (r, S') → J K 121 [(0, .ref 0), (3, .int x3)] [] S) : ∀ (n : Nat) (v : Int32) (S : St), lp (f_X10_passages_60b x1 x3 e) n v S = some (r, S') → J K 60 [(0, .ref 0), (1, .int x1), (3, .int x3), (4, .int v)] [] S :=
  lp_J (P := fun (v : Int32) (S : St) => J K 60 [(0, .ref 0), (1, .int x1), (3, .int x3), (4, .int v)] [] S) (fun k hk v S hf => by
    unfold f_X10_passages_60b at hf
    refine j_iload hK dX10_passages_60 3 rfl ?_
    refine j_iload_n hK dX10_passages_62 1 rfl rfl ?_
    refine j_icmp_ge hK 121 dX10_passages_63 (by decide) (fun hc => ?_) (fun hc => ?_)
    · replace hf := if_1 hc hf
      refine j_sub [0, 2] rfl ?_
      exact he _ _ hf
    · replace hf := if_2 hc hf
      refine j_aload_n hK dX10_passages_66 0 rfl rfl ?_
      refine j_getR hK fl_X10_19 dX10_passages_67 zo_0 zf_10_1 zr_0_1 ?_
      refine j_aload_n hK dX10_passages_70 0 rfl rfl ?_
      refine j_getR hK fl_X10_10 dX10_passages_71 zo_0 zf_10_0 zr_0_0 ?_
      refine j_iload hK dX10_passages_74 3 rfl ?_
      obtain ⟨r1, S2, h3, hf⟩ := bd_J hf
      refine k_callVi hK (c_X8_digit h3) dX10_passages_76 zclX8 zo_1 ml_X10_102 mi_X8_digit mx_X8_digit in_X8 mc_X8_digit hy_X8_digit ⟨by decide, by decide⟩ rfl (Nat.le_of_ble_eq_true rfl) ?_
      refine j_aload_n hK dX10_passages_79 0 rfl rfl ?_
      refine j_pc (pc' := 80) rfl ?_
      refine j_getR hK fl_X10_10 dX10_passages_80 zo_0 zf_10_0 zr_0_0 ?_
      refine j_iload hK dX10_passages_83 3 rfl ?_
      refine j_iconst hK (1 : Int32) dX10_passages_85 ic_1 ?_
      refine j_iadd hK dX10_passages_86 ?_
      obtain ⟨r4, S5, h6, hf⟩ := bd_J hf
      refine k_callVi hK (c_X8_digit h6) dX10_passages_87 zclX8 zo_1 ml_X10_102 mi_X8_digit mx_X8_digit in_X8 mc_X8_digit hy_X8_digit ⟨by decide, by decide⟩ rfl (Nat.le_of_ble_eq_true rfl) ?_
      refine j_aload_n hK dX10_passages_90 0 rfl rfl ?_
      refine j_getR hK fl_X10_10 dX10_passages_91 zo_0 zf_10_0 zr_0_0 ?_
      refine j_iload hK dX10_passages_94 3 rfl ?_
      refine j_pc (pc' := 96) rfl ?_
      refine j_iconst hK (2 : Int32) dX10_passages_96 ic_2 ?_
      refine j_iadd hK dX10_passages_97 ?_
      obtain ⟨r7, S8, h9, hf⟩ := bd_J hf
      refine k_callVi hK (c_X8_digit h9) dX10_passages_98 zclX8 zo_1 ml_X10_102 mi_X8_digit mx_X8_digit in_X8 mc_X8_digit hy_X8_digit ⟨by decide, by decide⟩ rfl (Nat.le_of_ble_eq_true rfl) ?_
      refine j_aload_n hK dX10_passages_101 0 rfl rfl ?_
      refine j_getR hK fl_X10_10 dX10_passages_102 zo_0 zf_10_0 zr_0_0 ?_
      refine j_iload hK dX10_passages_105 3 rfl ?_
      refine j_iconst hK (3 : Int32) dX10_passages_107 ic_3 ?_
      refine j_iadd hK dX10_passages_108 ?_
      refine j_pc (pc' := 109) rfl ?_
      obtain ⟨r10, S11, h12, hf⟩ := bd_J hf
      refine k_callVi hK (c_X8_digit h12) dX10_passages_109 zclX8 zo_1 ml_X10_102 mi_X8_digit mx_X8_digit in_X8 mc_X8_digit hy_X8_digit ⟨by decide, by decide⟩ rfl (Nat.le_of_ble_eq_true rfl) ?_
      obtain ⟨r13, S14, h15, hf⟩ := bd_J hf
      refine k_callVv hK (c_X0_add h15) dX10_passages_112 zclX0 zo_3 ml_X10_105 mi_X0_add mx_X0_add in_X0 mc_X0_add hy_X0_add ⟨by decide, by decide⟩ rfl (Nat.le_of_ble_eq_true rfl) ?_
      refine j_iinc hK (L' := [(4, .int (v + (5 : Int32))), (0, .ref 0), (1, .int x1), (3, .int x3)]) dX10_passages_115 3 rfl (congrArg (fun y => v + y) ic_5) (by decide) rfl ?_
      refine j_goto hK 60 dX10_passages_118 (by decide) ?_
      refine j_sub [1, 2, 3, 0] rfl ?_
      exact hk _ _ hf)
def f_X10_passages (S : St) : Option (Int32 × St) := lt (gI S 1 1) (fun y16 => (if y16 = 0 then some ((0 : Int32), S) else bd (f_X8_faultOfLines ((12 : Int32) - (gI S 3 2)) S) (fun r17 S18 => lt (sI S18 1 1 (0 : Int32)) (fun S20 => (if r17 = (-1 : Int32) then lt (gI S20 3 2) (fun y21 => lp (f_X10_passages_60b y16 y21 (fun v22 S23 => bd (f_X4_lose S23) (fun r24 S25 => some (((gI S25 3 2) - y21), S25)))) FU (0 : Int32) S20) else some (((-1 : Int32) - r17), S20))))))
theorem c_X10_passages {S : St} {r : Int32} {S' : St} (hf : f_X10_passages S = some (r, S')) : zM yX10_passages cX10_passages 5 4 (some .int) [.ref 0] S (some (.int r)) S' := by
  refine zM_of (zpl (by decide)) (Nat.le_of_ble_eq_true rfl) rfl (fun K hK hA => ?_)
  unfold f_X10_passages at hf
  refine j_aload_n hK dX10_passages_0 0 rfl rfl ?_
  refine j_getR hK fl_X10_10 dX10_passages_1 zo_0 zf_10_0 zr_0_0 ?_
  refine j_getI hK fl_X10_88 dX10_passages_4 zo_1 zf_8_1 ?_
  refine lt_I hf (fun y16 hf => ?_)
  refine j_istore_n hK (L' := [(1, .int y16), (0, .ref 0)]) dX10_passages_7 rfl (by decide) rfl ?_
  refine j_iload_n hK dX10_passages_8 0 rfl rfl ?_
  refine j_if_ne hK 14 dX10_passages_9 (by decide) (fun hc => ?_) (fun hc => ?_)
  · replace hf := if_2 hc hf
    refine j_aload_n hK dX10_passages_14 1 rfl rfl ?_
    refine j_getR hK fl_X10_10 dX10_passages_15 zo_0 zf_10_0 zr_0_0 ?_
    refine j_bipush hK (12 : Int32) dX10_passages_18 bi_12 ?_
    refine j_aload_n hK dX10_passages_20 1 rfl rfl ?_
    refine j_getR hK fl_X10_19 dX10_passages_21 zo_0 zf_10_1 zr_0_1 ?_
    refine j_getI hK fl_X10_95 dX10_passages_24 zo_3 zf_0_2 ?_
    refine j_isub hK dX10_passages_27 ?_
    refine j_pc (pc' := 28) rfl ?_
    obtain ⟨r17, S18, h19, hf⟩ := bd_J hf
    refine k_callVi hK (c_X8_faultOfLines h19) dX10_passages_28 zclX8 zo_1 ml_X10_98 mi_X8_faultOfLines mx_X8_faultOfLines in_X8 mc_X8_faultOfLines hy_X8_faultOfLines ⟨by decide, by decide⟩ rfl (Nat.le_of_ble_eq_true rfl) ?_
    refine j_istore_n hK (L' := [(2, .int r17), (1, .int y16), (0, .ref 0)]) dX10_passages_31 rfl (by decide) rfl ?_
    refine j_aload_n hK dX10_passages_32 2 rfl rfl ?_
    refine j_getR hK fl_X10_10 dX10_passages_33 zo_0 zf_10_0 zr_0_0 ?_
    refine j_iconst hK (0 : Int32) dX10_passages_36 ic_0 ?_
    refine j_putI hK fl_X10_88 dX10_passages_37 zo_1 zf_8_1 ?_
    refine lt_S hf (fun S20 hf => ?_)
    refine j_iload_n hK dX10_passages_40 0 rfl rfl ?_
    refine j_iconst hK (-1 : Int32) dX10_passages_41 ic_m1 ?_
    refine j_pc (pc' := 42) rfl ?_
    refine j_icmp_eq hK 49 dX10_passages_42 (by decide) (fun hc => ?_) (fun hc => ?_)
    · replace hf := if_1 hc hf
      refine j_aload_n hK dX10_passages_49 2 rfl rfl ?_
      refine j_getR hK fl_X10_19 dX10_passages_50 zo_0 zf_10_1 zr_0_1 ?_
      refine j_getI hK fl_X10_95 dX10_passages_53 zo_3 zf_0_2 ?_
      refine lt_I hf (fun y21 hf => ?_)
      refine j_istore_n hK (L' := [(3, .int y21), (2, .int r17), (1, .int y16), (0, .ref 0)]) dX10_passages_56 rfl (by decide) rfl ?_
      refine j_iconst hK (0 : Int32) dX10_passages_57 ic_0 ?_
      refine j_istore hK (L' := [(4, .int (0 : Int32)), (3, .int y21), (2, .int r17), (1, .int y16), (0, .ref 0)]) dX10_passages_58 (by decide) rfl ?_
      refine j_sub [4, 3, 1, 0] rfl ?_
      refine t_X10_passages_60 hK hA  (fun v22 S23 hf => ?_) _ _ _ hf
      refine j_aload_n hK dX10_passages_121 0 rfl rfl ?_
      refine j_getR hK fl_X10_33 dX10_passages_122 zo_0 zf_10_3 zr_0_3 ?_
      obtain ⟨r24, S25, h26, hf⟩ := bd_J hf
      refine k_callVv hK (c_X4_lose h26) dX10_passages_125 zclX4 zo_12 ml_X10_109 mi_X4_lose mx_X4_lose in_X4 mc_X4_lose hy_X4_lose ⟨by decide, by decide⟩ rfl (Nat.le_of_ble_eq_true rfl) ?_
      refine j_aload_n hK dX10_passages_128 0 rfl rfl ?_
      refine j_getR hK fl_X10_19 dX10_passages_129 zo_0 zf_10_1 zr_0_1 ?_
      refine j_getI hK fl_X10_95 dX10_passages_132 zo_3 zf_0_2 ?_
      refine j_iload_n hK dX10_passages_135 1 rfl rfl ?_
      refine j_pc (pc' := 136) rfl ?_
      refine j_isub hK dX10_passages_136 ?_
      exact j_iret hK dX10_passages_137 rfl (rt_I hA hf)
    · replace hf := if_2 hc hf
      refine j_iconst hK (-1 : Int32) dX10_passages_45 ic_m1 ?_
      refine j_iload_n hK dX10_passages_46 0 rfl rfl ?_
      refine j_isub hK dX10_passages_47 ?_
      exact j_iret hK dX10_passages_48 rfl (rt_I hA hf)
  · replace hf := if_1 hc hf
    refine j_iconst hK (0 : Int32) dX10_passages_12 ic_0 ?_
    exact j_iret hK dX10_passages_13 rfl (rt_I hA hf)
def f_X6_hold (o : Nat) (p1 : Int32) (S : St) : Option (Unit × St) := (if (40 : Int32) ≤ (gI S o 3) then some ((), S) else if inb (gI S o 3) 40 then lt (sI S (o + 2) (gI S o 3).toNatClampNeg (vp_nar .char p1)) (fun S2 => lt (sI S2 o 3 ((gI S2 o 3) + (1 : Int32))) (fun S3 => some ((), S3))) else none)
theorem c_X6_hold {o : Nat} (ho : isRule o) {p1 : Int32} {S : St} {r : Unit} {S' : St} (hf : f_X6_hold o p1 S = some (r, S')) : zM yX6_hold cX6_hold 2 1 none [.ref o, .int p1] S (none) S' := by
  refine zM_of (zpl (by decide)) (Nat.le_of_ble_eq_true rfl) rfl (fun K hK hA => ?_)
  unfold f_X6_hold at hf
  refine j_aload_n hK dX6_hold_0 0 rfl rfl ?_
  refine j_getI hK fl_X6_23 dX6_hold_1 (ru_o ho) zf_6_3 ?_
  refine j_bipush hK (40 : Int32) dX6_hold_4 bi_40 ?_
  refine j_icmp_ge hK 29 dX6_hold_6 (by decide) (fun hc => ?_) (fun hc => ?_)
  · replace hf := if_1 hc hf
    exact j_vret hK dX6_hold_29 rfl (rt_V hA hf)
  · replace hf := if_2 hc hf
    refine j_aload_n hK dX6_hold_9 0 rfl rfl ?_
    refine j_getR hK fl_X6_19 dX6_hold_10 (ru_o ho) zf_6_2 (ru_r2 ho) ?_
    refine j_aload_n hK dX6_hold_13 0 rfl rfl ?_
    refine j_getI hK fl_X6_23 dX6_hold_14 (ru_o ho) zf_6_3 ?_
    refine j_iload_n hK dX6_hold_17 1 rfl rfl ?_
    obtain ⟨hi1, hf⟩ := gd hf
    refine k_cast hK dX6_hold_18 (ru_b2 ho) hi1 rfl ?_
    refine lt_S hf (fun S2 hf => ?_)
    refine j_aload_n hK dX6_hold_19 0 rfl rfl ?_
    refine j_pc (pc' := 20) rfl ?_
    refine j_dup hK dX6_hold_20 rfl ?_
    refine j_getI hK fl_X6_23 dX6_hold_21 (ru_o ho) zf_6_3 ?_
    refine j_iconst hK (1 : Int32) dX6_hold_24 ic_1 ?_
    refine j_iadd hK dX6_hold_25 ?_
    refine j_putI hK fl_X6_23 dX6_hold_26 (ru_o ho) zf_6_3 ?_
    refine lt_S hf (fun S3 hf => ?_)
    exact j_vret hK dX6_hold_29 rfl (rt_V hA hf)
def f_J0_isLatin1_aae02 (si : Nat) (S : St) : Option (Int32 × St) := (if (1 : Int32) = 0 then some ((0 : Int32), S) else (if (0 : Int32) = 0 then some ((1 : Int32), S) else some ((0 : Int32), S)))
theorem c_J0_isLatin1_aae02 {si : Nat} (hsi : isStr si) {S : St} {r : Int32} {S' : St} (hf : f_J0_isLatin1_aae02 si S = some (r, S')) : zM yJ0_isLatin1_aae02 cJ0_isLatin1_aae02 1 1 (some .boolean) [.ref (1000 + si)] S (some (.int r)) S' := by
  refine zM_of (zpl (by decide)) (Nat.le_of_ble_eq_true rfl) rfl (fun K hK hA => ?_)
  unfold f_J0_isLatin1_aae02 at hf
  refine j_gsZ hK fj_38 dJ0_isLatin1_aae02_0 ?_
  refine j_if_eq hK 17 dJ0_isLatin1_aae02_3 (by decide) (fun hc => ?_) (fun hc => ?_)
  · replace hf := if_1 hc hf
    refine j_iconst hK (0 : Int32) dJ0_isLatin1_aae02_17 ic_0 ?_
    exact j_zret hK dJ0_isLatin1_aae02_18 rfl rfl (rt_I hA hf)
  · replace hf := if_2 hc hf
    refine j_aload_n hK dJ0_isLatin1_aae02_6 0 rfl rfl ?_
    refine j_gfC hK hsi fj_15 dJ0_isLatin1_aae02_7 ?_
    refine j_if_ne hK 17 dJ0_isLatin1_aae02_10 (by decide) (fun hc => ?_) (fun hc => ?_)
    · replace hf := if_2 hc hf
      refine j_iconst hK (0 : Int32) dJ0_isLatin1_aae02_17 ic_0 ?_
      exact j_zret hK dJ0_isLatin1_aae02_18 rfl rfl (rt_I hA hf)
    · replace hf := if_1 hc hf
      refine j_iconst hK (1 : Int32) dJ0_isLatin1_aae02_13 ic_1 ?_
      refine j_goto hK 18 dJ0_isLatin1_aae02_14 (by decide) ?_
      exact j_zret hK dJ0_isLatin1_aae02_18 rfl rfl (rt_I hA hf)
def f_J0_coder_7d493 (si : Nat) (S : St) : Option (Int32 × St) := (if (1 : Int32) = 0 then some ((1 : Int32), S) else some ((0 : Int32), S))
theorem c_J0_coder_7d493 {si : Nat} (hsi : isStr si) {S : St} {r : Int32} {S' : St} (hf : f_J0_coder_7d493 si S = some (r, S')) : zM yJ0_coder_7d493 cJ0_coder_7d493 1 1 (some .byte) [.ref (1000 + si)] S (some (.int r)) S' := by
  refine zM_of (zpl (by decide)) (Nat.le_of_ble_eq_true rfl) rfl (fun K hK hA => ?_)
  unfold f_J0_coder_7d493 at hf
  refine j_gsZ hK fj_38 dJ0_coder_7d493_0 ?_
  refine j_if_eq hK 13 dJ0_coder_7d493_3 (by decide) (fun hc => ?_) (fun hc => ?_)
  · replace hf := if_1 hc hf
    refine j_iconst hK (1 : Int32) dJ0_coder_7d493_13 ic_1 ?_
    exact j_zret hK dJ0_coder_7d493_14 rfl rfl (rt_I hA hf)
  · replace hf := if_2 hc hf
    refine j_aload_n hK dJ0_coder_7d493_6 0 rfl rfl ?_
    refine j_gfC hK hsi fj_15 dJ0_coder_7d493_7 ?_
    refine j_goto hK 14 dJ0_coder_7d493_10 (by decide) ?_
    exact j_zret hK dJ0_coder_7d493_14 rfl rfl (rt_I hA hf)
def f_J0_length_8abf5 (si : Nat) (S : St) : Option (Int32 × St) := bd (f_J0_coder_7d493 si S) (fun r1 S2 => some (((nI (yL si)) >>> (r1 &&& 31)), S2))
theorem c_J0_length_8abf5 {si : Nat} (hsi : isStr si) {S : St} {r : Int32} {S' : St} (hf : f_J0_length_8abf5 si S = some (r, S')) : zM yJ0_length_8abf5 cJ0_length_8abf5 1 2 (some .int) [.ref (1000 + si)] S (some (.int r)) S' := by
  refine zM_of (zpl (by decide)) (Nat.le_of_ble_eq_true rfl) rfl (fun K hK hA => ?_)
  unfold f_J0_length_8abf5 at hf
  refine j_aload_n hK dJ0_length_8abf5_0 0 rfl rfl ?_
  refine j_gfV hK hsi fj_9 dJ0_length_8abf5_1 ?_
  refine j_ylen hK hsi dJ0_length_8abf5_4 ?_
  refine j_aload_n hK dJ0_length_8abf5_5 0 rfl rfl ?_
  obtain ⟨r1, S2, h3, hf⟩ := bd_J hf
  refine k_callTi hK (c_J0_coder_7d493 hsi h3) dJ0_length_8abf5_6 hsi rfl ml_J0_335 mi_J0_coder_7d493 mx_J0_coder_7d493 in_J0 mc_J0_coder_7d493 hy_J0_coder_7d493 ⟨by decide, by decide⟩ rfl (Nat.le_of_ble_eq_true rfl) ?_
  refine j_ishr hK dJ0_length_8abf5_9 ?_
  exact j_iret hK dJ0_length_8abf5_10 rfl (rt_I hA hf)
def f_J1_canEncode_9a6ad (p0 : Int32) (S : St) : Option (Int32 × St) := (if p0 < 0 then some ((0 : Int32), S) else (if (255 : Int32) < p0 then some ((0 : Int32), S) else some ((1 : Int32), S)))
theorem c_J1_canEncode_9a6ad {p0 : Int32} {S : St} {r : Int32} {S' : St} (hf : f_J1_canEncode_9a6ad p0 S = some (r, S')) : zM yJ1_canEncode_9a6ad cJ1_canEncode_9a6ad 1 1 (some .boolean) [.int p0] S (some (.int r)) S' := by
  refine zM_of (zpl (by decide)) (Nat.le_of_ble_eq_true rfl) rfl (fun K hK hA => ?_)
  unfold f_J1_canEncode_9a6ad at hf
  refine j_iload_n hK dJ1_canEncode_9a6ad_0 0 rfl rfl ?_
  refine j_if_lt hK 15 dJ1_canEncode_9a6ad_1 (by decide) (fun hc => ?_) (fun hc => ?_)
  · replace hf := if_1 hc hf
    refine j_iconst hK (0 : Int32) dJ1_canEncode_9a6ad_15 ic_0 ?_
    exact j_zret hK dJ1_canEncode_9a6ad_16 rfl rfl (rt_I hA hf)
  · replace hf := if_2 hc hf
    refine j_iload_n hK dJ1_canEncode_9a6ad_4 0 rfl rfl ?_
    refine j_sipush hK (255 : Int32) dJ1_canEncode_9a6ad_5 si_255 ?_
    refine j_icmp_gt hK 15 dJ1_canEncode_9a6ad_8 (by decide) (fun hc => ?_) (fun hc => ?_)
    · replace hf := if_1 hc hf
      refine j_iconst hK (0 : Int32) dJ1_canEncode_9a6ad_15 ic_0 ?_
      exact j_zret hK dJ1_canEncode_9a6ad_16 rfl rfl (rt_I hA hf)
    · replace hf := if_2 hc hf
      refine j_iconst hK (1 : Int32) dJ1_canEncode_9a6ad_11 ic_1 ?_
      refine j_goto hK 16 dJ1_canEncode_9a6ad_12 (by decide) ?_
      exact j_zret hK dJ1_canEncode_9a6ad_16 rfl rfl (rt_I hA hf)
def f_J1_indexOfChar_4cfef_7b (si : Nat) (x3 : Int32) (x4 : Int32) (e : Int32 → St → Option (Int32 × St)) (k : Int32 → St → Option (Int32 × St)) (v : Int32) (S : St) : Option (Int32 × St) := (if x3 ≤ v then e v S else if inb v (yL si) then (if (yB si v.toNatClampNeg) = x4 then some (v, S) else k (v + (1 : Int32)) S) else none)
theorem t_J1_indexOfChar_4cfef_7 {K : CT} (hK : KO K cJ1_indexOfChar_4cfef RJ1 6 1 (some .int)) {r : Int32} {S' : St} (hA : zans K (some (.int r), S')) {si : Nat} (hsi : isStr si) {x3 : Int32} {x4 : Int32} {e : Int32 → St → Option (Int32 × St)} (he : ∀ (v : Int32) (S : St), e v S = some (r, S') → J K 31 [] [] S) : ∀ (n : Nat) (v : Int32) (S : St), lp (f_J1_indexOfChar_4cfef_7b si x3 x4 e) n v S = some (r, S') → J K 7 [(0, .ref (1010 + si)), (3, .int x3), (4, .int x4), (5, .int v)] [] S :=
  lp_J (P := fun (v : Int32) (S : St) => J K 7 [(0, .ref (1010 + si)), (3, .int x3), (4, .int x4), (5, .int v)] [] S) (fun k hk v S hf => by
    unfold f_J1_indexOfChar_4cfef_7b at hf
    refine j_iload hK dJ1_indexOfChar_4cfef_7 3 rfl ?_
    refine j_iload_n hK dJ1_indexOfChar_4cfef_9 1 rfl rfl ?_
    refine j_icmp_ge hK 31 dJ1_indexOfChar_4cfef_10 (by decide) (fun hc => ?_) (fun hc => ?_)
    · replace hf := if_1 hc hf
      refine j_sub [] rfl ?_
      exact he _ _ hf
    · replace hf := if_2 hc hf
      refine j_aload_n hK dJ1_indexOfChar_4cfef_13 0 rfl rfl ?_
      refine j_iload hK dJ1_indexOfChar_4cfef_14 3 rfl ?_
      obtain ⟨hi1, hf⟩ := gd hf
      refine j_yald hK hsi dJ1_indexOfChar_4cfef_16 hi1 ?_
      refine j_iload hK dJ1_indexOfChar_4cfef_17 2 rfl ?_
      refine j_icmp_ne hK 25 dJ1_indexOfChar_4cfef_19 (by decide) (fun hc => ?_) (fun hc => ?_)
      · replace hf := if_2 hc hf
        refine j_iinc hK (L' := [(5, .int (v + (1 : Int32))), (0, .ref (1010 + si)), (3, .int x3), (4, .int x4)]) dJ1_indexOfChar_4cfef_25 3 rfl (congrArg (fun y => v + y) ic_1) (by decide) rfl ?_
        refine j_goto hK 7 dJ1_indexOfChar_4cfef_28 (by decide) ?_
        refine j_sub [1, 2, 3, 0] rfl ?_
        exact hk _ _ hf
      · replace hf := if_1 hc hf
        refine j_iload hK dJ1_indexOfChar_4cfef_22 3 rfl ?_
        exact j_iret hK dJ1_indexOfChar_4cfef_24 rfl (rt_I hA hf))
def f_J1_indexOfChar_4cfef (si : Nat) (p1 : Int32) (p2 : Int32) (p3 : Int32) (S : St) : Option (Int32 × St) := lt (p1).toInt8.toInt32 (fun y2 => lp (f_J1_indexOfChar_4cfef_7b si p3 y2 (fun v3 S4 => some ((-1 : Int32), S4))) FU p2 S)
theorem c_J1_indexOfChar_4cfef {si : Nat} (hsi : isStr si) {p1 : Int32} {p2 : Int32} {p3 : Int32} {S : St} {r : Int32} {S' : St} (hf : f_J1_indexOfChar_4cfef si p1 p2 p3 S = some (r, S')) : zM yJ1_indexOfChar_4cfef cJ1_indexOfChar_4cfef 6 1 (some .int) [.ref (1010 + si), .int p1, .int p2, .int p3] S (some (.int r)) S' := by
  refine zM_of (zpl (by decide)) (Nat.le_of_ble_eq_true rfl) rfl (fun K hK hA => ?_)
  unfold f_J1_indexOfChar_4cfef at hf
  refine j_iload_n hK dJ1_indexOfChar_4cfef_0 1 rfl rfl ?_
  refine j_i2b hK dJ1_indexOfChar_4cfef_1 ?_
  refine lt_I hf (fun y2 hf => ?_)
  refine j_istore hK (L' := [(4, .int y2), (0, .ref (1010 + si)), (1, .int p1), (2, .int p2), (3, .int p3)]) dJ1_indexOfChar_4cfef_2 (by decide) rfl ?_
  refine j_iload_n hK dJ1_indexOfChar_4cfef_4 3 rfl rfl ?_
  refine j_istore hK (L' := [(5, .int p2), (4, .int y2), (0, .ref (1010 + si)), (1, .int p1), (2, .int p2), (3, .int p3)]) dJ1_indexOfChar_4cfef_5 (by decide) rfl ?_
  refine j_sub [2, 5, 1, 0] rfl ?_
  refine t_J1_indexOfChar_4cfef_7 hK hA hsi (fun v3 S4 hf => ?_) _ _ _ hf
  refine j_iconst hK (-1 : Int32) dJ1_indexOfChar_4cfef_31 ic_m1 ?_
  exact j_iret hK dJ1_indexOfChar_4cfef_32 rfl (rt_I hA hf)
def f_J1_indexOf_4cfef (si : Nat) (p1 : Int32) (p2 : Int32) (p3 : Int32) (S : St) : Option (Int32 × St) := bd (f_J1_canEncode_9a6ad p1 S) (fun r1 S2 => (if r1 = 0 then some ((-1 : Int32), S2) else lt (mxI p2 (0 : Int32)) (fun y4 => lt (mnI p3 (nI (yL si))) (fun y5 => (if y4 < y5 then bd (f_J1_indexOfChar_4cfef si p1 y4 y5 S2) (fun r6 S7 => some (r6, S7)) else some ((-1 : Int32), S2))))))
theorem c_J1_indexOf_4cfef {si : Nat} (hsi : isStr si) {p1 : Int32} {p2 : Int32} {p3 : Int32} {S : St} {r : Int32} {S' : St} (hf : f_J1_indexOf_4cfef si p1 p2 p3 S = some (r, S')) : zM yJ1_indexOf_4cfef cJ1_indexOf_4cfef 4 2 (some .int) [.ref (1010 + si), .int p1, .int p2, .int p3] S (some (.int r)) S' := by
  refine zM_of (zpl (by decide)) (Nat.le_of_ble_eq_true rfl) rfl (fun K hK hA => ?_)
  unfold f_J1_indexOf_4cfef at hf
  refine j_iload_n hK dJ1_indexOf_4cfef_0 1 rfl rfl ?_
  obtain ⟨r1, S2, h3, hf⟩ := bd_J hf
  refine k_callSi hK (c_J1_canEncode_9a6ad h3) dJ1_indexOf_4cfef_1 ml_J1_88 ms_J1_canEncode_9a6ad in_J1 mc_J1_canEncode_9a6ad hy_J1_canEncode_9a6ad ⟨by decide, by decide⟩ rfl (Nat.le_of_ble_eq_true rfl) ?_
  refine j_if_ne hK 9 dJ1_indexOf_4cfef_4 (by decide) (fun hc => ?_) (fun hc => ?_)
  · replace hf := if_2 hc hf
    refine j_iload_n hK dJ1_indexOf_4cfef_9 2 rfl rfl ?_
    refine j_iconst hK (0 : Int32) dJ1_indexOf_4cfef_10 ic_0 ?_
    refine j_max hK ml_J1_92 dJ1_indexOf_4cfef_11 (by decide) (Nat.le_of_ble_eq_true rfl) ?_
    refine lt_I hf (fun y4 hf => ?_)
    refine j_istore_n hK (L' := [(2, .int y4), (0, .ref (1010 + si)), (1, .int p1), (3, .int p3)]) dJ1_indexOf_4cfef_14 rfl (by decide) rfl ?_
    refine j_iload_n hK dJ1_indexOf_4cfef_15 3 rfl rfl ?_
    refine j_aload_n hK dJ1_indexOf_4cfef_16 1 rfl rfl ?_
    refine j_ylen hK hsi dJ1_indexOf_4cfef_17 ?_
    refine j_pc (pc' := 18) rfl ?_
    refine j_min hK ml_J1_38 dJ1_indexOf_4cfef_18 (by decide) (Nat.le_of_ble_eq_true rfl) ?_
    refine lt_I hf (fun y5 hf => ?_)
    refine j_istore_n hK (L' := [(3, .int y5), (2, .int y4), (0, .ref (1010 + si)), (1, .int p1)]) dJ1_indexOf_4cfef_21 rfl (by decide) rfl ?_
    refine j_iload_n hK dJ1_indexOf_4cfef_22 1 rfl rfl ?_
    refine j_iload_n hK dJ1_indexOf_4cfef_23 0 rfl rfl ?_
    refine j_icmp_lt hK 29 dJ1_indexOf_4cfef_24 (by decide) (fun hc => ?_) (fun hc => ?_)
    · replace hf := if_1 hc hf
      refine j_aload_n hK dJ1_indexOf_4cfef_29 2 rfl rfl ?_
      refine j_iload_n hK dJ1_indexOf_4cfef_30 3 rfl rfl ?_
      refine j_iload_n hK dJ1_indexOf_4cfef_31 1 rfl rfl ?_
      refine j_iload_n hK dJ1_indexOf_4cfef_32 0 rfl rfl ?_
      obtain ⟨r6, S7, h8, hf⟩ := bd_J hf
      refine k_callSi hK (c_J1_indexOfChar_4cfef hsi h8) dJ1_indexOf_4cfef_33 ml_J1_95 ms_J1_indexOfChar_4cfef in_J1 mc_J1_indexOfChar_4cfef hy_J1_indexOfChar_4cfef ⟨by decide, by decide⟩ rfl (Nat.le_of_ble_eq_true rfl) ?_
      exact j_iret hK dJ1_indexOf_4cfef_36 rfl (rt_I hA hf)
    · replace hf := if_2 hc hf
      refine j_iconst hK (-1 : Int32) dJ1_indexOf_4cfef_27 ic_m1 ?_
      exact j_iret hK dJ1_indexOf_4cfef_28 rfl (rt_I hA hf)
  · replace hf := if_1 hc hf
    refine j_iconst hK (-1 : Int32) dJ1_indexOf_4cfef_7 ic_m1 ?_
    exact j_iret hK dJ1_indexOf_4cfef_8 rfl (rt_I hA hf)
def f_J0_indexOf_7cf53 (si : Nat) (p1 : Int32) (p2 : Int32) (S : St) : Option (Int32 × St) := bd (f_J0_isLatin1_aae02 si S) (fun r1 S2 => (if r1 = 0 then bd (f_J0_length_8abf5 si S2) (fun r4 S5 => none) else bd (f_J0_length_8abf5 si S2) (fun r7 S8 => bd (f_J1_indexOf_4cfef si p1 p2 r7 S8) (fun r10 S11 => some (r10, S11)))))
theorem c_J0_indexOf_7cf53 {si : Nat} (hsi : isStr si) {p1 : Int32} {p2 : Int32} {S : St} {r : Int32} {S' : St} (hf : f_J0_indexOf_7cf53 si p1 p2 S = some (r, S')) : zM yJ0_indexOf_7cf53 cJ0_indexOf_7cf53 3 3 (some .int) [.ref (1000 + si), .int p1, .int p2] S (some (.int r)) S' := by
  refine zM_of (zpl (by decide)) (Nat.le_of_ble_eq_true rfl) rfl (fun K hK hA => ?_)
  unfold f_J0_indexOf_7cf53 at hf
  refine j_aload_n hK dJ0_indexOf_7cf53_0 0 rfl rfl ?_
  obtain ⟨r1, S2, h3, hf⟩ := bd_J hf
  refine k_callTi hK (c_J0_isLatin1_aae02 hsi h3) dJ0_indexOf_7cf53_1 hsi rfl ml_J0_492 mi_J0_isLatin1_aae02 mx_J0_isLatin1_aae02 in_J0 mc_J0_isLatin1_aae02 hy_J0_isLatin1_aae02 ⟨by decide, by decide⟩ rfl (Nat.le_of_ble_eq_true rfl) ?_
  refine j_if_eq hK 23 dJ0_indexOf_7cf53_4 (by decide) (fun hc => ?_) (fun hc => ?_)
  · replace hf := if_1 hc hf
    refine j_aload_n hK dJ0_indexOf_7cf53_23 0 rfl rfl ?_
    refine j_gfV hK hsi fj_9 dJ0_indexOf_7cf53_24 ?_
    refine j_iload_n hK dJ0_indexOf_7cf53_27 1 rfl rfl ?_
    refine j_iload_n hK dJ0_indexOf_7cf53_28 2 rfl rfl ?_
    refine j_aload_n hK dJ0_indexOf_7cf53_29 0 rfl rfl ?_
    obtain ⟨r4, S5, h6, hf⟩ := bd_J hf
    refine k_callTi hK (c_J0_length_8abf5 hsi h6) dJ0_indexOf_7cf53_30 hsi rfl ml_J0_505 mi_J0_length_8abf5 mx_J0_length_8abf5 in_J0 mc_J0_length_8abf5 hy_J0_length_8abf5 ⟨by decide, by decide⟩ rfl (Nat.le_of_ble_eq_true rfl) ?_
    cases hf
  · replace hf := if_2 hc hf
    refine j_aload_n hK dJ0_indexOf_7cf53_7 0 rfl rfl ?_
    refine j_gfV hK hsi fj_9 dJ0_indexOf_7cf53_8 ?_
    refine j_iload_n hK dJ0_indexOf_7cf53_11 1 rfl rfl ?_
    refine j_iload_n hK dJ0_indexOf_7cf53_12 2 rfl rfl ?_
    refine j_aload_n hK dJ0_indexOf_7cf53_13 0 rfl rfl ?_
    obtain ⟨r7, S8, h9, hf⟩ := bd_J hf
    refine k_callTi hK (c_J0_length_8abf5 hsi h9) dJ0_indexOf_7cf53_14 hsi rfl ml_J0_505 mi_J0_length_8abf5 mx_J0_length_8abf5 in_J0 mc_J0_length_8abf5 hy_J0_length_8abf5 ⟨by decide, by decide⟩ rfl (Nat.le_of_ble_eq_true rfl) ?_
    obtain ⟨r10, S11, h12, hf⟩ := bd_J hf
    refine k_callSi hK (c_J1_indexOf_4cfef hsi h12) dJ0_indexOf_7cf53_17 ml_J0_637 ms_J1_indexOf_4cfef in_J1 mc_J1_indexOf_4cfef hy_J1_indexOf_4cfef ⟨by decide, by decide⟩ rfl (Nat.le_of_ble_eq_true rfl) ?_
    refine j_pc (pc' := 20) rfl ?_
    refine j_goto hK 36 dJ0_indexOf_7cf53_20 (by decide) ?_
    exact j_iret hK dJ0_indexOf_7cf53_36 rfl (rt_I hA hf)
def f_J0_indexOf_0f7a4 (si : Nat) (p1 : Int32) (S : St) : Option (Int32 × St) := bd (f_J0_indexOf_7cf53 si p1 (0 : Int32) S) (fun r1 S2 => some (r1, S2))
theorem c_J0_indexOf_0f7a4 {si : Nat} (hsi : isStr si) {p1 : Int32} {S : St} {r : Int32} {S' : St} (hf : f_J0_indexOf_0f7a4 si p1 S = some (r, S')) : zM yJ0_indexOf_0f7a4 cJ0_indexOf_0f7a4 2 4 (some .int) [.ref (1000 + si), .int p1] S (some (.int r)) S' := by
  refine zM_of (zpl (by decide)) (Nat.le_of_ble_eq_true rfl) rfl (fun K hK hA => ?_)
  unfold f_J0_indexOf_0f7a4 at hf
  refine j_aload_n hK dJ0_indexOf_0f7a4_0 0 rfl rfl ?_
  refine j_iload_n hK dJ0_indexOf_0f7a4_1 1 rfl rfl ?_
  refine j_iconst hK (0 : Int32) dJ0_indexOf_0f7a4_2 ic_0 ?_
  obtain ⟨r1, S2, h3, hf⟩ := bd_J hf
  refine k_callTi hK (c_J0_indexOf_7cf53 hsi h3) dJ0_indexOf_0f7a4_3 hsi rfl ml_J0_633 mi_J0_indexOf_7cf53 mx_J0_indexOf_7cf53 in_J0 mc_J0_indexOf_7cf53 hy_J0_indexOf_7cf53 ⟨by decide, by decide⟩ rfl (Nat.le_of_ble_eq_true rfl) ?_
  exact j_iret hK dJ0_indexOf_0f7a4_6 rfl (rt_I hA hf)
def f_X6_emit (o : Nat) (p1 : Int32) (S : St) : Option (Unit × St) := (if (40 : Int32) ≤ (gI S o 1) then some ((), S) else if inb (gI S o 1) 40 then lt (sI S (o + 1) (gI S o 1).toNatClampNeg p1) (fun S2 => lt (sI S2 o 1 ((gI S2 o 1) + (1 : Int32))) (fun S3 => some ((), S3))) else none)
theorem c_X6_emit {o : Nat} (ho : isRule o) {p1 : Int32} {S : St} {r : Unit} {S' : St} (hf : f_X6_emit o p1 S = some (r, S')) : zM yX6_emit cX6_emit 2 1 none [.ref o, .int p1] S (none) S' := by
  refine zM_of (zpl (by decide)) (Nat.le_of_ble_eq_true rfl) rfl (fun K hK hA => ?_)
  unfold f_X6_emit at hf
  refine j_aload_n hK dX6_emit_0 0 rfl rfl ?_
  refine j_getI hK fl_X6_15 dX6_emit_1 (ru_o ho) zf_6_1 ?_
  refine j_bipush hK (40 : Int32) dX6_emit_4 bi_40 ?_
  refine j_icmp_ge hK 29 dX6_emit_6 (by decide) (fun hc => ?_) (fun hc => ?_)
  · replace hf := if_1 hc hf
    exact j_vret hK dX6_emit_29 rfl (rt_V hA hf)
  · replace hf := if_2 hc hf
    refine j_aload_n hK dX6_emit_9 0 rfl rfl ?_
    refine j_getR hK fl_X6_11 dX6_emit_10 (ru_o ho) zf_6_0 (ru_r0 ho) ?_
    refine j_aload_n hK dX6_emit_13 0 rfl rfl ?_
    refine j_getI hK fl_X6_15 dX6_emit_14 (ru_o ho) zf_6_1 ?_
    refine j_iload_n hK dX6_emit_17 1 rfl rfl ?_
    obtain ⟨hi1, hf⟩ := gd hf
    refine k_iast hK dX6_emit_18 (ru_b1 ho) hi1 rfl ?_
    refine lt_S hf (fun S2 hf => ?_)
    refine j_aload_n hK dX6_emit_19 0 rfl rfl ?_
    refine j_pc (pc' := 20) rfl ?_
    refine j_dup hK dX6_emit_20 rfl ?_
    refine j_getI hK fl_X6_15 dX6_emit_21 (ru_o ho) zf_6_1 ?_
    refine j_iconst hK (1 : Int32) dX6_emit_24 ic_1 ?_
    refine j_iadd hK dX6_emit_25 ?_
    refine j_putI hK fl_X6_15 dX6_emit_26 (ru_o ho) zf_6_1 ?_
    refine lt_S hf (fun S3 hf => ?_)
    exact j_vret hK dX6_emit_29 rfl (rt_V hA hf)
def f_X6_takesThing_130 (o : Nat) (s1 : Int32) (S : St) : Option (Int32 × St) := lt (sI S o 6 s1) (fun S1 => lt (sI S1 o 7 (0 : Int32)) (fun S2 => some ((1 : Int32), S2)))
theorem t_X6_takesThing_130 {K : CT} (hK : KO K cX6_takesThing RX6 4 5 (some .boolean)) {r : Int32} {S' : St} (hA : zans K (some (.int r), S')) {o : Nat} (ho : isRule o) {s1 : Int32} {S : St} (hf : f_X6_takesThing_130 o s1 S = some (r, S')) : J K 130 [(0, .ref o)] [.int s1, .ref o] S := by
  unfold f_X6_takesThing_130 at hf
  refine j_putI hK fl_X6_32 dX6_takesThing_130 (ru_o ho) zf_6_6 ?_
  refine lt_S hf (fun S1 hf => ?_)
  refine j_aload_n hK dX6_takesThing_133 0 rfl rfl ?_
  refine j_iconst hK (0 : Int32) dX6_takesThing_134 ic_0 ?_
  refine j_putZ hK fl_X6_35 dX6_takesThing_135 (ru_o ho) zf_6_7 (Or.inl rfl) ?_
  refine lt_S hf (fun S2 hf => ?_)
  refine j_iconst hK (1 : Int32) dX6_takesThing_138 ic_1 ?_
  exact j_zret hK dX6_takesThing_139 rfl rfl (rt_I hA hf)
def f_X6_takesThing_117 (o : Nat) (x3 : Int32) (s1 : Int32) (S : St) : Option (Int32 × St) := bd (f_X6_emit o s1 S) (fun r3 S4 => (if x3 = 0 then f_X6_takesThing_130 o (0 : Int32) S4 else f_X6_takesThing_130 o (1 : Int32) S4))
theorem t_X6_takesThing_117 {K : CT} (hK : KO K cX6_takesThing RX6 4 5 (some .boolean)) {r : Int32} {S' : St} (hA : zans K (some (.int r), S')) {o : Nat} (ho : isRule o) {x3 : Int32} {s1 : Int32} {S : St} (hf : f_X6_takesThing_117 o x3 s1 S = some (r, S')) : J K 117 [(0, .ref o), (3, .int x3)] [.int s1, .ref o] S := by
  unfold f_X6_takesThing_117 at hf
  obtain ⟨r3, S4, h5, hf⟩ := bd_J hf
  refine k_callVv hK (c_X6_emit ho h5) dX6_takesThing_117 zclX6 (ru_o ho) ml_X6_82 mi_X6_emit mx_X6_emit in_X6 mc_X6_emit hy_X6_emit ⟨by decide, by decide⟩ rfl (Nat.le_of_ble_eq_true rfl) ?_
  refine j_aload_n hK dX6_takesThing_120 0 rfl rfl ?_
  refine j_iload_n hK dX6_takesThing_121 1 rfl rfl ?_
  refine j_if_eq hK 129 dX6_takesThing_122 (by decide) (fun hc => ?_) (fun hc => ?_)
  · replace hf := if_1 hc hf
    refine j_iconst hK (0 : Int32) dX6_takesThing_129 ic_0 ?_
    refine j_sub [0] rfl ?_
    exact t_X6_takesThing_130 hK hA ho hf
  · replace hf := if_2 hc hf
    refine j_iconst hK (1 : Int32) dX6_takesThing_125 ic_1 ?_
    refine j_goto hK 130 dX6_takesThing_126 (by decide) ?_
    refine j_sub [0] rfl ?_
    exact t_X6_takesThing_130 hK hA ho hf
def f_X6_takesThing_100 (o : Nat) (x1 : Int32) (x2 : Int32) (x3 : Int32) (S : St) : Option (Int32 × St) := (if x3 = 0 then f_X6_takesThing_117 o x3 ((1000 : Int32) + x2) S else f_X6_takesThing_117 o x3 (x1 - (48 : Int32)) S)
theorem t_X6_takesThing_100 {K : CT} (hK : KO K cX6_takesThing RX6 4 5 (some .boolean)) {r : Int32} {S' : St} (hA : zans K (some (.int r), S')) {o : Nat} (ho : isRule o) {x1 : Int32} {x2 : Int32} {x3 : Int32} {S : St} (hf : f_X6_takesThing_100 o x1 x2 x3 S = some (r, S')) : J K 100 [(0, .ref o), (1, .int x1), (2, .int x2), (3, .int x3)] [] S := by
  unfold f_X6_takesThing_100 at hf
  refine j_aload_n hK dX6_takesThing_100 0 rfl rfl ?_
  refine j_iload_n hK dX6_takesThing_101 3 rfl rfl ?_
  refine j_if_eq hK 112 dX6_takesThing_102 (by decide) (fun hc => ?_) (fun hc => ?_)
  · replace hf := if_1 hc hf
    refine j_sipush hK (1000 : Int32) dX6_takesThing_112 si_1000 ?_
    refine j_iload_n hK dX6_takesThing_115 2 rfl rfl ?_
    refine j_iadd hK dX6_takesThing_116 ?_
    refine j_sub [0, 3] rfl ?_
    exact t_X6_takesThing_117 hK hA ho hf
  · replace hf := if_2 hc hf
    refine j_iload_n hK dX6_takesThing_105 1 rfl rfl ?_
    refine j_bipush hK (48 : Int32) dX6_takesThing_106 bi_48 ?_
    refine j_isub hK dX6_takesThing_108 ?_
    refine j_goto hK 117 dX6_takesThing_109 (by decide) ?_
    refine j_sub [0, 3] rfl ?_
    exact t_X6_takesThing_117 hK hA ho hf
def f_X6_takesThing_89 (o : Nat) (x1 : Int32) (x2 : Int32) (s0 : Int32) (S : St) : Option (Int32 × St) := (if s0 = 0 then (if 0 ≤ x2 then f_X6_takesThing_100 o x1 x2 s0 S else some ((0 : Int32), S)) else f_X6_takesThing_100 o x1 x2 s0 S)
theorem t_X6_takesThing_89 {K : CT} (hK : KO K cX6_takesThing RX6 4 5 (some .boolean)) {r : Int32} {S' : St} (hA : zans K (some (.int r), S')) {o : Nat} (ho : isRule o) {x1 : Int32} {x2 : Int32} {s0 : Int32} {S : St} (hf : f_X6_takesThing_89 o x1 x2 s0 S = some (r, S')) : J K 89 [(0, .ref o), (1, .int x1), (2, .int x2)] [.int s0] S := by
  unfold f_X6_takesThing_89 at hf
  refine j_istore_n hK (L' := [(3, .int s0), (0, .ref o), (1, .int x1), (2, .int x2)]) dX6_takesThing_89 rfl (by decide) rfl ?_
  refine j_iload_n hK dX6_takesThing_90 0 rfl rfl ?_
  refine j_if_ne hK 100 dX6_takesThing_91 (by decide) (fun hc => ?_) (fun hc => ?_)
  · replace hf := if_2 hc hf
    refine j_sub [1, 2, 3, 0] rfl ?_
    exact t_X6_takesThing_100 hK hA ho hf
  · replace hf := if_1 hc hf
    refine j_iload_n hK dX6_takesThing_94 3 rfl rfl ?_
    refine j_if_ge hK 100 dX6_takesThing_95 (by decide) (fun hc => ?_) (fun hc => ?_)
    · replace hf := if_1 hc hf
      refine j_sub [1, 2, 3, 0] rfl ?_
      exact t_X6_takesThing_100 hK hA ho hf
    · replace hf := if_2 hc hf
      refine j_iconst hK (0 : Int32) dX6_takesThing_98 ic_0 ?_
      exact j_zret hK dX6_takesThing_99 rfl rfl (rt_I hA hf)
def f_X6_takesThing_88 (o : Nat) (x1 : Int32) (x2 : Int32) (S : St) : Option (Int32 × St) := f_X6_takesThing_89 o x1 x2 (0 : Int32) S
theorem t_X6_takesThing_88 {K : CT} (hK : KO K cX6_takesThing RX6 4 5 (some .boolean)) {r : Int32} {S' : St} (hA : zans K (some (.int r), S')) {o : Nat} (ho : isRule o) {x1 : Int32} {x2 : Int32} {S : St} (hf : f_X6_takesThing_88 o x1 x2 S = some (r, S')) : J K 88 [(0, .ref o), (1, .int x1), (2, .int x2)] [] S := by
  unfold f_X6_takesThing_88 at hf
  refine j_iconst hK (0 : Int32) dX6_takesThing_88 ic_0 ?_
  exact t_X6_takesThing_89 hK hA ho hf
def f_X6_takesThing (o : Nat) (p1 : Int32) (S : St) : Option (Int32 × St) := (if p1 = (45 : Int32) then bd (f_X6_hold o (126 : Int32) S) (fun r15 S16 => some ((1 : Int32), S16)) else (if p1 = (40 : Int32) then (if (gI S o 4) = (4 : Int32) then some ((0 : Int32), S) else lt (sI S o 4 ((gI S o 4) + (1 : Int32))) (fun S9 => lt ((gI S9 o 5) &&& (((1 : Int32) <<< ((gI S9 o 4) &&& 31)) ^^^ (-1 : Int32))) (fun y10 => lt (sI S9 o 5 y10) (fun S11 => bd (f_X6_hold o (40 : Int32) S11) (fun r12 S13 => some ((1 : Int32), S13)))))) else bd (f_J0_indexOf_0f7a4 0 p1 S) (fun r6 S7 => (if p1 < (48 : Int32) then f_X6_takesThing_88 o p1 r6 S7 else (if (57 : Int32) < p1 then f_X6_takesThing_88 o p1 r6 S7 else f_X6_takesThing_89 o p1 r6 (1 : Int32) S7)))))
theorem c_X6_takesThing {o : Nat} (ho : isRule o) {p1 : Int32} {S : St} {r : Int32} {S' : St} (hf : f_X6_takesThing o p1 S = some (r, S')) : zM yX6_takesThing cX6_takesThing 4 5 (some .boolean) [.ref o, .int p1] S (some (.int r)) S' := by
  refine zM_of (zpl (by decide)) (Nat.le_of_ble_eq_true rfl) rfl (fun K hK hA => ?_)
  unfold f_X6_takesThing at hf
  refine j_iload_n hK dX6_takesThing_0 1 rfl rfl ?_
  refine j_bipush hK (45 : Int32) dX6_takesThing_1 bi_45 ?_
  refine j_icmp_ne hK 14 dX6_takesThing_3 (by decide) (fun hc => ?_) (fun hc => ?_)
  · replace hf := if_2 hc hf
    refine j_iload_n hK dX6_takesThing_14 1 rfl rfl ?_
    refine j_bipush hK (40 : Int32) dX6_takesThing_15 bi_40 ?_
    refine j_icmp_ne hK 65 dX6_takesThing_17 (by decide) (fun hc => ?_) (fun hc => ?_)
    · replace hf := if_2 hc hf
      refine j_ldcS (i := 0) hK (fun _ _ _ h => h.1.2.2.2.2.2.1) dX6_takesThing_65 ?_
      refine j_iload_n hK dX6_takesThing_67 1 rfl rfl ?_
      obtain ⟨r6, S7, h8, hf⟩ := bd_J hf
      refine k_callTi hK (c_J0_indexOf_0f7a4 (by decide) h8) dX6_takesThing_68 (by decide) rfl ml_X6_76 mi_J0_indexOf_0f7a4 mx_J0_indexOf_0f7a4 in_J0 mc_J0_indexOf_0f7a4 hy_J0_indexOf_0f7a4 ⟨by decide, by decide⟩ rfl (Nat.le_of_ble_eq_true rfl) ?_
      refine j_istore_n hK (L' := [(2, .int r6), (0, .ref o), (1, .int p1)]) dX6_takesThing_71 rfl (by decide) rfl ?_
      refine j_iload_n hK dX6_takesThing_72 2 rfl rfl ?_
      refine j_bipush hK (48 : Int32) dX6_takesThing_73 bi_48 ?_
      refine j_icmp_lt hK 88 dX6_takesThing_75 (by decide) (fun hc => ?_) (fun hc => ?_)
      · replace hf := if_1 hc hf
        refine j_sub [1, 2, 0] rfl ?_
        exact t_X6_takesThing_88 hK hA ho hf
      · replace hf := if_2 hc hf
        refine j_iload_n hK dX6_takesThing_78 2 rfl rfl ?_
        refine j_bipush hK (57 : Int32) dX6_takesThing_79 bi_57 ?_
        refine j_icmp_gt hK 88 dX6_takesThing_81 (by decide) (fun hc => ?_) (fun hc => ?_)
        · replace hf := if_1 hc hf
          refine j_sub [1, 2, 0] rfl ?_
          exact t_X6_takesThing_88 hK hA ho hf
        · replace hf := if_2 hc hf
          refine j_iconst hK (1 : Int32) dX6_takesThing_84 ic_1 ?_
          refine j_goto hK 89 dX6_takesThing_85 (by decide) ?_
          refine j_sub [1, 2, 0] rfl ?_
          exact t_X6_takesThing_89 hK hA ho hf
    · replace hf := if_1 hc hf
      refine j_aload_n hK dX6_takesThing_20 0 rfl rfl ?_
      refine j_getI hK fl_X6_26 dX6_takesThing_21 (ru_o ho) zf_6_4 ?_
      refine j_iconst hK (4 : Int32) dX6_takesThing_24 ic_4 ?_
      refine j_icmp_ne hK 30 dX6_takesThing_25 (by decide) (fun hc => ?_) (fun hc => ?_)
      · replace hf := if_2 hc hf
        refine j_aload_n hK dX6_takesThing_30 0 rfl rfl ?_
        refine j_dup hK dX6_takesThing_31 rfl ?_
        refine j_getI hK fl_X6_26 dX6_takesThing_32 (ru_o ho) zf_6_4 ?_
        refine j_iconst hK (1 : Int32) dX6_takesThing_35 ic_1 ?_
        refine j_iadd hK dX6_takesThing_36 ?_
        refine j_putI hK fl_X6_26 dX6_takesThing_37 (ru_o ho) zf_6_4 ?_
        refine lt_S hf (fun S9 hf => ?_)
        refine j_aload_n hK dX6_takesThing_40 0 rfl rfl ?_
        refine j_pc (pc' := 41) rfl ?_
        refine j_dup hK dX6_takesThing_41 rfl ?_
        refine j_getI hK fl_X6_29 dX6_takesThing_42 (ru_o ho) zf_6_5 ?_
        refine j_iconst hK (1 : Int32) dX6_takesThing_45 ic_1 ?_
        refine j_aload_n hK dX6_takesThing_46 0 rfl rfl ?_
        refine j_getI hK fl_X6_26 dX6_takesThing_47 (ru_o ho) zf_6_4 ?_
        refine j_ishl hK dX6_takesThing_50 ?_
        refine j_iconst hK (-1 : Int32) dX6_takesThing_51 ic_m1 ?_
        refine j_ixor hK dX6_takesThing_52 ?_
        refine j_pc (pc' := 53) rfl ?_
        refine j_iand hK dX6_takesThing_53 ?_
        refine lt_I hf (fun y10 hf => ?_)
        refine j_putI hK fl_X6_29 dX6_takesThing_54 (ru_o ho) zf_6_5 ?_
        refine lt_S hf (fun S11 hf => ?_)
        refine j_aload_n hK dX6_takesThing_57 0 rfl rfl ?_
        refine j_bipush hK (40 : Int32) dX6_takesThing_58 bi_40 ?_
        obtain ⟨r12, S13, h14, hf⟩ := bd_J hf
        refine k_callVv hK (c_X6_hold ho h14) dX6_takesThing_60 zclX6 (ru_o ho) ml_X6_70 mi_X6_hold mx_X6_hold in_X6 mc_X6_hold hy_X6_hold ⟨by decide, by decide⟩ rfl (Nat.le_of_ble_eq_true rfl) ?_
        refine j_iconst hK (1 : Int32) dX6_takesThing_63 ic_1 ?_
        exact j_zret hK dX6_takesThing_64 rfl rfl (rt_I hA hf)
      · replace hf := if_1 hc hf
        refine j_iconst hK (0 : Int32) dX6_takesThing_28 ic_0 ?_
        exact j_zret hK dX6_takesThing_29 rfl rfl (rt_I hA hf)
  · replace hf := if_1 hc hf
    refine j_aload_n hK dX6_takesThing_6 0 rfl rfl ?_
    refine j_bipush hK (126 : Int32) dX6_takesThing_7 bi_126 ?_
    obtain ⟨r15, S16, h17, hf⟩ := bd_J hf
    refine k_callVv hK (c_X6_hold ho h17) dX6_takesThing_9 zclX6 (ru_o ho) ml_X6_70 mi_X6_hold mx_X6_hold in_X6 mc_X6_hold hy_X6_hold ⟨by decide, by decide⟩ rfl (Nat.le_of_ble_eq_true rfl) ?_
    refine j_iconst hK (1 : Int32) dX6_takesThing_12 ic_1 ?_
    exact j_zret hK dX6_takesThing_13 rfl rfl (rt_I hA hf)
def f_X6_takesDigit (o : Nat) (p1 : Int32) (S : St) : Option (Int32 × St) := (if (gI S o 6) = 0 then some ((0 : Int32), S) else (if (gI S o 6) = (3 : Int32) then some ((0 : Int32), S) else (if (gI S o 1) = 0 then some ((0 : Int32), S) else if inb ((gI S o 1) - (1 : Int32)) 40 then lt ((10 : Int32) * (gI S (o + 1) ((gI S o 1) - (1 : Int32)).toNatClampNeg)) (fun y2 => if inb ((gI S o 1) - (1 : Int32)) 40 then lt (sI S (o + 1) ((gI S o 1) - (1 : Int32)).toNatClampNeg (y2 + p1)) (fun S4 => lt (sI S4 o 6 ((gI S4 o 6) + (1 : Int32))) (fun S5 => some ((1 : Int32), S5))) else none) else none)))
theorem c_X6_takesDigit {o : Nat} (ho : isRule o) {p1 : Int32} {S : St} {r : Int32} {S' : St} (hf : f_X6_takesDigit o p1 S = some (r, S')) : zM yX6_takesDigit cX6_takesDigit 2 1 (some .boolean) [.ref o, .int p1] S (some (.int r)) S' := by
  refine zM_of (zpl (by decide)) (Nat.le_of_ble_eq_true rfl) rfl (fun K hK hA => ?_)
  unfold f_X6_takesDigit at hf
  refine j_aload_n hK dX6_takesDigit_0 0 rfl rfl ?_
  refine j_getI hK fl_X6_32 dX6_takesDigit_1 (ru_o ho) zf_6_6 ?_
  refine j_if_eq hK 22 dX6_takesDigit_4 (by decide) (fun hc => ?_) (fun hc => ?_)
  · replace hf := if_1 hc hf
    refine j_iconst hK (0 : Int32) dX6_takesDigit_22 ic_0 ?_
    exact j_zret hK dX6_takesDigit_23 rfl rfl (rt_I hA hf)
  · replace hf := if_2 hc hf
    refine j_aload_n hK dX6_takesDigit_7 0 rfl rfl ?_
    refine j_getI hK fl_X6_32 dX6_takesDigit_8 (ru_o ho) zf_6_6 ?_
    refine j_iconst hK (3 : Int32) dX6_takesDigit_11 ic_3 ?_
    refine j_icmp_eq hK 22 dX6_takesDigit_12 (by decide) (fun hc => ?_) (fun hc => ?_)
    · replace hf := if_1 hc hf
      refine j_iconst hK (0 : Int32) dX6_takesDigit_22 ic_0 ?_
      exact j_zret hK dX6_takesDigit_23 rfl rfl (rt_I hA hf)
    · replace hf := if_2 hc hf
      refine j_aload_n hK dX6_takesDigit_15 0 rfl rfl ?_
      refine j_getI hK fl_X6_15 dX6_takesDigit_16 (ru_o ho) zf_6_1 ?_
      refine j_if_ne hK 24 dX6_takesDigit_19 (by decide) (fun hc => ?_) (fun hc => ?_)
      · replace hf := if_2 hc hf
        refine j_aload_n hK dX6_takesDigit_24 0 rfl rfl ?_
        refine j_getR hK fl_X6_11 dX6_takesDigit_25 (ru_o ho) zf_6_0 (ru_r0 ho) ?_
        refine j_aload_n hK dX6_takesDigit_28 0 rfl rfl ?_
        refine j_getI hK fl_X6_15 dX6_takesDigit_29 (ru_o ho) zf_6_1 ?_
        refine j_iconst hK (1 : Int32) dX6_takesDigit_32 ic_1 ?_
        refine j_isub hK dX6_takesDigit_33 ?_
        refine j_bipush hK (10 : Int32) dX6_takesDigit_34 bi_10 ?_
        refine j_pc (pc' := 36) rfl ?_
        refine j_aload_n hK dX6_takesDigit_36 0 rfl rfl ?_
        refine j_getR hK fl_X6_11 dX6_takesDigit_37 (ru_o ho) zf_6_0 (ru_r0 ho) ?_
        refine j_aload_n hK dX6_takesDigit_40 0 rfl rfl ?_
        refine j_getI hK fl_X6_15 dX6_takesDigit_41 (ru_o ho) zf_6_1 ?_
        refine j_iconst hK (1 : Int32) dX6_takesDigit_44 ic_1 ?_
        refine j_isub hK dX6_takesDigit_45 ?_
        obtain ⟨hi1, hf⟩ := gd hf
        refine k_iald hK dX6_takesDigit_46 (ru_b1 ho) hi1 rfl ?_
        refine j_imul hK dX6_takesDigit_47 ?_
        refine lt_I hf (fun y2 hf => ?_)
        refine j_pc (pc' := 48) rfl ?_
        refine j_iload_n hK dX6_takesDigit_48 1 rfl rfl ?_
        refine j_iadd hK dX6_takesDigit_49 ?_
        obtain ⟨hi3, hf⟩ := gd hf
        refine k_iast hK dX6_takesDigit_50 (ru_b1 ho) hi3 rfl ?_
        refine lt_S hf (fun S4 hf => ?_)
        refine j_aload_n hK dX6_takesDigit_51 0 rfl rfl ?_
        refine j_dup hK dX6_takesDigit_52 rfl ?_
        refine j_getI hK fl_X6_32 dX6_takesDigit_53 (ru_o ho) zf_6_6 ?_
        refine j_iconst hK (1 : Int32) dX6_takesDigit_56 ic_1 ?_
        refine j_iadd hK dX6_takesDigit_57 ?_
        refine j_pc (pc' := 58) rfl ?_
        refine j_putI hK fl_X6_32 dX6_takesDigit_58 (ru_o ho) zf_6_6 ?_
        refine lt_S hf (fun S5 hf => ?_)
        refine j_iconst hK (1 : Int32) dX6_takesDigit_61 ic_1 ?_
        exact j_zret hK dX6_takesDigit_62 rfl rfl (rt_I hA hf)
      · replace hf := if_1 hc hf
        refine j_iconst hK (0 : Int32) dX6_takesDigit_22 ic_0 ?_
        exact j_zret hK dX6_takesDigit_23 rfl rfl (rt_I hA hf)
def f_X6_bindingOf (p0 : Int32) (S : St) : Option (Int32 × St) := (if p0 = (42 : Int32) then some ((3 : Int32), S) else (if p0 = (43 : Int32) then some ((2 : Int32), S) else (if p0 = (44 : Int32) then some ((0 : Int32), S) else (if p0 = (45 : Int32) then some ((2 : Int32), S) else (if p0 = (46 : Int32) then some ((0 : Int32), S) else (if p0 = (47 : Int32) then some ((3 : Int32), S) else (if p0 = (48 : Int32) then some ((0 : Int32), S) else (if p0 = (49 : Int32) then some ((0 : Int32), S) else (if p0 = (50 : Int32) then some ((0 : Int32), S) else (if p0 = (51 : Int32) then some ((0 : Int32), S) else (if p0 = (52 : Int32) then some ((0 : Int32), S) else (if p0 = (53 : Int32) then some ((0 : Int32), S) else (if p0 = (54 : Int32) then some ((0 : Int32), S) else (if p0 = (55 : Int32) then some ((0 : Int32), S) else (if p0 = (56 : Int32) then some ((0 : Int32), S) else (if p0 = (57 : Int32) then some ((0 : Int32), S) else (if p0 = (58 : Int32) then some ((0 : Int32), S) else (if p0 = (59 : Int32) then some ((0 : Int32), S) else (if p0 = (60 : Int32) then some ((1 : Int32), S) else (if p0 = (61 : Int32) then some ((1 : Int32), S) else (if p0 = (62 : Int32) then some ((1 : Int32), S) else some ((0 : Int32), S))))))))))))))))))))))
theorem c_X6_bindingOf {p0 : Int32} {S : St} {r : Int32} {S' : St} (hf : f_X6_bindingOf p0 S = some (r, S')) : zM yX6_bindingOf cX6_bindingOf 1 1 (some .int) [.int p0] S (some (.int r)) S' := by
  refine zM_of (zpl (by decide)) (Nat.le_of_ble_eq_true rfl) rfl (fun K hK hA => ?_)
  unfold f_X6_bindingOf at hf
  refine j_iload_n hK dX6_bindingOf_0 0 rfl rfl ?_
  by_cases hs1 : p0 = (42 : Int32)
  · replace hf := if_1 hs1 hf
    refine j_tabC hK (42 : Int32) 104 dX6_bindingOf_1 hs1 (by decide) rfl (by decide) ?_
    refine j_iconst hK (3 : Int32) dX6_bindingOf_104 ic_3 ?_
    exact j_iret hK dX6_bindingOf_105 rfl (rt_I hA hf)
  · replace hf := if_2 hs1 hf
    by_cases hs2 : p0 = (43 : Int32)
    · replace hf := if_1 hs2 hf
      refine j_tabC hK (43 : Int32) 102 dX6_bindingOf_1 hs2 (by decide) rfl (by decide) ?_
      refine j_iconst hK (2 : Int32) dX6_bindingOf_102 ic_2 ?_
      exact j_iret hK dX6_bindingOf_103 rfl (rt_I hA hf)
    · replace hf := if_2 hs2 hf
      by_cases hs3 : p0 = (44 : Int32)
      · replace hf := if_1 hs3 hf
        refine j_tabC hK (44 : Int32) 106 dX6_bindingOf_1 hs3 (by decide) rfl (by decide) ?_
        refine j_iconst hK (0 : Int32) dX6_bindingOf_106 ic_0 ?_
        exact j_iret hK dX6_bindingOf_107 rfl (rt_I hA hf)
      · replace hf := if_2 hs3 hf
        by_cases hs4 : p0 = (45 : Int32)
        · replace hf := if_1 hs4 hf
          refine j_tabC hK (45 : Int32) 102 dX6_bindingOf_1 hs4 (by decide) rfl (by decide) ?_
          refine j_iconst hK (2 : Int32) dX6_bindingOf_102 ic_2 ?_
          exact j_iret hK dX6_bindingOf_103 rfl (rt_I hA hf)
        · replace hf := if_2 hs4 hf
          by_cases hs5 : p0 = (46 : Int32)
          · replace hf := if_1 hs5 hf
            refine j_tabC hK (46 : Int32) 106 dX6_bindingOf_1 hs5 (by decide) rfl (by decide) ?_
            refine j_iconst hK (0 : Int32) dX6_bindingOf_106 ic_0 ?_
            exact j_iret hK dX6_bindingOf_107 rfl (rt_I hA hf)
          · replace hf := if_2 hs5 hf
            by_cases hs6 : p0 = (47 : Int32)
            · replace hf := if_1 hs6 hf
              refine j_tabC hK (47 : Int32) 104 dX6_bindingOf_1 hs6 (by decide) rfl (by decide) ?_
              refine j_iconst hK (3 : Int32) dX6_bindingOf_104 ic_3 ?_
              exact j_iret hK dX6_bindingOf_105 rfl (rt_I hA hf)
            · replace hf := if_2 hs6 hf
              by_cases hs7 : p0 = (48 : Int32)
              · replace hf := if_1 hs7 hf
                refine j_tabC hK (48 : Int32) 106 dX6_bindingOf_1 hs7 (by decide) rfl (by decide) ?_
                refine j_iconst hK (0 : Int32) dX6_bindingOf_106 ic_0 ?_
                exact j_iret hK dX6_bindingOf_107 rfl (rt_I hA hf)
              · replace hf := if_2 hs7 hf
                by_cases hs8 : p0 = (49 : Int32)
                · replace hf := if_1 hs8 hf
                  refine j_tabC hK (49 : Int32) 106 dX6_bindingOf_1 hs8 (by decide) rfl (by decide) ?_
                  refine j_iconst hK (0 : Int32) dX6_bindingOf_106 ic_0 ?_
                  exact j_iret hK dX6_bindingOf_107 rfl (rt_I hA hf)
                · replace hf := if_2 hs8 hf
                  by_cases hs9 : p0 = (50 : Int32)
                  · replace hf := if_1 hs9 hf
                    refine j_tabC hK (50 : Int32) 106 dX6_bindingOf_1 hs9 (by decide) rfl (by decide) ?_
                    refine j_iconst hK (0 : Int32) dX6_bindingOf_106 ic_0 ?_
                    exact j_iret hK dX6_bindingOf_107 rfl (rt_I hA hf)
                  · replace hf := if_2 hs9 hf
                    by_cases hs10 : p0 = (51 : Int32)
                    · replace hf := if_1 hs10 hf
                      refine j_tabC hK (51 : Int32) 106 dX6_bindingOf_1 hs10 (by decide) rfl (by decide) ?_
                      refine j_iconst hK (0 : Int32) dX6_bindingOf_106 ic_0 ?_
                      exact j_iret hK dX6_bindingOf_107 rfl (rt_I hA hf)
                    · replace hf := if_2 hs10 hf
                      by_cases hs11 : p0 = (52 : Int32)
                      · replace hf := if_1 hs11 hf
                        refine j_tabC hK (52 : Int32) 106 dX6_bindingOf_1 hs11 (by decide) rfl (by decide) ?_
                        refine j_iconst hK (0 : Int32) dX6_bindingOf_106 ic_0 ?_
                        exact j_iret hK dX6_bindingOf_107 rfl (rt_I hA hf)
                      · replace hf := if_2 hs11 hf
                        by_cases hs12 : p0 = (53 : Int32)
                        · replace hf := if_1 hs12 hf
                          refine j_tabC hK (53 : Int32) 106 dX6_bindingOf_1 hs12 (by decide) rfl (by decide) ?_
                          refine j_iconst hK (0 : Int32) dX6_bindingOf_106 ic_0 ?_
                          exact j_iret hK dX6_bindingOf_107 rfl (rt_I hA hf)
                        · replace hf := if_2 hs12 hf
                          by_cases hs13 : p0 = (54 : Int32)
                          · replace hf := if_1 hs13 hf
                            refine j_tabC hK (54 : Int32) 106 dX6_bindingOf_1 hs13 (by decide) rfl (by decide) ?_
                            refine j_iconst hK (0 : Int32) dX6_bindingOf_106 ic_0 ?_
                            exact j_iret hK dX6_bindingOf_107 rfl (rt_I hA hf)
                          · replace hf := if_2 hs13 hf
                            by_cases hs14 : p0 = (55 : Int32)
                            · replace hf := if_1 hs14 hf
                              refine j_tabC hK (55 : Int32) 106 dX6_bindingOf_1 hs14 (by decide) rfl (by decide) ?_
                              refine j_iconst hK (0 : Int32) dX6_bindingOf_106 ic_0 ?_
                              exact j_iret hK dX6_bindingOf_107 rfl (rt_I hA hf)
                            · replace hf := if_2 hs14 hf
                              by_cases hs15 : p0 = (56 : Int32)
                              · replace hf := if_1 hs15 hf
                                refine j_tabC hK (56 : Int32) 106 dX6_bindingOf_1 hs15 (by decide) rfl (by decide) ?_
                                refine j_iconst hK (0 : Int32) dX6_bindingOf_106 ic_0 ?_
                                exact j_iret hK dX6_bindingOf_107 rfl (rt_I hA hf)
                              · replace hf := if_2 hs15 hf
                                by_cases hs16 : p0 = (57 : Int32)
                                · replace hf := if_1 hs16 hf
                                  refine j_tabC hK (57 : Int32) 106 dX6_bindingOf_1 hs16 (by decide) rfl (by decide) ?_
                                  refine j_iconst hK (0 : Int32) dX6_bindingOf_106 ic_0 ?_
                                  exact j_iret hK dX6_bindingOf_107 rfl (rt_I hA hf)
                                · replace hf := if_2 hs16 hf
                                  by_cases hs17 : p0 = (58 : Int32)
                                  · replace hf := if_1 hs17 hf
                                    refine j_tabC hK (58 : Int32) 106 dX6_bindingOf_1 hs17 (by decide) rfl (by decide) ?_
                                    refine j_iconst hK (0 : Int32) dX6_bindingOf_106 ic_0 ?_
                                    exact j_iret hK dX6_bindingOf_107 rfl (rt_I hA hf)
                                  · replace hf := if_2 hs17 hf
                                    by_cases hs18 : p0 = (59 : Int32)
                                    · replace hf := if_1 hs18 hf
                                      refine j_tabC hK (59 : Int32) 106 dX6_bindingOf_1 hs18 (by decide) rfl (by decide) ?_
                                      refine j_iconst hK (0 : Int32) dX6_bindingOf_106 ic_0 ?_
                                      exact j_iret hK dX6_bindingOf_107 rfl (rt_I hA hf)
                                    · replace hf := if_2 hs18 hf
                                      by_cases hs19 : p0 = (60 : Int32)
                                      · replace hf := if_1 hs19 hf
                                        refine j_tabC hK (60 : Int32) 100 dX6_bindingOf_1 hs19 (by decide) rfl (by decide) ?_
                                        refine j_iconst hK (1 : Int32) dX6_bindingOf_100 ic_1 ?_
                                        exact j_iret hK dX6_bindingOf_101 rfl (rt_I hA hf)
                                      · replace hf := if_2 hs19 hf
                                        by_cases hs20 : p0 = (61 : Int32)
                                        · replace hf := if_1 hs20 hf
                                          refine j_tabC hK (61 : Int32) 100 dX6_bindingOf_1 hs20 (by decide) rfl (by decide) ?_
                                          refine j_iconst hK (1 : Int32) dX6_bindingOf_100 ic_1 ?_
                                          exact j_iret hK dX6_bindingOf_101 rfl (rt_I hA hf)
                                        · replace hf := if_2 hs20 hf
                                          by_cases hs21 : p0 = (62 : Int32)
                                          · replace hf := if_1 hs21 hf
                                            refine j_tabC hK (62 : Int32) 100 dX6_bindingOf_1 hs21 (by decide) rfl (by decide) ?_
                                            refine j_iconst hK (1 : Int32) dX6_bindingOf_100 ic_1 ?_
                                            exact j_iret hK dX6_bindingOf_101 rfl (rt_I hA hf)
                                          · replace hf := if_2 hs21 hf
                                            refine j_tabOut hK 106 dX6_bindingOf_1 (by have q := And.intro (ne_toInt 42 (by decide) hs1) (And.intro (ne_toInt 43 (by decide) hs2) (And.intro (ne_toInt 44 (by decide) hs3) (And.intro (ne_toInt 45 (by decide) hs4) (And.intro (ne_toInt 46 (by decide) hs5) (And.intro (ne_toInt 47 (by decide) hs6) (And.intro (ne_toInt 48 (by decide) hs7) (And.intro (ne_toInt 49 (by decide) hs8) (And.intro (ne_toInt 50 (by decide) hs9) (And.intro (ne_toInt 51 (by decide) hs10) (And.intro (ne_toInt 52 (by decide) hs11) (And.intro (ne_toInt 53 (by decide) hs12) (And.intro (ne_toInt 54 (by decide) hs13) (And.intro (ne_toInt 55 (by decide) hs14) (And.intro (ne_toInt 56 (by decide) hs15) (And.intro (ne_toInt 57 (by decide) hs16) (And.intro (ne_toInt 58 (by decide) hs17) (And.intro (ne_toInt 59 (by decide) hs18) (And.intro (ne_toInt 60 (by decide) hs19) (And.intro (ne_toInt 61 (by decide) hs20) (And.intro (ne_toInt 62 (by decide) hs21) trivial)))))))))))))))))))); omega) (by decide) ?_
                                            refine j_iconst hK (0 : Int32) dX6_bindingOf_106 ic_0 ?_
                                            exact j_iret hK dX6_bindingOf_107 rfl (rt_I hA hf)
