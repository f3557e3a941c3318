def f_X10_sign_19b (x1 : Int32) (e : Int32 → St → Option (Int32 × St)) (k : Int32 → St → Option (Int32 × St)) (v : Int32) (S : St) : Option (Int32 × St) := (if v < 0 then e v S else if inb (gI S 1 1) 80 then lt (sI S 2 (gI S 1 1).toNatClampNeg (vp_nar .char ((((ushr x1 v) &&& (255 : Int32))).toUInt32 % 65536).toInt32)) (fun S2 => lt (sI S2 1 1 ((gI S2 1 1) + (1 : Int32))) (fun S3 => k (v + (-8 : Int32)) S3)) else none)
theorem t_X10_sign_19 {K : CT} (hK : KO K cX10_sign RX10 3 1 (some .int)) {r : Int32} {S' : St} (hA : zans K = (some (.int r), S')) {x1 : Int32} {e : Int32 → St → Option (Int32 × St)} (he : ∀ (v : Int32) (S : St), e v S = some (r, S') → J K 65 [(0, .ref 0)] [] S) : ∀ (n : Nat) (v : Int32) (S : St), lp (f_X10_sign_19b x1 e) n v S = some (r, S') → J K 19 [(0, .ref 0), (1, .int x1), (2, .int v)] [] S :=
  lp_J (P := fun (v : Int32) (S : St) => J K 19 [(0, .ref 0), (1, .int x1), (2, .int v)] [] S) (fun k hk v S hf => by
    unfold f_X10_sign_19b at hf
    refine j_iload_n hK dX10_sign_19 2 rfl rfl ?_
    refine j_if_lt hK 65 dX10_sign_20 (by decide) (fun hc => ?_) (fun hc => ?_)
    · replace hf := if_1 hc hf
      refine j_sub [0] rfl ?_
      exact he _ _ hf
    · replace hf := if_2 hc hf
      refine j_aload_n hK dX10_sign_23 0 rfl rfl ?_
      refine j_getR hK fl_X10_10 dX10_sign_24 zo_0 zf_10_0 zr_0_0 ?_
      refine j_getR hK fl_X10_91 dX10_sign_27 zo_1 zf_8_0 zr_1_0 ?_
      refine j_aload_n hK dX10_sign_30 0 rfl rfl ?_
      refine j_getR hK fl_X10_10 dX10_sign_31 zo_0 zf_10_0 zr_0_0 ?_
      refine j_getI hK fl_X10_88 dX10_sign_34 zo_1 zf_8_1 ?_
      refine j_iload_n hK dX10_sign_37 1 rfl rfl ?_
      refine j_pc (pc' := 38) rfl ?_
      refine j_iload_n hK dX10_sign_38 2 rfl rfl ?_
      refine j_iushr hK dX10_sign_39 ?_
      refine j_sipush hK (255 : Int32) dX10_sign_40 si_255 ?_
      refine j_iand hK dX10_sign_43 ?_
      refine j_i2c hK dX10_sign_44 ?_
      obtain ⟨hi1, hf⟩ := gd hf
      refine k_cast hK dX10_sign_45 zb_2 hi1 rfl ?_
      refine lt_S hf (fun S2 hf => ?_)
      refine j_aload_n hK dX10_sign_46 0 rfl rfl ?_
      refine j_getR hK fl_X10_10 dX10_sign_47 zo_0 zf_10_0 zr_0_0 ?_
      refine j_pc (pc' := 50) rfl ?_
      refine j_dup hK dX10_sign_50 rfl ?_
      refine j_getI hK fl_X10_88 dX10_sign_51 zo_1 zf_8_1 ?_
      refine j_iconst hK (1 : Int32) dX10_sign_54 ic_1 ?_
      refine j_iadd hK dX10_sign_55 ?_
      refine j_putI hK fl_X10_88 dX10_sign_56 zo_1 zf_8_1 ?_
      refine lt_S hf (fun S3 hf => ?_)
      refine j_iinc hK (L' := [(2, .int (v + (-8 : Int32))), (0, .ref 0), (1, .int x1)]) dX10_sign_59 2 rfl (congrArg (fun y => v + y) ic_m8) (by decide) rfl ?_
      refine j_goto hK 19 dX10_sign_62 (by decide) ?_
      refine j_sub [1, 2, 0] rfl ?_
      exact hk _ _ hf)
def f_X10_sign (p1 : Int32) (S : St) : Option (Int32 × St) := (if ((gI S 1 1) + (4 : Int32)) ≤ (80 : Int32) then lp (f_X10_sign_19b p1 (fun v4 S5 => some ((gI S5 1 1), S5))) FU (24 : Int32) S else some ((-1 : Int32), S))
theorem c_X10_sign {p1 : Int32} {S : St} {r : Int32} {S' : St} (hf : f_X10_sign p1 S = some (r, S')) : zM yX10_sign cX10_sign 3 1 (some .int) [.ref 0, .int p1] S (some (.int r)) S' := by
  refine zM_of (zpl (by decide)) (Nat.le_of_ble_eq_true rfl) rfl (fun K hK hA => ?_)
  unfold f_X10_sign at hf
  refine j_aload_n hK dX10_sign_0 0 rfl rfl ?_
  refine j_getR hK fl_X10_10 dX10_sign_1 zo_0 zf_10_0 zr_0_0 ?_
  refine j_getI hK fl_X10_88 dX10_sign_4 zo_1 zf_8_1 ?_
  refine j_iconst hK (4 : Int32) dX10_sign_7 ic_4 ?_
  refine j_iadd hK dX10_sign_8 ?_
  refine j_bipush hK (80 : Int32) dX10_sign_9 bi_80 ?_
  refine j_icmp_le hK 16 dX10_sign_11 (by decide) (fun hc => ?_) (fun hc => ?_)
  · replace hf := if_1 hc hf
    refine j_bipush hK (24 : Int32) dX10_sign_16 bi_24 ?_
    refine j_istore_n hK (L' := [(2, .int (24 : Int32)), (0, .ref 0), (1, .int p1)]) dX10_sign_18 rfl (by decide) rfl ?_
    refine j_sub [1, 2, 0] rfl ?_
    refine t_X10_sign_19 hK hA  (fun v4 S5 hf => ?_) _ _ _ hf
    refine j_aload_n hK dX10_sign_65 0 rfl rfl ?_
    refine j_getR hK fl_X10_10 dX10_sign_66 zo_0 zf_10_0 zr_0_0 ?_
    refine j_getI hK fl_X10_88 dX10_sign_69 zo_1 zf_8_1 ?_
    exact j_iret hK dX10_sign_72 rfl (rt_I hA hf)
  · replace hf := if_2 hc hf
    refine j_iconst hK (-1 : Int32) dX10_sign_14 ic_m1 ?_
    exact j_iret hK dX10_sign_15 rfl (rt_I hA hf)
def f_X10_end (p1 : Int32) (S : St) : Option (Int32 × St) := (if p1 < 0 then some ((0 : Int32), S) else (if p1 ≤ (gI S 1 1) then lt (sI S 1 1 p1) (fun S1 => some ((1 : Int32), S1)) else some ((0 : Int32), S)))
theorem c_X10_end {p1 : Int32} {S : St} {r : Int32} {S' : St} (hf : f_X10_end p1 S = some (r, S')) : zM yX10_end cX10_end 2 1 (some .boolean) [.ref 0, .int p1] S (some (.int r)) S' := by
  refine zM_of (zpl (by decide)) (Nat.le_of_ble_eq_true rfl) rfl (fun K hK hA => ?_)
  unfold f_X10_end at hf
  refine j_iload_n hK dX10_end_0 1 rfl rfl ?_
  refine j_if_lt hK 15 dX10_end_1 (by decide) (fun hc => ?_) (fun hc => ?_)
  · replace hf := if_1 hc hf
    refine j_iconst hK (0 : Int32) dX10_end_15 ic_0 ?_
    exact j_zret hK dX10_end_16 rfl rfl (rt_I hA hf)
  · replace hf := if_2 hc hf
    refine j_iload_n hK dX10_end_4 1 rfl rfl ?_
    refine j_aload_n hK dX10_end_5 0 rfl rfl ?_
    refine j_getR hK fl_X10_10 dX10_end_6 zo_0 zf_10_0 zr_0_0 ?_
    refine j_getI hK fl_X10_88 dX10_end_9 zo_1 zf_8_1 ?_
    refine j_icmp_le hK 17 dX10_end_12 (by decide) (fun hc => ?_) (fun hc => ?_)
    · replace hf := if_1 hc hf
      refine j_aload_n hK dX10_end_17 0 rfl rfl ?_
      refine j_getR hK fl_X10_10 dX10_end_18 zo_0 zf_10_0 zr_0_0 ?_
      refine j_iload_n hK dX10_end_21 1 rfl rfl ?_
      refine j_putI hK fl_X10_88 dX10_end_22 zo_1 zf_8_1 ?_
      refine lt_S hf (fun S1 hf => ?_)
      refine j_iconst hK (1 : Int32) dX10_end_25 ic_1 ?_
      exact j_zret hK dX10_end_26 rfl rfl (rt_I hA hf)
    · replace hf := if_2 hc hf
      refine j_iconst hK (0 : Int32) dX10_end_15 ic_0 ?_
      exact j_zret hK dX10_end_16 rfl rfl (rt_I hA hf)
def f_X10_passages_60b (x1 : Int32) (x3 : Int32) (e : Int32 → St → Option (Int32 × St)) (k : Int32 → St → Option (Int32 × St)) (v : Int32) (S : St) : Option (Int32 × St) := (if x1 ≤ v then e v S else bd (f_X8_digit v S) (fun r1 S2 => bd (f_X8_digit (v + (1 : Int32)) S2) (fun r4 S5 => bd (f_X8_digit (v + (2 : Int32)) S5) (fun r7 S8 => bd (f_X8_digit (v + (3 : Int32)) S8) (fun r10 S11 => bd (f_X0_add r1 r4 r7 r10 S11) (fun r13 S14 => k (v + (5 : Int32)) S14))))))
theorem t_X10_passages_60 {K : CT} (hK : KO K cX10_passages RX10 5 4 (some .int)) {r : Int32} {S' : St} (hA : zans K = (some (.int r), S')) {x1 : Int32} {x3 : Int32} {e : Int32 → St → Option (Int32 × St)} (he : ∀ (v : Int32) (S : St), e v S = some (r, S') → J K 121 [(0, .ref 0), (3, .int x3)] [] S) : ∀ (n : Nat) (v : Int32) (S : St), lp (f_X10_passages_60b x1 x3 e) n v S = some (r, S') → J K 60 [(0, .ref 0), (1, .int x1), (3, .int x3), (4, .int v)] [] S :=
  lp_J (P := fun (v : Int32) (S : St) => J K 60 [(0, .ref 0), (1, .int x1), (3, .int x3), (4, .int v)] [] S) (fun k hk v S hf => by
    unfold f_X10_passages_60b at hf
    refine j_iload hK dX10_passages_60 3 rfl ?_
    refine j_iload_n hK dX10_passages_62 1 rfl rfl ?_
    refine j_icmp_ge hK 121 dX10_passages_63 (by decide) (fun hc => ?_) (fun hc => ?_)
    · replace hf := if_1 hc hf
      refine j_sub [0, 2] rfl ?_
      exact he _ _ hf
    · replace hf := if_2 hc hf
      refine j_aload_n hK dX10_passages_66 0 rfl rfl ?_
      refine j_getR hK fl_X10_19 dX10_passages_67 zo_0 zf_10_1 zr_0_1 ?_
      refine j_aload_n hK dX10_passages_70 0 rfl rfl ?_
      refine j_getR hK fl_X10_10 dX10_passages_71 zo_0 zf_10_0 zr_0_0 ?_
      refine j_iload hK dX10_passages_74 3 rfl ?_
      obtain ⟨r1, S2, h3, hf⟩ := bd_J hf
      refine k_callVi hK (c_X8_digit h3) dX10_passages_76 zclX8 zo_1 ml_X10_102 mi_X8_digit mx_X8_digit in_X8 mc_X8_digit hy_X8_digit ⟨by decide, by decide⟩ rfl (Nat.le_of_ble_eq_true rfl) ?_
      refine j_aload_n hK dX10_passages_79 0 rfl rfl ?_
      refine j_pc (pc' := 80) rfl ?_
      refine j_getR hK fl_X10_10 dX10_passages_80 zo_0 zf_10_0 zr_0_0 ?_
      refine j_iload hK dX10_passages_83 3 rfl ?_
      refine j_iconst hK (1 : Int32) dX10_passages_85 ic_1 ?_
      refine j_iadd hK dX10_passages_86 ?_
      obtain ⟨r4, S5, h6, hf⟩ := bd_J hf
      refine k_callVi hK (c_X8_digit h6) dX10_passages_87 zclX8 zo_1 ml_X10_102 mi_X8_digit mx_X8_digit in_X8 mc_X8_digit hy_X8_digit ⟨by decide, by decide⟩ rfl (Nat.le_of_ble_eq_true rfl) ?_
      refine j_aload_n hK dX10_passages_90 0 rfl rfl ?_
      refine j_getR hK fl_X10_10 dX10_passages_91 zo_0 zf_10_0 zr_0_0 ?_
      refine j_iload hK dX10_passages_94 3 rfl ?_
      refine j_pc (pc' := 96) rfl ?_
      refine j_iconst hK (2 : Int32) dX10_passages_96 ic_2 ?_
      refine j_iadd hK dX10_passages_97 ?_
      obtain ⟨r7, S8, h9, hf⟩ := bd_J hf
      refine k_callVi hK (c_X8_digit h9) dX10_passages_98 zclX8 zo_1 ml_X10_102 mi_X8_digit mx_X8_digit in_X8 mc_X8_digit hy_X8_digit ⟨by decide, by decide⟩ rfl (Nat.le_of_ble_eq_true rfl) ?_
      refine j_aload_n hK dX10_passages_101 0 rfl rfl ?_
      refine j_getR hK fl_X10_10 dX10_passages_102 zo_0 zf_10_0 zr_0_0 ?_
      refine j_iload hK dX10_passages_105 3 rfl ?_
      refine j_iconst hK (3 : Int32) dX10_passages_107 ic_3 ?_
      refine j_iadd hK dX10_passages_108 ?_
      refine j_pc (pc' := 109) rfl ?_
      obtain ⟨r10, S11, h12, hf⟩ := bd_J hf
      refine k_callVi hK (c_X8_digit h12) dX10_passages_109 zclX8 zo_1 ml_X10_102 mi_X8_digit mx_X8_digit in_X8 mc_X8_digit hy_X8_digit ⟨by decide, by decide⟩ rfl (Nat.le_of_ble_eq_true rfl) ?_
      obtain ⟨r13, S14, h15, hf⟩ := bd_J hf
      refine k_callVv hK (c_X0_add h15) dX10_passages_112 zclX0 zo_3 ml_X10_105 mi_X0_add mx_X0_add in_X0 mc_X0_add hy_X0_add ⟨by decide, by decide⟩ rfl (Nat.le_of_ble_eq_true rfl) ?_
      refine j_iinc hK (L' := [(4, .int (v + (5 : Int32))), (0, .ref 0), (1, .int x1), (3, .int x3)]) dX10_passages_115 3 rfl (congrArg (fun y => v + y) ic_5) (by decide) rfl ?_
      refine j_goto hK 60 dX10_passages_118 (by decide) ?_
      refine j_sub [1, 2, 3, 0] rfl ?_
      exact hk _ _ hf)
def f_X10_passages (S : St) : Option (Int32 × St) := lt (gI S 1 1) (fun y16 => (if y16 = 0 then some ((0 : Int32), S) else bd (f_X8_faultOfLines ((12 : Int32) - (gI S 3 2)) S) (fun r17 S18 => lt (sI S18 1 1 (0 : Int32)) (fun S20 => (if r17 = (-1 : Int32) then lt (gI S20 3 2) (fun y21 => lp (f_X10_passages_60b y16 y21 (fun v22 S23 => bd (f_X4_lose S23) (fun r24 S25 => some (((gI S25 3 2) - y21), S25)))) FU (0 : Int32) S20) else some (((-1 : Int32) - r17), S20))))))
theorem c_X10_passages {S : St} {r : Int32} {S' : St} (hf : f_X10_passages S = some (r, S')) : zM yX10_passages cX10_passages 5 4 (some .int) [.ref 0] S (some (.int r)) S' := by
  refine zM_of (zpl (by decide)) (Nat.le_of_ble_eq_true rfl) rfl (fun K hK hA => ?_)
  unfold f_X10_passages at hf
  refine j_aload_n hK dX10_passages_0 0 rfl rfl ?_
  refine j_getR hK fl_X10_10 dX10_passages_1 zo_0 zf_10_0 zr_0_0 ?_
  refine j_getI hK fl_X10_88 dX10_passages_4 zo_1 zf_8_1 ?_
  refine lt_I hf (fun y16 hf => ?_)
  refine j_istore_n hK (L' := [(1, .int y16), (0, .ref 0)]) dX10_passages_7 rfl (by decide) rfl ?_
  refine j_iload_n hK dX10_passages_8 0 rfl rfl ?_
  refine j_if_ne hK 14 dX10_passages_9 (by decide) (fun hc => ?_) (fun hc => ?_)
  · replace hf := if_2 hc hf
    refine j_aload_n hK dX10_passages_14 1 rfl rfl ?_
    refine j_getR hK fl_X10_10 dX10_passages_15 zo_0 zf_10_0 zr_0_0 ?_
    refine j_bipush hK (12 : Int32) dX10_passages_18 bi_12 ?_
    refine j_aload_n hK dX10_passages_20 1 rfl rfl ?_
    refine j_getR hK fl_X10_19 dX10_passages_21 zo_0 zf_10_1 zr_0_1 ?_
    refine j_getI hK fl_X10_95 dX10_passages_24 zo_3 zf_0_2 ?_
    refine j_isub hK dX10_passages_27 ?_
    refine j_pc (pc' := 28) rfl ?_
    obtain ⟨r17, S18, h19, hf⟩ := bd_J hf
    refine k_callVi hK (c_X8_faultOfLines h19) dX10_passages_28 zclX8 zo_1 ml_X10_98 mi_X8_faultOfLines mx_X8_faultOfLines in_X8 mc_X8_faultOfLines hy_X8_faultOfLines ⟨by decide, by decide⟩ rfl (Nat.le_of_ble_eq_true rfl) ?_
    refine j_istore_n hK (L' := [(2, .int r17), (1, .int y16), (0, .ref 0)]) dX10_passages_31 rfl (by decide) rfl ?_
    refine j_aload_n hK dX10_passages_32 2 rfl rfl ?_
    refine j_getR hK fl_X10_10 dX10_passages_33 zo_0 zf_10_0 zr_0_0 ?_
    refine j_iconst hK (0 : Int32) dX10_passages_36 ic_0 ?_
    refine j_putI hK fl_X10_88 dX10_passages_37 zo_1 zf_8_1 ?_
    refine lt_S hf (fun S20 hf => ?_)
    refine j_iload_n hK dX10_passages_40 0 rfl rfl ?_
    refine j_iconst hK (-1 : Int32) dX10_passages_41 ic_m1 ?_
    refine j_pc (pc' := 42) rfl ?_
    refine j_icmp_eq hK 49 dX10_passages_42 (by decide) (fun hc => ?_) (fun hc => ?_)
    · replace hf := if_1 hc hf
      refine j_aload_n hK dX10_passages_49 2 rfl rfl ?_
      refine j_getR hK fl_X10_19 dX10_passages_50 zo_0 zf_10_1 zr_0_1 ?_
      refine j_getI hK fl_X10_95 dX10_passages_53 zo_3 zf_0_2 ?_
      refine lt_I hf (fun y21 hf => ?_)
      refine j_istore_n hK (L' := [(3, .int y21), (2, .int r17), (1, .int y16), (0, .ref 0)]) dX10_passages_56 rfl (by decide) rfl ?_
      refine j_iconst hK (0 : Int32) dX10_passages_57 ic_0 ?_
      refine j_istore hK (L' := [(4, .int (0 : Int32)), (3, .int y21), (2, .int r17), (1, .int y16), (0, .ref 0)]) dX10_passages_58 (by decide) rfl ?_
      refine j_sub [4, 3, 1, 0] rfl ?_
      refine t_X10_passages_60 hK hA  (fun v22 S23 hf => ?_) _ _ _ hf
      refine j_aload_n hK dX10_passages_121 0 rfl rfl ?_
      refine j_getR hK fl_X10_33 dX10_passages_122 zo_0 zf_10_3 zr_0_3 ?_
      obtain ⟨r24, S25, h26, hf⟩ := bd_J hf
      refine k_callVv hK (c_X4_lose h26) dX10_passages_125 zclX4 zo_12 ml_X10_109 mi_X4_lose mx_X4_lose in_X4 mc_X4_lose hy_X4_lose ⟨by decide, by decide⟩ rfl (Nat.le_of_ble_eq_true rfl) ?_
      refine j_aload_n hK dX10_passages_128 0 rfl rfl ?_
      refine j_getR hK fl_X10_19 dX10_passages_129 zo_0 zf_10_1 zr_0_1 ?_
      refine j_getI hK fl_X10_95 dX10_passages_132 zo_3 zf_0_2 ?_
      refine j_iload_n hK dX10_passages_135 1 rfl rfl ?_
      refine j_pc (pc' := 136) rfl ?_
      refine j_isub hK dX10_passages_136 ?_
      exact j_iret hK dX10_passages_137 rfl (rt_I hA hf)
    · replace hf := if_2 hc hf
      refine j_iconst hK (-1 : Int32) dX10_passages_45 ic_m1 ?_
      refine j_iload_n hK dX10_passages_46 0 rfl rfl ?_
      refine j_isub hK dX10_passages_47 ?_
      exact j_iret hK dX10_passages_48 rfl (rt_I hA hf)
  · replace hf := if_1 hc hf
    refine j_iconst hK (0 : Int32) dX10_passages_12 ic_0 ?_
    exact j_iret hK dX10_passages_13 rfl (rt_I hA hf)
def f_X10_isCavern (p0 : Int32) (S : St) : Option (Int32 × St) := (if p0 < 0 then some ((0 : Int32), S) else (if (8 : Int32) ≤ p0 then some ((0 : Int32), S) else some ((1 : Int32), S)))
theorem c_X10_isCavern {p0 : Int32} {S : St} {r : Int32} {S' : St} (hf : f_X10_isCavern p0 S = some (r, S')) : zM yX10_isCavern cX10_isCavern 1 1 (some .boolean) [.int p0] S (some (.int r)) S' := by
  refine zM_of (zpl (by decide)) (Nat.le_of_ble_eq_true rfl) rfl (fun K hK hA => ?_)
  unfold f_X10_isCavern at hf
  refine j_iload_n hK dX10_isCavern_0 0 rfl rfl ?_
  refine j_if_lt hK 14 dX10_isCavern_1 (by decide) (fun hc => ?_) (fun hc => ?_)
  · replace hf := if_1 hc hf
    refine j_iconst hK (0 : Int32) dX10_isCavern_14 ic_0 ?_
    exact j_zret hK dX10_isCavern_15 rfl rfl (rt_I hA hf)
  · replace hf := if_2 hc hf
    refine j_iload_n hK dX10_isCavern_4 0 rfl rfl ?_
    refine j_bipush hK (8 : Int32) dX10_isCavern_5 bi_8 ?_
    refine j_icmp_ge hK 14 dX10_isCavern_7 (by decide) (fun hc => ?_) (fun hc => ?_)
    · replace hf := if_1 hc hf
      refine j_iconst hK (0 : Int32) dX10_isCavern_14 ic_0 ?_
      exact j_zret hK dX10_isCavern_15 rfl rfl (rt_I hA hf)
    · replace hf := if_2 hc hf
      refine j_iconst hK (1 : Int32) dX10_isCavern_10 ic_1 ?_
      refine j_goto hK 15 dX10_isCavern_11 (by decide) ?_
      exact j_zret hK dX10_isCavern_15 rfl rfl (rt_I hA hf)
def f_X10_wearToldBy_20 (s0 : Int32) (S : St) : Option (Int32 × St) := some ((mxI (0 : Int32) (mnI (9 : Int32) s0)), S)
theorem t_X10_wearToldBy_20 {K : CT} (hK : KO K cX10_wearToldBy RX10 3 1 (some .int)) {r : Int32} {S' : St} (hA : zans K = (some (.int r), S')) {s0 : Int32} {S : St} (hf : f_X10_wearToldBy_20 s0 S = some (r, S')) : J K 20 [] [.int s0] S := by
  unfold f_X10_wearToldBy_20 at hf
  refine j_istore_n hK (L' := [(2, .int s0)]) dX10_wearToldBy_20 rfl (by decide) rfl ?_
  refine j_iconst hK (0 : Int32) dX10_wearToldBy_21 ic_0 ?_
  refine j_bipush hK (9 : Int32) dX10_wearToldBy_22 bi_9 ?_
  refine j_iload_n hK dX10_wearToldBy_24 0 rfl rfl ?_
  refine j_min hK ml_X10_170 dX10_wearToldBy_25 (by decide) (Nat.le_of_ble_eq_true rfl) ?_
  refine j_max hK ml_X10_175 dX10_wearToldBy_28 (by decide) (Nat.le_of_ble_eq_true rfl) ?_
  exact j_iret hK dX10_wearToldBy_31 rfl (rt_I hA hf)
def f_X10_wearToldBy (p0 : Int32) (p1 : Int32) (S : St) : Option (Int32 × St) := (if p0 = 0 then f_X10_wearToldBy_20 (p1).toInt8.toInt32 S else (if p0 = (1 : Int32) then f_X10_wearToldBy_20 (p1).toInt16.toInt32 S else f_X10_wearToldBy_20 p1 S))
theorem c_X10_wearToldBy {p0 : Int32} {p1 : Int32} {S : St} {r : Int32} {S' : St} (hf : f_X10_wearToldBy p0 p1 S = some (r, S')) : zM yX10_wearToldBy cX10_wearToldBy 3 1 (some .int) [.int p0, .int p1] S (some (.int r)) S' := by
  refine zM_of (zpl (by decide)) (Nat.le_of_ble_eq_true rfl) rfl (fun K hK hA => ?_)
  unfold f_X10_wearToldBy at hf
  refine j_iload_n hK dX10_wearToldBy_0 0 rfl rfl ?_
  refine j_if_ne hK 9 dX10_wearToldBy_1 (by decide) (fun hc => ?_) (fun hc => ?_)
  · replace hf := if_2 hc hf
    refine j_iload_n hK dX10_wearToldBy_9 0 rfl rfl ?_
    refine j_iconst hK (1 : Int32) dX10_wearToldBy_10 ic_1 ?_
    refine j_icmp_ne hK 19 dX10_wearToldBy_11 (by decide) (fun hc => ?_) (fun hc => ?_)
    · replace hf := if_2 hc hf
      refine j_iload_n hK dX10_wearToldBy_19 1 rfl rfl ?_
      refine j_sub [] rfl ?_
      exact t_X10_wearToldBy_20 hK hA  hf
    · replace hf := if_1 hc hf
      refine j_iload_n hK dX10_wearToldBy_14 1 rfl rfl ?_
      refine j_i2s hK dX10_wearToldBy_15 ?_
      refine j_goto hK 20 dX10_wearToldBy_16 (by decide) ?_
      refine j_sub [] rfl ?_
      exact t_X10_wearToldBy_20 hK hA  hf
  · replace hf := if_1 hc hf
    refine j_iload_n hK dX10_wearToldBy_4 1 rfl rfl ?_
    refine j_i2b hK dX10_wearToldBy_5 ?_
    refine j_goto hK 20 dX10_wearToldBy_6 (by decide) ?_
    refine j_sub [] rfl ?_
    exact t_X10_wearToldBy_20 hK hA  hf
def f_X10_sheet_80 (x1 : Int32) (x2 : Int32) (x4 : Int32) (x5 : Int32) (x6 : Int32) (s1 : Int32) (s2 : Int32) (k e : Int32 × Int32 → St → Option (Int32 × St)) (S : St) : Option (Int32 × St) := if inb s1 12 then lt (sI S 9 s1.toNatClampNeg s2) (fun S2 => lt (x5 + x4) (fun y3 => k (y3, (x6 + (1 : Int32))) S2)) else none
theorem t_X10_sheet_80 {K : CT} (hK : KO K cX10_sheet RX10 7 2 (some .int)) {r : Int32} {S' : St} (hA : zans K = (some (.int r), S')) {x1 : Int32} {x2 : Int32} {x4 : Int32} {x5 : Int32} {x6 : Int32} {s1 : Int32} {s2 : Int32} {k e : Int32 × Int32 → St → Option (Int32 × St)} (hk : ∀ (v : Int32 × Int32) (S : St), k v S = some (r, S') → J K 35 [(0, .ref 0), (1, .int x1), (2, .int x2), (4, .int x4), (5, .int v.1), (6, .int v.2)] [] S) (he : ∀ (v : Int32 × Int32) (S : St), e v S = some (r, S') → J K 94 [(0, .ref 0), (1, .int x1)] [] S) {S : St} (hf : f_X10_sheet_80 x1 x2 x4 x5 x6 s1 s2 k e S = some (r, S')) : J K 80 [(0, .ref 0), (1, .int x1), (2, .int x2), (4, .int x4), (5, .int x5), (6, .int x6)] [.int s2, .int s1, .ref 9] S := by
  unfold f_X10_sheet_80 at hf
  obtain ⟨hi1, hf⟩ := gd hf
  refine k_iast hK dX10_sheet_80 zb_9 hi1 rfl ?_
  refine lt_S hf (fun S2 hf => ?_)
  refine j_iload hK dX10_sheet_81 4 rfl ?_
  refine j_iload hK dX10_sheet_83 3 rfl ?_
  refine j_iadd hK dX10_sheet_85 ?_
  refine lt_I hf (fun y3 hf => ?_)
  refine j_istore hK (L' := [(5, .int y3), (0, .ref 0), (1, .int x1), (2, .int x2), (4, .int x4), (6, .int x6)]) dX10_sheet_86 (by decide) rfl ?_
  refine j_iinc hK (L' := [(6, .int (x6 + (1 : Int32))), (5, .int y3), (0, .ref 0), (1, .int x1), (2, .int x2), (4, .int x4)]) dX10_sheet_88 5 rfl (congrArg (fun y => x6 + y) ic_1) (by decide) rfl ?_
  refine j_goto hK 35 dX10_sheet_91 (by decide) ?_
  refine j_sub [2, 3, 4, 5, 1, 0] rfl ?_
  exact hk _ _ hf
def f_X10_sheet_70 (x1 : Int32) (x2 : Int32) (x4 : Int32) (x5 : Int32) (x6 : Int32) (s1 : Int32) (k e : Int32 × Int32 → St → Option (Int32 × St)) (S : St) : Option (Int32 × St) := f_X10_sheet_80 x1 x2 x4 x5 x6 s1 (0 : Int32) k e S
theorem t_X10_sheet_70 {K : CT} (hK : KO K cX10_sheet RX10 7 2 (some .int)) {r : Int32} {S' : St} (hA : zans K = (some (.int r), S')) {x1 : Int32} {x2 : Int32} {x4 : Int32} {x5 : Int32} {x6 : Int32} {s1 : Int32} {k e : Int32 × Int32 → St → Option (Int32 × St)} (hk : ∀ (v : Int32 × Int32) (S : St), k v S = some (r, S') → J K 35 [(0, .ref 0), (1, .int x1), (2, .int x2), (4, .int x4), (5, .int v.1), (6, .int v.2)] [] S) (he : ∀ (v : Int32 × Int32) (S : St), e v S = some (r, S') → J K 94 [(0, .ref 0), (1, .int x1)] [] S) {S : St} (hf : f_X10_sheet_70 x1 x2 x4 x5 x6 s1 k e S = some (r, S')) : J K 70 [(0, .ref 0), (1, .int x1), (2, .int x2), (4, .int x4), (5, .int x5), (6, .int x6)] [.int s1, .ref 9] S := by
  unfold f_X10_sheet_70 at hf
  refine j_iconst hK (0 : Int32) dX10_sheet_70 ic_0 ?_
  refine j_goto hK 80 dX10_sheet_71 (by decide) ?_
  exact t_X10_sheet_80 hK hA hk he hf
def f_X10_sheet_35b (x1 : Int32) (x2 : Int32) (x4 : Int32) (e : Int32 × Int32 → St → Option (Int32 × St)) (k : Int32 × Int32 → St → Option (Int32 × St)) (v : Int32 × Int32) (S : St) : Option (Int32 × St) := (if (gI S 3 2) ≤ v.2 then e (v.1, v.2) S else (if x1 = (3 : Int32) then f_X10_sheet_70 x1 x2 x4 v.1 v.2 v.2 k e S else (if v.2 < x2 then bd (f_X10_wearToldBy x1 v.1 S) (fun r4 S5 => f_X10_sheet_80 x1 x2 x4 v.1 v.2 v.2 r4 k e S5) else f_X10_sheet_70 x1 x2 x4 v.1 v.2 v.2 k e S)))
theorem t_X10_sheet_35 {K : CT} (hK : KO K cX10_sheet RX10 7 2 (some .int)) {r : Int32} {S' : St} (hA : zans K = (some (.int r), S')) {x1 : Int32} {x2 : Int32} {x4 : Int32} {e : Int32 × Int32 → St → Option (Int32 × St)} (he : ∀ (v : Int32 × Int32) (S : St), e v S = some (r, S') → J K 94 [(0, .ref 0), (1, .int x1)] [] S) : ∀ (n : Nat) (v : Int32 × Int32) (S : St), lp (f_X10_sheet_35b x1 x2 x4 e) n v S = some (r, S') → J K 35 [(0, .ref 0), (1, .int x1), (2, .int x2), (4, .int x4), (5, .int v.1), (6, .int v.2)] [] S :=
  lp_J (P := fun (v : Int32 × Int32) (S : St) => J K 35 [(0, .ref 0), (1, .int x1), (2, .int x2), (4, .int x4), (5, .int v.1), (6, .int v.2)] [] S) (fun k hk v S hf => by
    unfold f_X10_sheet_35b at hf
    refine j_iload hK dX10_sheet_35 5 rfl ?_
    refine j_aload_n hK dX10_sheet_37 0 rfl rfl ?_
    refine j_getR hK fl_X10_19 dX10_sheet_38 zo_0 zf_10_1 zr_0_1 ?_
    refine j_getI hK fl_X10_95 dX10_sheet_41 zo_3 zf_0_2 ?_
    refine j_icmp_ge hK 94 dX10_sheet_44 (by decide) (fun hc => ?_) (fun hc => ?_)
    · replace hf := if_1 hc hf
      refine j_sub [0, 1] rfl ?_
      exact he _ _ hf
    · replace hf := if_2 hc hf
      refine j_aload_n hK dX10_sheet_47 0 rfl rfl ?_
      refine j_getR hK fl_X10_19 dX10_sheet_48 zo_0 zf_10_1 zr_0_1 ?_
      refine j_getR hK fl_X10_129 dX10_sheet_51 zo_3 zf_0_3 zr_3_3 ?_
      refine j_getR hK fl_X10_141 dX10_sheet_54 zo_6 zf_7_2 zr_6_2 ?_
      refine j_iload hK dX10_sheet_57 5 rfl ?_
      refine j_iload_n hK dX10_sheet_59 1 rfl rfl ?_
      refine j_iconst hK (3 : Int32) dX10_sheet_60 ic_3 ?_
      refine j_pc (pc' := 61) rfl ?_
      refine j_icmp_eq hK 70 dX10_sheet_61 (by decide) (fun hc => ?_) (fun hc => ?_)
      · replace hf := if_1 hc hf
        exact t_X10_sheet_70 hK hA hk he hf
      · replace hf := if_2 hc hf
        refine j_iload hK dX10_sheet_64 5 rfl ?_
        refine j_iload_n hK dX10_sheet_66 2 rfl rfl ?_
        refine j_icmp_lt hK 74 dX10_sheet_67 (by decide) (fun hc => ?_) (fun hc => ?_)
        · replace hf := if_1 hc hf
          refine j_iload_n hK dX10_sheet_74 1 rfl rfl ?_
          refine j_iload hK dX10_sheet_75 4 rfl ?_
          obtain ⟨r4, S5, h6, hf⟩ := bd_J hf
          refine k_callSi hK (c_X10_wearToldBy h6) dX10_sheet_77 ml_X10_162 ms_X10_wearToldBy in_X10 mc_X10_wearToldBy hy_X10_wearToldBy ⟨by decide, by decide⟩ rfl (Nat.le_of_ble_eq_true rfl) ?_
          exact t_X10_sheet_80 hK hA hk he hf
        · replace hf := if_2 hc hf
          exact t_X10_sheet_70 hK hA hk he hf)
def f_X10_sheet_29 (x1 : Int32) (x2 : Int32) (x3 : Int32) (x4 : Int32) (S : St) : Option (Int32 × St) := lp (f_X10_sheet_35b x1 x2 x4 (fun v7 S8 => (if x1 = (3 : Int32) then some ((-3 : Int32), S8) else bd (f_X0_wearOfAll S8) (fun r9 S10 => some (r9, S10))))) FU (x3, (0 : Int32)) S
theorem t_X10_sheet_29 {K : CT} (hK : KO K cX10_sheet RX10 7 2 (some .int)) {r : Int32} {S' : St} (hA : zans K = (some (.int r), S')) {x1 : Int32} {x2 : Int32} {x3 : Int32} {x4 : Int32} {S : St} (hf : f_X10_sheet_29 x1 x2 x3 x4 S = some (r, S')) : J K 29 [(0, .ref 0), (1, .int x1), (2, .int x2), (3, .int x3), (4, .int x4)] [] S := by
  unfold f_X10_sheet_29 at hf
  refine j_iload_n hK dX10_sheet_29 3 rfl rfl ?_
  refine j_istore hK (L' := [(5, .int x3), (0, .ref 0), (1, .int x1), (2, .int x2), (3, .int x3), (4, .int x4)]) dX10_sheet_30 (by decide) rfl ?_
  refine j_iconst hK (0 : Int32) dX10_sheet_32 ic_0 ?_
  refine j_istore hK (L' := [(6, .int (0 : Int32)), (5, .int x3), (0, .ref 0), (1, .int x1), (2, .int x2), (3, .int x3), (4, .int x4)]) dX10_sheet_33 (by decide) rfl ?_
  refine j_sub [2, 3, 4, 6, 1, 0] rfl ?_
  refine t_X10_sheet_35 hK hA  (fun v7 S8 hf => ?_) _ _ _ hf
  refine j_iload_n hK dX10_sheet_94 1 rfl rfl ?_
  refine j_iconst hK (3 : Int32) dX10_sheet_95 ic_3 ?_
  refine j_icmp_ne hK 104 dX10_sheet_96 (by decide) (fun hc => ?_) (fun hc => ?_)
  · replace hf := if_2 hc hf
    refine j_aload_n hK dX10_sheet_104 0 rfl rfl ?_
    refine j_getR hK fl_X10_19 dX10_sheet_105 zo_0 zf_10_1 zr_0_1 ?_
    obtain ⟨r9, S10, h11, hf⟩ := bd_J hf
    refine k_callVi hK (c_X0_wearOfAll h11) dX10_sheet_108 zclX0 zo_3 ml_X10_166 mi_X0_wearOfAll mx_X0_wearOfAll in_X0 mc_X0_wearOfAll hy_X0_wearOfAll ⟨by decide, by decide⟩ rfl (Nat.le_of_ble_eq_true rfl) ?_
    exact j_iret hK dX10_sheet_111 rfl (rt_I hA hf)
  · replace hf := if_1 hc hf
    refine j_bipush hK (-3 : Int32) dX10_sheet_99 bi_m3 ?_
    refine j_goto hK 111 dX10_sheet_101 (by decide) ?_
    exact j_iret hK dX10_sheet_111 rfl (rt_I hA hf)
def f_X10_sheet (p1 : Int32) (p2 : Int32) (p3 : Int32) (p4 : Int32) (S : St) : Option (Int32 × St) := (if p1 < 0 then some ((-1 : Int32), S) else (if (3 : Int32) < p1 then some ((-1 : Int32), S) else (if p2 ≤ (12 : Int32) then (if p1 = (3 : Int32) then f_X10_sheet_29 p1 p2 p3 p4 S else (if 0 ≤ p2 then f_X10_sheet_29 p1 p2 p3 p4 S else some ((-2 : Int32), S))) else some ((-1 : Int32), S))))
theorem c_X10_sheet {p1 : Int32} {p2 : Int32} {p3 : Int32} {p4 : Int32} {S : St} {r : Int32} {S' : St} (hf : f_X10_sheet p1 p2 p3 p4 S = some (r, S')) : zM yX10_sheet cX10_sheet 7 2 (some .int) [.ref 0, .int p1, .int p2, .int p3, .int p4] S (some (.int r)) S' := by
  refine zM_of (zpl (by decide)) (Nat.le_of_ble_eq_true rfl) rfl (fun K hK hA => ?_)
  unfold f_X10_sheet at hf
  refine j_iload_n hK dX10_sheet_0 1 rfl rfl ?_
  refine j_if_lt hK 15 dX10_sheet_1 (by decide) (fun hc => ?_) (fun hc => ?_)
  · replace hf := if_1 hc hf
    refine j_iconst hK (-1 : Int32) dX10_sheet_15 ic_m1 ?_
    exact j_iret hK dX10_sheet_16 rfl (rt_I hA hf)
  · replace hf := if_2 hc hf
    refine j_iload_n hK dX10_sheet_4 1 rfl rfl ?_
    refine j_iconst hK (3 : Int32) dX10_sheet_5 ic_3 ?_
    refine j_icmp_gt hK 15 dX10_sheet_6 (by decide) (fun hc => ?_) (fun hc => ?_)
    · replace hf := if_1 hc hf
      refine j_iconst hK (-1 : Int32) dX10_sheet_15 ic_m1 ?_
      exact j_iret hK dX10_sheet_16 rfl (rt_I hA hf)
    · replace hf := if_2 hc hf
      refine j_iload_n hK dX10_sheet_9 2 rfl rfl ?_
      refine j_bipush hK (12 : Int32) dX10_sheet_10 bi_12 ?_
      refine j_icmp_le hK 17 dX10_sheet_12 (by decide) (fun hc => ?_) (fun hc => ?_)
      · replace hf := if_1 hc hf
        refine j_iload_n hK dX10_sheet_17 1 rfl rfl ?_
        refine j_iconst hK (3 : Int32) dX10_sheet_18 ic_3 ?_
        refine j_icmp_eq hK 29 dX10_sheet_19 (by decide) (fun hc => ?_) (fun hc => ?_)
        · replace hf := if_1 hc hf
          exact t_X10_sheet_29 hK hA  hf
        · replace hf := if_2 hc hf
          refine j_iload_n hK dX10_sheet_22 2 rfl rfl ?_
          refine j_if_ge hK 29 dX10_sheet_23 (by decide) (fun hc => ?_) (fun hc => ?_)
          · replace hf := if_1 hc hf
            exact t_X10_sheet_29 hK hA  hf
          · replace hf := if_2 hc hf
            refine j_bipush hK (-2 : Int32) dX10_sheet_26 bi_m2 ?_
            exact j_iret hK dX10_sheet_28 rfl (rt_I hA hf)
      · replace hf := if_2 hc hf
        refine j_iconst hK (-1 : Int32) dX10_sheet_15 ic_m1 ?_
        exact j_iret hK dX10_sheet_16 rfl (rt_I hA hf)
def f_X10_refusalOfCall (p1 : Int32) (p2 : Int32) (S : St) : Option (Int32 × St) := bd (f_X2_goes p1 p2 S) (fun r1 S2 => (if r1 = 0 then some ((-100 : Int32), S2) else bd (f_X8_faultOfCall S2) (fun r4 S5 => (if r4 = (-1 : Int32) then some ((0 : Int32), S5) else some (((-1 : Int32) - r4), S5)))))
theorem c_X10_refusalOfCall {p1 : Int32} {p2 : Int32} {S : St} {r : Int32} {S' : St} (hf : f_X10_refusalOfCall p1 p2 S = some (r, S')) : zM yX10_refusalOfCall cX10_refusalOfCall 4 5 (some .int) [.ref 0, .int p1, .int p2] S (some (.int r)) S' := by
  refine zM_of (zpl (by decide)) (Nat.le_of_ble_eq_true rfl) rfl (fun K hK hA => ?_)
  unfold f_X10_refusalOfCall at hf
  refine j_aload_n hK dX10_refusalOfCall_0 0 rfl rfl ?_
  refine j_getR hK fl_X10_42 dX10_refusalOfCall_1 zo_0 zf_10_4 zr_0_4 ?_
  refine j_iload_n hK dX10_refusalOfCall_4 1 rfl rfl ?_
  refine j_iload_n hK dX10_refusalOfCall_5 2 rfl rfl ?_
  obtain ⟨r1, S2, h3, hf⟩ := bd_J hf
  refine k_callVi hK (c_X2_goes h3) dX10_refusalOfCall_6 zclX2 zo_92 ml_X10_236 mi_X2_goes mx_X2_goes in_X2 mc_X2_goes hy_X2_goes ⟨by decide, by decide⟩ rfl (Nat.le_of_ble_eq_true rfl) ?_
  refine j_if_ne hK 15 dX10_refusalOfCall_9 (by decide) (fun hc => ?_) (fun hc => ?_)
  · replace hf := if_2 hc hf
    refine j_aload_n hK dX10_refusalOfCall_15 0 rfl rfl ?_
    refine j_getR hK fl_X10_10 dX10_refusalOfCall_16 zo_0 zf_10_0 zr_0_0 ?_
    obtain ⟨r4, S5, h6, hf⟩ := bd_J hf
    refine k_callVi hK (c_X8_faultOfCall h6) dX10_refusalOfCall_19 zclX8 zo_1 ml_X10_240 mi_X8_faultOfCall mx_X8_faultOfCall in_X8 mc_X8_faultOfCall hy_X8_faultOfCall ⟨by decide, by decide⟩ rfl (Nat.le_of_ble_eq_true rfl) ?_
    refine j_istore_n hK (L' := [(3, .int r4), (0, .ref 0), (1, .int p1), (2, .int p2)]) dX10_refusalOfCall_22 rfl (by decide) rfl ?_
    refine j_iload_n hK dX10_refusalOfCall_23 0 rfl rfl ?_
    refine j_iconst hK (-1 : Int32) dX10_refusalOfCall_24 ic_m1 ?_
    refine j_icmp_ne hK 32 dX10_refusalOfCall_25 (by decide) (fun hc => ?_) (fun hc => ?_)
    · replace hf := if_2 hc hf
      refine j_iconst hK (-1 : Int32) dX10_refusalOfCall_32 ic_m1 ?_
      refine j_iload_n hK dX10_refusalOfCall_33 0 rfl rfl ?_
      refine j_isub hK dX10_refusalOfCall_34 ?_
      exact j_iret hK dX10_refusalOfCall_35 rfl (rt_I hA hf)
    · replace hf := if_1 hc hf
      refine j_iconst hK (0 : Int32) dX10_refusalOfCall_28 ic_0 ?_
      refine j_goto hK 35 dX10_refusalOfCall_29 (by decide) ?_
      exact j_iret hK dX10_refusalOfCall_35 rfl (rt_I hA hf)
  · replace hf := if_1 hc hf
    refine j_bipush hK (-100 : Int32) dX10_refusalOfCall_12 bi_m100 ?_
    exact j_iret hK dX10_refusalOfCall_14 rfl (rt_I hA hf)
def f_X10_putLetters_2b (x1 : Int32) (e : Int32 → St → Option (Unit × St)) (k : Int32 → St → Option (Unit × St)) (v : Int32) (S : St) : Option (Unit × St) := (if x1 ≤ v then e v S else if isRule (gI S 0 8).toNatClampNeg then bd (f_X8_letter v S) (fun r2 S3 => bd (f_X2_comesOut (gI S 0 8).toNatClampNeg r2 v S3) (fun r5 S6 => bd (f_X5_put r5.toInt64 S6) (fun r8 S9 => k (v + (1 : Int32)) S9))) else none)
theorem t_X10_putLetters_2 {K : CT} (hK : KO K cX10_putLetters RX10 3 5 none) {r : Unit} {S' : St} (hA : zans K = (none, S')) {x1 : Int32} {e : Int32 → St → Option (Unit × St)} (he : ∀ (v : Int32) (S : St), e v S = some (r, S') → J K 41 [] [] S) : ∀ (n : Nat) (v : Int32) (S : St), lp (f_X10_putLetters_2b x1 e) n v S = some (r, S') → J K 2 [(0, .ref 0), (1, .int x1), (2, .int v)] [] S :=
  lp_J (P := fun (v : Int32) (S : St) => J K 2 [(0, .ref 0), (1, .int x1), (2, .int v)] [] S) (fun k hk v S hf => by
    unfold f_X10_putLetters_2b at hf
    refine j_iload_n hK dX10_putLetters_2 2 rfl rfl ?_
    refine j_iload_n hK dX10_putLetters_3 1 rfl rfl ?_
    refine j_icmp_ge hK 41 dX10_putLetters_4 (by decide) (fun hc => ?_) (fun hc => ?_)
    · replace hf := if_1 hc hf
      refine j_sub [] rfl ?_
      exact he _ _ hf
    · replace hf := if_2 hc hf
      refine j_aload_n hK dX10_putLetters_7 0 rfl rfl ?_
      refine j_getR hK fl_X10_26 dX10_putLetters_8 zo_0 zf_10_2 zr_0_2 ?_
      refine j_aload_n hK dX10_putLetters_11 0 rfl rfl ?_
      refine j_getR hK fl_X10_42 dX10_putLetters_12 zo_0 zf_10_4 zr_0_4 ?_
      refine j_aload_n hK dX10_putLetters_15 0 rfl rfl ?_
      obtain ⟨hr1, hf⟩ := gd hf
      refine j_getD hK fl_X10_70 dX10_putLetters_16 zo_0 zf_10_8 ?_
      refine j_aload_n hK dX10_putLetters_19 0 rfl rfl ?_
      refine j_pc (pc' := 20) rfl ?_
      refine j_getR hK fl_X10_10 dX10_putLetters_20 zo_0 zf_10_0 zr_0_0 ?_
      refine j_iload_n hK dX10_putLetters_23 2 rfl rfl ?_
      obtain ⟨r2, S3, h4, hf⟩ := bd_J hf
      refine k_callVi hK (c_X8_letter h4) dX10_putLetters_24 zclX8 zo_1 ml_X10_243 mi_X8_letter mx_X8_letter in_X8 mc_X8_letter hy_X8_letter ⟨by decide, by decide⟩ rfl (Nat.le_of_ble_eq_true rfl) ?_
      refine j_iload_n hK dX10_putLetters_27 2 rfl rfl ?_
      obtain ⟨r5, S6, h7, hf⟩ := bd_J hf
      refine k_callVi hK (c_X2_comesOut hr1 h7) dX10_putLetters_28 zclX2 zo_92 ml_X10_246 mi_X2_comesOut mx_X2_comesOut in_X2 mc_X2_comesOut hy_X2_comesOut ⟨by decide, by decide⟩ rfl (Nat.le_of_ble_eq_true rfl) ?_
      refine j_i2l hK dX10_putLetters_31 ?_
      obtain ⟨r8, S9, h10, hf⟩ := bd_J hf
      refine k_callVv hK (c_X5_put h10) dX10_putLetters_32 zclX5 zo_10 ml_X10_191 mi_X5_put mx_X5_put in_X5 mc_X5_put hy_X5_put ⟨by decide, by decide⟩ rfl (Nat.le_of_ble_eq_true rfl) ?_
      refine j_iinc hK (L' := [(2, .int (v + (1 : Int32))), (0, .ref 0), (1, .int x1)]) dX10_putLetters_35 2 rfl (congrArg (fun y => v + y) ic_1) (by decide) rfl ?_
      refine j_pc (pc' := 38) rfl ?_
      refine j_goto hK 2 dX10_putLetters_38 (by decide) ?_
      refine j_sub [1, 2, 0] rfl ?_
      exact hk _ _ hf)
def f_X10_putLetters (p1 : Int32) (S : St) : Option (Unit × St) := lp (f_X10_putLetters_2b p1 (fun v11 S12 => some ((), S12))) FU (0 : Int32) S
theorem c_X10_putLetters {p1 : Int32} {S : St} {r : Unit} {S' : St} (hf : f_X10_putLetters p1 S = some (r, S')) : zM yX10_putLetters cX10_putLetters 3 5 none [.ref 0, .int p1] S (none) S' := by
  refine zM_of (zpl (by decide)) (Nat.le_of_ble_eq_true rfl) rfl (fun K hK hA => ?_)
  unfold f_X10_putLetters at hf
  refine j_iconst hK (0 : Int32) dX10_putLetters_0 ic_0 ?_
  refine j_istore_n hK (L' := [(2, .int (0 : Int32)), (0, .ref 0), (1, .int p1)]) dX10_putLetters_1 rfl (by decide) rfl ?_
  refine j_sub [1, 2, 0] rfl ?_
  refine t_X10_putLetters_2 hK hA  (fun v11 S12 hf => ?_) _ _ _ hf
  exact j_vret hK dX10_putLetters_41 rfl (rt_V hA hf)
def f_X10_wearByEcho (S : St) : Option (Int32 × St) := bd (f_X0_wearOut S) (fun r1 S2 => some ((gI S2 92 5), S2))
theorem c_X10_wearByEcho {S : St} {r : Int32} {S' : St} (hf : f_X10_wearByEcho S = some (r, S')) : zM yX10_wearByEcho cX10_wearByEcho 1 2 (some .int) [.ref 0] S (some (.int r)) S' := by
  refine zM_of (zpl (by decide)) (Nat.le_of_ble_eq_true rfl) rfl (fun K hK hA => ?_)
  unfold f_X10_wearByEcho at hf
  refine j_aload_n hK dX10_wearByEcho_0 0 rfl rfl ?_
  refine j_getR hK fl_X10_19 dX10_wearByEcho_1 zo_0 zf_10_1 zr_0_1 ?_
  refine j_aload_n hK dX10_wearByEcho_4 0 rfl rfl ?_
  refine j_getR hK fl_X10_42 dX10_wearByEcho_5 zo_0 zf_10_4 zr_0_4 ?_
  obtain ⟨r1, S2, h3, hf⟩ := bd_J hf
  refine k_callVv hK (c_X0_wearOut h3) dX10_wearByEcho_8 zclX0 zo_3 ml_X10_250 mi_X0_wearOut mx_X0_wearOut in_X0 mc_X0_wearOut hy_X0_wearOut ⟨by decide, by decide⟩ rfl (Nat.le_of_ble_eq_true rfl) ?_
  refine j_aload_n hK dX10_wearByEcho_11 0 rfl rfl ?_
  refine j_getR hK fl_X10_42 dX10_wearByEcho_12 zo_0 zf_10_4 zr_0_4 ?_
  refine j_getI hK fl_X10_254 dX10_wearByEcho_15 zo_92 zf_2_5 ?_
  refine j_pc (pc' := 18) rfl ?_
  exact j_iret hK dX10_wearByEcho_18 rfl (rt_I hA hf)
def f_X10_calls_71 (x3 : Int32) (S : St) : Option (Int32 × St) := lt (sI S 1 1 (0 : Int32)) (fun S1 => some (x3, S1))
theorem t_X10_calls_71 {K : CT} (hK : KO K cX10_calls RX10 4 6 (some .int)) {r : Int32} {S' : St} (hA : zans K = (some (.int r), S')) {x3 : Int32} {S : St} (hf : f_X10_calls_71 x3 S = some (r, S')) : J K 71 [(0, .ref 0), (3, .int x3)] [] S := by
  unfold f_X10_calls_71 at hf
  refine j_aload_n hK dX10_calls_71 0 rfl rfl ?_
  refine j_getR hK fl_X10_10 dX10_calls_72 zo_0 zf_10_0 zr_0_0 ?_
  refine j_iconst hK (0 : Int32) dX10_calls_75 ic_0 ?_
  refine j_putI hK fl_X10_88 dX10_calls_76 zo_1 zf_8_1 ?_
  refine lt_S hf (fun S1 hf => ?_)
  refine j_iload_n hK dX10_calls_79 1 rfl rfl ?_
  exact j_iret hK dX10_calls_80 rfl (rt_I hA hf)
def f_X10_calls (p1 : Int32) (p2 : Int32) (S : St) : Option (Int32 × St) := bd (f_X10_refusalOfCall p1 p2 S) (fun r2 S3 => (if r2 = 0 then bd (f_X4_mark S3) (fun r5 S6 => bd (f_X5_begin S6) (fun r8 S9 => bd (f_X5_put (gI S9 92 4).toInt64 S9) (fun r11 S12 => bd (f_X10_putLetters (gI S12 1 1) S12) (fun r14 S15 => bd (f_X10_wearByEcho S15) (fun r17 S18 => bd (f_X4_settle (1 : Int32) S18) (fun r20 S21 => f_X10_calls_71 r17 S21)))))) else f_X10_calls_71 r2 S3))
theorem c_X10_calls {p1 : Int32} {p2 : Int32} {S : St} {r : Int32} {S' : St} (hf : f_X10_calls p1 p2 S = some (r, S')) : zM yX10_calls cX10_calls 4 6 (some .int) [.ref 0, .int p1, .int p2] S (some (.int r)) S' := by
  refine zM_of (zpl (by decide)) (Nat.le_of_ble_eq_true rfl) rfl (fun K hK hA => ?_)
  unfold f_X10_calls at hf
  refine j_aload_n hK dX10_calls_0 0 rfl rfl ?_
  refine j_iload_n hK dX10_calls_1 1 rfl rfl ?_
  refine j_iload_n hK dX10_calls_2 2 rfl rfl ?_
  obtain ⟨r2, S3, h4, hf⟩ := bd_J hf
  refine k_callVi hK (c_X10_refusalOfCall h4) dX10_calls_3 zclX10 zo_0 ml_X10_178 mi_X10_refusalOfCall mx_X10_refusalOfCall in_X10 mc_X10_refusalOfCall hy_X10_refusalOfCall ⟨by decide, by decide⟩ rfl (Nat.le_of_ble_eq_true rfl) ?_
  refine j_istore_n hK (L' := [(3, .int r2), (0, .ref 0), (1, .int p1), (2, .int p2)]) dX10_calls_6 rfl (by decide) rfl ?_
  refine j_iload_n hK dX10_calls_7 0 rfl rfl ?_
  refine j_if_ne hK 71 dX10_calls_8 (by decide) (fun hc => ?_) (fun hc => ?_)
  · replace hf := if_2 hc hf
    refine j_sub [1, 0] rfl ?_
    exact t_X10_calls_71 hK hA  hf
  · replace hf := if_1 hc hf
    refine j_aload_n hK dX10_calls_11 1 rfl rfl ?_
    refine j_getR hK fl_X10_33 dX10_calls_12 zo_0 zf_10_3 zr_0_3 ?_
    refine j_aload_n hK dX10_calls_15 1 rfl rfl ?_
    refine j_getR hK fl_X10_19 dX10_calls_16 zo_0 zf_10_1 zr_0_1 ?_
    refine j_getR hK fl_X10_129 dX10_calls_19 zo_3 zf_0_3 zr_3_3 ?_
    obtain ⟨r5, S6, h7, hf⟩ := bd_J hf
    refine k_callVv hK (c_X4_mark h7) dX10_calls_22 zclX4 zo_12 ml_X10_181 mi_X4_mark mx_X4_mark in_X4 mc_X4_mark hy_X4_mark ⟨by decide, by decide⟩ rfl (Nat.le_of_ble_eq_true rfl) ?_
    refine j_aload_n hK dX10_calls_25 1 rfl rfl ?_
    refine j_pc (pc' := 26) rfl ?_
    refine j_getR hK fl_X10_26 dX10_calls_26 zo_0 zf_10_2 zr_0_2 ?_
    obtain ⟨r8, S9, h10, hf⟩ := bd_J hf
    refine k_callVv hK (c_X5_begin h10) dX10_calls_29 zclX5 zo_10 ml_X10_185 mi_X5_begin mx_X5_begin in_X5 mc_X5_begin hy_X5_begin ⟨by decide, by decide⟩ rfl (Nat.le_of_ble_eq_true rfl) ?_
    refine j_aload_n hK dX10_calls_32 1 rfl rfl ?_
    refine j_getR hK fl_X10_26 dX10_calls_33 zo_0 zf_10_2 zr_0_2 ?_
    refine j_aload_n hK dX10_calls_36 1 rfl rfl ?_
    refine j_getR hK fl_X10_42 dX10_calls_37 zo_0 zf_10_4 zr_0_4 ?_
    refine j_getI hK fl_X10_188 dX10_calls_40 zo_92 zf_2_4 ?_
    refine j_i2l hK dX10_calls_43 ?_
    refine j_pc (pc' := 44) rfl ?_
    obtain ⟨r11, S12, h13, hf⟩ := bd_J hf
    refine k_callVv hK (c_X5_put h13) dX10_calls_44 zclX5 zo_10 ml_X10_191 mi_X5_put mx_X5_put in_X5 mc_X5_put hy_X5_put ⟨by decide, by decide⟩ rfl (Nat.le_of_ble_eq_true rfl) ?_
    refine j_aload_n hK dX10_calls_47 1 rfl rfl ?_
    refine j_aload_n hK dX10_calls_48 1 rfl rfl ?_
    refine j_getR hK fl_X10_10 dX10_calls_49 zo_0 zf_10_0 zr_0_0 ?_
    refine j_getI hK fl_X10_88 dX10_calls_52 zo_1 zf_8_1 ?_
    obtain ⟨r14, S15, h16, hf⟩ := bd_J hf
    refine k_callVv hK (c_X10_putLetters h16) dX10_calls_55 zclX10 zo_0 ml_X10_195 mi_X10_putLetters mx_X10_putLetters in_X10 mc_X10_putLetters hy_X10_putLetters ⟨by decide, by decide⟩ rfl (Nat.le_of_ble_eq_true rfl) ?_
    refine j_aload_n hK dX10_calls_58 1 rfl rfl ?_
    obtain ⟨r17, S18, h19, hf⟩ := bd_J hf
    refine k_callVi hK (c_X10_wearByEcho h19) dX10_calls_59 zclX10 zo_0 ml_X10_199 mi_X10_wearByEcho mx_X10_wearByEcho in_X10 mc_X10_wearByEcho hy_X10_wearByEcho ⟨by decide, by decide⟩ rfl (Nat.le_of_ble_eq_true rfl) ?_
    refine j_pc (pc' := 62) rfl ?_
    refine j_istore_n hK (L' := [(3, .int r17), (0, .ref 0), (1, .int p1), (2, .int p2)]) dX10_calls_62 rfl (by decide) rfl ?_
    refine j_aload_n hK dX10_calls_63 1 rfl rfl ?_
    refine j_getR hK fl_X10_33 dX10_calls_64 zo_0 zf_10_3 zr_0_3 ?_
    refine j_iconst hK (1 : Int32) dX10_calls_67 ic_1 ?_
    obtain ⟨r20, S21, h22, hf⟩ := bd_J hf
    refine k_callVv hK (c_X4_settle h22) dX10_calls_68 zclX4 zo_12 ml_X10_202 mi_X4_settle mx_X4_settle in_X4 mc_X4_settle hy_X4_settle ⟨by decide, by decide⟩ rfl (Nat.le_of_ble_eq_true rfl) ?_
    refine j_sub [1, 0] rfl ?_
    exact t_X10_calls_71 hK hA  hf
def f_X10_passHours (p1 : Int32) (S : St) : Option (Int32 × St) := (if p1 < 0 then some ((-1 : Int32), S) else (if p1 ≤ (60 : Int32) then bd (f_X0_heal p1 S) (fun r1 S2 => bd (f_X0_wearOfAll S2) (fun r4 S5 => some (r4, S5))) else some ((-1 : Int32), S)))
theorem c_X10_passHours {p1 : Int32} {S : St} {r : Int32} {S' : St} (hf : f_X10_passHours p1 S = some (r, S')) : zM yX10_passHours cX10_passHours 2 2 (some .int) [.ref 0, .int p1] S (some (.int r)) S' := by
  refine zM_of (zpl (by decide)) (Nat.le_of_ble_eq_true rfl) rfl (fun K hK hA => ?_)
  unfold f_X10_passHours at hf
  refine j_iload_n hK dX10_passHours_0 1 rfl rfl ?_
  refine j_if_lt hK 10 dX10_passHours_1 (by decide) (fun hc => ?_) (fun hc => ?_)
  · replace hf := if_1 hc hf
    refine j_iconst hK (-1 : Int32) dX10_passHours_10 ic_m1 ?_
    exact j_iret hK dX10_passHours_11 rfl (rt_I hA hf)
  · replace hf := if_2 hc hf
    refine j_iload_n hK dX10_passHours_4 1 rfl rfl ?_
    refine j_bipush hK (60 : Int32) dX10_passHours_5 bi_60 ?_
    refine j_icmp_le hK 12 dX10_passHours_7 (by decide) (fun hc => ?_) (fun hc => ?_)
    · replace hf := if_1 hc hf
      refine j_aload_n hK dX10_passHours_12 0 rfl rfl ?_
      refine j_getR hK fl_X10_19 dX10_passHours_13 zo_0 zf_10_1 zr_0_1 ?_
      refine j_iload_n hK dX10_passHours_16 1 rfl rfl ?_
      obtain ⟨r1, S2, h3, hf⟩ := bd_J hf
      refine k_callVv hK (c_X0_heal h3) dX10_passHours_17 zclX0 zo_3 ml_X10_257 mi_X0_heal mx_X0_heal in_X0 mc_X0_heal hy_X0_heal ⟨by decide, by decide⟩ rfl (Nat.le_of_ble_eq_true rfl) ?_
      refine j_aload_n hK dX10_passHours_20 0 rfl rfl ?_
      refine j_getR hK fl_X10_19 dX10_passHours_21 zo_0 zf_10_1 zr_0_1 ?_
      obtain ⟨r4, S5, h6, hf⟩ := bd_J hf
      refine k_callVi hK (c_X0_wearOfAll h6) dX10_passHours_24 zclX0 zo_3 ml_X10_166 mi_X0_wearOfAll mx_X0_wearOfAll in_X0 mc_X0_wearOfAll hy_X0_wearOfAll ⟨by decide, by decide⟩ rfl (Nat.le_of_ble_eq_true rfl) ?_
      refine j_pc (pc' := 27) rfl ?_
      exact j_iret hK dX10_passHours_27 rfl (rt_I hA hf)
    · replace hf := if_2 hc hf
      refine j_iconst hK (-1 : Int32) dX10_passHours_10 ic_m1 ?_
      exact j_iret hK dX10_passHours_11 rfl (rt_I hA hf)
def f_X10_hours_33 (x2 : Int32) (s1 : Int32) (S : St) : Option (Int32 × St) := bd (f_X4_settle s1 S) (fun r1 S2 => some (x2, S2))
theorem t_X10_hours_33 {K : CT} (hK : KO K cX10_hours RX10 3 3 (some .int)) {r : Int32} {S' : St} (hA : zans K = (some (.int r), S')) {x2 : Int32} {s1 : Int32} {S : St} (hf : f_X10_hours_33 x2 s1 S = some (r, S')) : J K 33 [(2, .int x2)] [.int s1, .ref 12] S := by
  unfold f_X10_hours_33 at hf
  obtain ⟨r1, S2, h3, hf⟩ := bd_J hf
  refine k_callVv hK (c_X4_settle h3) dX10_hours_33 zclX4 zo_12 ml_X10_202 mi_X4_settle mx_X4_settle in_X4 mc_X4_settle hy_X4_settle ⟨by decide, by decide⟩ rfl (Nat.le_of_ble_eq_true rfl) ?_
  refine j_iload_n hK dX10_hours_36 0 rfl rfl ?_
  exact j_iret hK dX10_hours_37 rfl (rt_I hA hf)
def f_X10_hours (p1 : Int32) (S : St) : Option (Int32 × St) := bd (f_X4_mark S) (fun r4 S5 => bd (f_X10_passHours p1 S5) (fun r7 S8 => (if r7 < 0 then f_X10_hours_33 r7 (0 : Int32) S8 else f_X10_hours_33 r7 (1 : Int32) S8)))
theorem c_X10_hours {p1 : Int32} {S : St} {r : Int32} {S' : St} (hf : f_X10_hours p1 S = some (r, S')) : zM yX10_hours cX10_hours 3 3 (some .int) [.ref 0, .int p1] S (some (.int r)) S' := by
  refine zM_of (zpl (by decide)) (Nat.le_of_ble_eq_true rfl) rfl (fun K hK hA => ?_)
  unfold f_X10_hours at hf
  refine j_aload_n hK dX10_hours_0 0 rfl rfl ?_
  refine j_getR hK fl_X10_33 dX10_hours_1 zo_0 zf_10_3 zr_0_3 ?_
  refine j_aload_n hK dX10_hours_4 0 rfl rfl ?_
  refine j_getR hK fl_X10_19 dX10_hours_5 zo_0 zf_10_1 zr_0_1 ?_
  refine j_getR hK fl_X10_129 dX10_hours_8 zo_3 zf_0_3 zr_3_3 ?_
  obtain ⟨r4, S5, h6, hf⟩ := bd_J hf
  refine k_callVv hK (c_X4_mark h6) dX10_hours_11 zclX4 zo_12 ml_X10_181 mi_X4_mark mx_X4_mark in_X4 mc_X4_mark hy_X4_mark ⟨by decide, by decide⟩ rfl (Nat.le_of_ble_eq_true rfl) ?_
  refine j_aload_n hK dX10_hours_14 0 rfl rfl ?_
  refine j_iload_n hK dX10_hours_15 1 rfl rfl ?_
  refine j_pc (pc' := 16) rfl ?_
  obtain ⟨r7, S8, h9, hf⟩ := bd_J hf
  refine k_callVi hK (c_X10_passHours h9) dX10_hours_16 zclX10 zo_0 ml_X10_206 mi_X10_passHours mx_X10_passHours in_X10 mc_X10_passHours hy_X10_passHours ⟨by decide, by decide⟩ rfl (Nat.le_of_ble_eq_true rfl) ?_
  refine j_istore_n hK (L' := [(2, .int r7), (0, .ref 0), (1, .int p1)]) dX10_hours_19 rfl (by decide) rfl ?_
  refine j_aload_n hK dX10_hours_20 1 rfl rfl ?_
  refine j_getR hK fl_X10_33 dX10_hours_21 zo_0 zf_10_3 zr_0_3 ?_
  refine j_iload_n hK dX10_hours_24 0 rfl rfl ?_
  refine j_if_lt hK 32 dX10_hours_25 (by decide) (fun hc => ?_) (fun hc => ?_)
  · replace hf := if_1 hc hf
    refine j_iconst hK (0 : Int32) dX10_hours_32 ic_0 ?_
    refine j_sub [0] rfl ?_
    exact t_X10_hours_33 hK hA  hf
  · replace hf := if_2 hc hf
    refine j_iconst hK (1 : Int32) dX10_hours_28 ic_1 ?_
    refine j_goto hK 33 dX10_hours_29 (by decide) ?_
    refine j_sub [0] rfl ?_
    exact t_X10_hours_33 hK hA  hf
def f_X10_turnPassage (p1 : Int32) (S : St) : Option (Int32 × St) := bd (f_X0_has p1 S) (fun r1 S2 => (if r1 = 0 then some ((-1 : Int32), S2) else lt (sI S2 6 3 ((gI S2 6 3) ^^^ ((1 : Int32) <<< (p1 &&& 31)))) (fun S4 => bd (f_J6_bitCount_0f7a4 (gI S4 6 3) S4) (fun r5 S6 => some (r5, S6)))))
theorem c_X10_turnPassage {p1 : Int32} {S : St} {r : Int32} {S' : St} (hf : f_X10_turnPassage p1 S = some (r, S')) : zM yX10_turnPassage cX10_turnPassage 2 2 (some .int) [.ref 0, .int p1] S (some (.int r)) S' := by
  refine zM_of (zpl (by decide)) (Nat.le_of_ble_eq_true rfl) rfl (fun K hK hA => ?_)
  unfold f_X10_turnPassage at hf
  refine j_aload_n hK dX10_turnPassage_0 0 rfl rfl ?_
  refine j_getR hK fl_X10_19 dX10_turnPassage_1 zo_0 zf_10_1 zr_0_1 ?_
  refine j_iload_n hK dX10_turnPassage_4 1 rfl rfl ?_
  obtain ⟨r1, S2, h3, hf⟩ := bd_J hf
  refine k_callVi hK (c_X0_has h3) dX10_turnPassage_5 zclX0 zo_3 ml_X10_116 mi_X0_has mx_X0_has in_X0 mc_X0_has hy_X0_has ⟨by decide, by decide⟩ rfl (Nat.le_of_ble_eq_true rfl) ?_
  refine j_if_ne hK 13 dX10_turnPassage_8 (by decide) (fun hc => ?_) (fun hc => ?_)
  · replace hf := if_2 hc hf
    refine j_aload_n hK dX10_turnPassage_13 0 rfl rfl ?_
    refine j_getR hK fl_X10_19 dX10_turnPassage_14 zo_0 zf_10_1 zr_0_1 ?_
    refine j_getR hK fl_X10_129 dX10_turnPassage_17 zo_3 zf_0_3 zr_3_3 ?_
    refine j_dup hK dX10_turnPassage_20 rfl ?_
    refine j_getI hK fl_X10_260 dX10_turnPassage_21 zo_6 zf_7_3 ?_
    refine j_iconst hK (1 : Int32) dX10_turnPassage_24 ic_1 ?_
    refine j_iload_n hK dX10_turnPassage_25 1 rfl rfl ?_
    refine j_pc (pc' := 26) rfl ?_
    refine j_ishl hK dX10_turnPassage_26 ?_
    refine j_ixor hK dX10_turnPassage_27 ?_
    refine j_putI hK fl_X10_260 dX10_turnPassage_28 zo_6 zf_7_3 ?_
    refine lt_S hf (fun S4 hf => ?_)
    refine j_aload_n hK dX10_turnPassage_31 0 rfl rfl ?_
    refine j_getR hK fl_X10_19 dX10_turnPassage_32 zo_0 zf_10_1 zr_0_1 ?_
    refine j_getR hK fl_X10_129 dX10_turnPassage_35 zo_3 zf_0_3 zr_3_3 ?_
    refine j_getI hK fl_X10_260 dX10_turnPassage_38 zo_6 zf_7_3 ?_
    obtain ⟨r5, S6, h7, hf⟩ := bd_J hf
    refine k_callSi hK (c_J6_bitCount_0f7a4 h7) dX10_turnPassage_41 ml_X10_263 ms_J6_bitCount_0f7a4 in_J6 mc_J6_bitCount_0f7a4 hy_J6_bitCount_0f7a4 ⟨by decide, by decide⟩ rfl (Nat.le_of_ble_eq_true rfl) ?_
    refine j_pc (pc' := 44) rfl ?_
    exact j_iret hK dX10_turnPassage_44 rfl (rt_I hA hf)
  · replace hf := if_1 hc hf
    refine j_iconst hK (-1 : Int32) dX10_turnPassage_11 ic_m1 ?_
    exact j_iret hK dX10_turnPassage_12 rfl (rt_I hA hf)
def f_X10_falls_33 (x2 : Int32) (s1 : Int32) (S : St) : Option (Int32 × St) := bd (f_X4_settle s1 S) (fun r1 S2 => some (x2, S2))
theorem t_X10_falls_33 {K : CT} (hK : KO K cX10_falls RX10 3 3 (some .int)) {r : Int32} {S' : St} (hA : zans K = (some (.int r), S')) {x2 : Int32} {s1 : Int32} {S : St} (hf : f_X10_falls_33 x2 s1 S = some (r, S')) : J K 33 [(2, .int x2)] [.int s1, .ref 12] S := by
  unfold f_X10_falls_33 at hf
  obtain ⟨r1, S2, h3, hf⟩ := bd_J hf
  refine k_callVv hK (c_X4_settle h3) dX10_falls_33 zclX4 zo_12 ml_X10_202 mi_X4_settle mx_X4_settle in_X4 mc_X4_settle hy_X4_settle ⟨by decide, by decide⟩ rfl (Nat.le_of_ble_eq_true rfl) ?_
  refine j_iload_n hK dX10_falls_36 0 rfl rfl ?_
  exact j_iret hK dX10_falls_37 rfl (rt_I hA hf)
def f_X10_falls (p1 : Int32) (S : St) : Option (Int32 × St) := bd (f_X4_mark S) (fun r4 S5 => bd (f_X10_turnPassage p1 S5) (fun r7 S8 => (if r7 < 0 then f_X10_falls_33 r7 (0 : Int32) S8 else f_X10_falls_33 r7 (1 : Int32) S8)))
theorem c_X10_falls {p1 : Int32} {S : St} {r : Int32} {S' : St} (hf : f_X10_falls p1 S = some (r, S')) : zM yX10_falls cX10_falls 3 3 (some .int) [.ref 0, .int p1] S (some (.int r)) S' := by
  refine zM_of (zpl (by decide)) (Nat.le_of_ble_eq_true rfl) rfl (fun K hK hA => ?_)
  unfold f_X10_falls at hf
  refine j_aload_n hK dX10_falls_0 0 rfl rfl ?_
  refine j_getR hK fl_X10_33 dX10_falls_1 zo_0 zf_10_3 zr_0_3 ?_
  refine j_aload_n hK dX10_falls_4 0 rfl rfl ?_
  refine j_getR hK fl_X10_19 dX10_falls_5 zo_0 zf_10_1 zr_0_1 ?_
  refine j_getR hK fl_X10_129 dX10_falls_8 zo_3 zf_0_3 zr_3_3 ?_
  obtain ⟨r4, S5, h6, hf⟩ := bd_J hf
  refine k_callVv hK (c_X4_mark h6) dX10_falls_11 zclX4 zo_12 ml_X10_181 mi_X4_mark mx_X4_mark in_X4 mc_X4_mark hy_X4_mark ⟨by decide, by decide⟩ rfl (Nat.le_of_ble_eq_true rfl) ?_
  refine j_aload_n hK dX10_falls_14 0 rfl rfl ?_
  refine j_iload_n hK dX10_falls_15 1 rfl rfl ?_
  refine j_pc (pc' := 16) rfl ?_
  obtain ⟨r7, S8, h9, hf⟩ := bd_J hf
  refine k_callVi hK (c_X10_turnPassage h9) dX10_falls_16 zclX10 zo_0 ml_X10_209 mi_X10_turnPassage mx_X10_turnPassage in_X10 mc_X10_turnPassage hy_X10_turnPassage ⟨by decide, by decide⟩ rfl (Nat.le_of_ble_eq_true rfl) ?_
  refine j_istore_n hK (L' := [(2, .int r7), (0, .ref 0), (1, .int p1)]) dX10_falls_19 rfl (by decide) rfl ?_
  refine j_aload_n hK dX10_falls_20 1 rfl rfl ?_
  refine j_getR hK fl_X10_33 dX10_falls_21 zo_0 zf_10_3 zr_0_3 ?_
  refine j_iload_n hK dX10_falls_24 0 rfl rfl ?_
  refine j_if_lt hK 32 dX10_falls_25 (by decide) (fun hc => ?_) (fun hc => ?_)
  · replace hf := if_1 hc hf
    refine j_iconst hK (0 : Int32) dX10_falls_32 ic_0 ?_
    refine j_sub [0] rfl ?_
    exact t_X10_falls_33 hK hA  hf
  · replace hf := if_2 hc hf
    refine j_iconst hK (1 : Int32) dX10_falls_28 ic_1 ?_
    refine j_goto hK 33 dX10_falls_29 (by decide) ?_
    refine j_sub [0] rfl ?_
    exact t_X10_falls_33 hK hA  hf
def f_X10_digPassage_77 (x1 : Int32) (x2 : Int32) (x3 : Int32) (x4 : Int32) (x5 : Int32) (S : St) : Option (Int32 × St) := if inb x1 12 then lt (sI S 7 x1.toNatClampNeg x2) (fun S2 => if inb x1 12 then lt (sI S2 8 x1.toNatClampNeg x3) (fun S4 => some ((((100 : Int32) + ((10 : Int32) * x4)) + x5), S4)) else none) else none
theorem t_X10_digPassage_77 {K : CT} (hK : KO K cX10_digPassage RX10 6 2 (some .int)) {r : Int32} {S' : St} (hA : zans K = (some (.int r), S')) {x1 : Int32} {x2 : Int32} {x3 : Int32} {x4 : Int32} {x5 : Int32} {S : St} (hf : f_X10_digPassage_77 x1 x2 x3 x4 x5 S = some (r, S')) : J K 77 [(0, .ref 0), (1, .int x1), (2, .int x2), (3, .int x3), (4, .int x4), (5, .int x5)] [] S := by
  unfold f_X10_digPassage_77 at hf
  refine j_aload_n hK dX10_digPassage_77 0 rfl rfl ?_
  refine j_getR hK fl_X10_19 dX10_digPassage_78 zo_0 zf_10_1 zr_0_1 ?_
  refine j_getR hK fl_X10_129 dX10_digPassage_81 zo_3 zf_0_3 zr_3_3 ?_
  refine j_getR hK fl_X10_133 dX10_digPassage_84 zo_6 zf_7_0 zr_6_0 ?_
  refine j_iload_n hK dX10_digPassage_87 1 rfl rfl ?_
  refine j_iload_n hK dX10_digPassage_88 2 rfl rfl ?_
  obtain ⟨hi1, hf⟩ := gd hf
  refine k_iast hK dX10_digPassage_89 zb_7 hi1 rfl ?_
  refine lt_S hf (fun S2 hf => ?_)
  refine j_aload_n hK dX10_digPassage_90 0 rfl rfl ?_
  refine j_pc (pc' := 91) rfl ?_
  refine j_getR hK fl_X10_19 dX10_digPassage_91 zo_0 zf_10_1 zr_0_1 ?_
  refine j_getR hK fl_X10_129 dX10_digPassage_94 zo_3 zf_0_3 zr_3_3 ?_
  refine j_getR hK fl_X10_138 dX10_digPassage_97 zo_6 zf_7_1 zr_6_1 ?_
  refine j_iload_n hK dX10_digPassage_100 1 rfl rfl ?_
  refine j_iload_n hK dX10_digPassage_101 3 rfl rfl ?_
  obtain ⟨hi3, hf⟩ := gd hf
  refine k_iast hK dX10_digPassage_102 zb_8 hi3 rfl ?_
  refine lt_S hf (fun S4 hf => ?_)
  refine j_bipush hK (100 : Int32) dX10_digPassage_103 bi_100 ?_
  refine j_bipush hK (10 : Int32) dX10_digPassage_105 bi_10 ?_
  refine j_pc (pc' := 107) rfl ?_
  refine j_iload hK dX10_digPassage_107 4 rfl ?_
  refine j_imul hK dX10_digPassage_109 ?_
  refine j_iadd hK dX10_digPassage_110 ?_
  refine j_iload hK dX10_digPassage_111 5 rfl ?_
  refine j_iadd hK dX10_digPassage_113 ?_
  exact j_iret hK dX10_digPassage_114 rfl (rt_I hA hf)
def f_X10_digPassage (p1 : Int32) (p2 : Int32) (p3 : Int32) (S : St) : Option (Int32 × St) := bd (f_X0_has p1 S) (fun r5 S6 => (if r5 = 0 then some ((-1 : Int32), S6) else (if p2 < (1 : Int32) then some ((-1 : Int32), S6) else (if (9 : Int32) < p2 then some ((-1 : Int32), S6) else (if p3 < 0 then some ((-1 : Int32), S6) else (if p3 ≤ (9 : Int32) then if inb p1 12 then lt (gI S6 7 p1.toNatClampNeg) (fun y9 => if inb p1 12 then lt (gI S6 8 p1.toNatClampNeg) (fun y11 => (if y9 = p2 then (if y11 = p3 then some ((-2 : Int32), S6) else f_X10_digPassage_77 p1 p2 p3 y9 y11 S6) else f_X10_digPassage_77 p1 p2 p3 y9 y11 S6)) else none) else none else some ((-1 : Int32), S6)))))))
theorem c_X10_digPassage {p1 : Int32} {p2 : Int32} {p3 : Int32} {S : St} {r : Int32} {S' : St} (hf : f_X10_digPassage p1 p2 p3 S = some (r, S')) : zM yX10_digPassage cX10_digPassage 6 2 (some .int) [.ref 0, .int p1, .int p2, .int p3] S (some (.int r)) S' := by
  refine zM_of (zpl (by decide)) (Nat.le_of_ble_eq_true rfl) rfl (fun K hK hA => ?_)
  unfold f_X10_digPassage at hf
  refine j_aload_n hK dX10_digPassage_0 0 rfl rfl ?_
  refine j_getR hK fl_X10_19 dX10_digPassage_1 zo_0 zf_10_1 zr_0_1 ?_
  refine j_iload_n hK dX10_digPassage_4 1 rfl rfl ?_
  obtain ⟨r5, S6, h7, hf⟩ := bd_J hf
  refine k_callVi hK (c_X0_has h7) dX10_digPassage_5 zclX0 zo_3 ml_X10_116 mi_X0_has mx_X0_has in_X0 mc_X0_has hy_X0_has ⟨by decide, by decide⟩ rfl (Nat.le_of_ble_eq_true rfl) ?_
  refine j_if_eq hK 32 dX10_digPassage_8 (by decide) (fun hc => ?_) (fun hc => ?_)
  · replace hf := if_1 hc hf
    refine j_iconst hK (-1 : Int32) dX10_digPassage_32 ic_m1 ?_
    exact j_iret hK dX10_digPassage_33 rfl (rt_I hA hf)
  · replace hf := if_2 hc hf
    refine j_iload_n hK dX10_digPassage_11 2 rfl rfl ?_
    refine j_iconst hK (1 : Int32) dX10_digPassage_12 ic_1 ?_
    refine j_icmp_lt hK 32 dX10_digPassage_13 (by decide) (fun hc => ?_) (fun hc => ?_)
    · replace hf := if_1 hc hf
      refine j_iconst hK (-1 : Int32) dX10_digPassage_32 ic_m1 ?_
      exact j_iret hK dX10_digPassage_33 rfl (rt_I hA hf)
    · replace hf := if_2 hc hf
      refine j_iload_n hK dX10_digPassage_16 2 rfl rfl ?_
      refine j_bipush hK (9 : Int32) dX10_digPassage_17 bi_9 ?_
      refine j_icmp_gt hK 32 dX10_digPassage_19 (by decide) (fun hc => ?_) (fun hc => ?_)
      · replace hf := if_1 hc hf
        refine j_iconst hK (-1 : Int32) dX10_digPassage_32 ic_m1 ?_
        exact j_iret hK dX10_digPassage_33 rfl (rt_I hA hf)
      · replace hf := if_2 hc hf
        refine j_iload_n hK dX10_digPassage_22 3 rfl rfl ?_
        refine j_if_lt hK 32 dX10_digPassage_23 (by decide) (fun hc => ?_) (fun hc => ?_)
        · replace hf := if_1 hc hf
          refine j_iconst hK (-1 : Int32) dX10_digPassage_32 ic_m1 ?_
          exact j_iret hK dX10_digPassage_33 rfl (rt_I hA hf)
        · replace hf := if_2 hc hf
          refine j_iload_n hK dX10_digPassage_26 3 rfl rfl ?_
          refine j_bipush hK (9 : Int32) dX10_digPassage_27 bi_9 ?_
          refine j_icmp_le hK 34 dX10_digPassage_29 (by decide) (fun hc => ?_) (fun hc => ?_)
          · replace hf := if_1 hc hf
            refine j_aload_n hK dX10_digPassage_34 0 rfl rfl ?_
            refine j_getR hK fl_X10_19 dX10_digPassage_35 zo_0 zf_10_1 zr_0_1 ?_
            refine j_getR hK fl_X10_129 dX10_digPassage_38 zo_3 zf_0_3 zr_3_3 ?_
            refine j_getR hK fl_X10_133 dX10_digPassage_41 zo_6 zf_7_0 zr_6_0 ?_
            refine j_iload_n hK dX10_digPassage_44 1 rfl rfl ?_
            obtain ⟨hi8, hf⟩ := gd hf
            refine k_iald hK dX10_digPassage_45 zb_7 hi8 rfl ?_
            refine lt_I hf (fun y9 hf => ?_)
            refine j_istore hK (L' := [(4, .int y9), (0, .ref 0), (1, .int p1), (2, .int p2), (3, .int p3)]) dX10_digPassage_46 (by decide) rfl ?_
            refine j_pc (pc' := 48) rfl ?_
            refine j_aload_n hK dX10_digPassage_48 1 rfl rfl ?_
            refine j_getR hK fl_X10_19 dX10_digPassage_49 zo_0 zf_10_1 zr_0_1 ?_
            refine j_getR hK fl_X10_129 dX10_digPassage_52 zo_3 zf_0_3 zr_3_3 ?_
            refine j_getR hK fl_X10_138 dX10_digPassage_55 zo_6 zf_7_1 zr_6_1 ?_
            refine j_iload_n hK dX10_digPassage_58 2 rfl rfl ?_
            obtain ⟨hi10, hf⟩ := gd hf
            refine k_iald hK dX10_digPassage_59 zb_8 hi10 rfl ?_
            refine lt_I hf (fun y11 hf => ?_)
            refine j_istore hK (L' := [(5, .int y11), (4, .int y9), (0, .ref 0), (1, .int p1), (2, .int p2), (3, .int p3)]) dX10_digPassage_60 (by decide) rfl ?_
            refine j_iload hK dX10_digPassage_62 1 rfl ?_
            refine j_pc (pc' := 64) rfl ?_
            refine j_iload_n hK dX10_digPassage_64 4 rfl rfl ?_
            refine j_icmp_ne hK 77 dX10_digPassage_65 (by decide) (fun hc => ?_) (fun hc => ?_)
            · replace hf := if_2 hc hf
              refine j_sub [2, 3, 4, 5, 1, 0] rfl ?_
              exact t_X10_digPassage_77 hK hA  hf
            · replace hf := if_1 hc hf
              refine j_iload hK dX10_digPassage_68 0 rfl ?_
              refine j_iload_n hK dX10_digPassage_70 5 rfl rfl ?_
              refine j_icmp_ne hK 77 dX10_digPassage_71 (by decide) (fun hc => ?_) (fun hc => ?_)
              · replace hf := if_2 hc hf
                refine j_sub [2, 3, 4, 5, 1, 0] rfl ?_
                exact t_X10_digPassage_77 hK hA  hf
              · replace hf := if_1 hc hf
                refine j_bipush hK (-2 : Int32) dX10_digPassage_74 bi_m2 ?_
                exact j_iret hK dX10_digPassage_76 rfl (rt_I hA hf)
          · replace hf := if_2 hc hf
            refine j_iconst hK (-1 : Int32) dX10_digPassage_32 ic_m1 ?_
            exact j_iret hK dX10_digPassage_33 rfl (rt_I hA hf)
def f_X10_digs_37 (x4 : Int32) (s1 : Int32) (S : St) : Option (Int32 × St) := bd (f_X4_settle s1 S) (fun r1 S2 => some (x4, S2))
theorem t_X10_digs_37 {K : CT} (hK : KO K cX10_digs RX10 5 3 (some .int)) {r : Int32} {S' : St} (hA : zans K = (some (.int r), S')) {x4 : Int32} {s1 : Int32} {S : St} (hf : f_X10_digs_37 x4 s1 S = some (r, S')) : J K 37 [(4, .int x4)] [.int s1, .ref 12] S := by
  unfold f_X10_digs_37 at hf
  obtain ⟨r1, S2, h3, hf⟩ := bd_J hf
  refine k_callVv hK (c_X4_settle h3) dX10_digs_37 zclX4 zo_12 ml_X10_202 mi_X4_settle mx_X4_settle in_X4 mc_X4_settle hy_X4_settle ⟨by decide, by decide⟩ rfl (Nat.le_of_ble_eq_true rfl) ?_
  refine j_iload hK dX10_digs_40 0 rfl ?_
  exact j_iret hK dX10_digs_42 rfl (rt_I hA hf)
def f_X10_digs (p1 : Int32) (p2 : Int32) (p3 : Int32) (S : St) : Option (Int32 × St) := bd (f_X4_mark S) (fun r4 S5 => bd (f_X10_digPassage p1 p2 p3 S5) (fun r7 S8 => (if r7 < 0 then f_X10_digs_37 r7 (0 : Int32) S8 else f_X10_digs_37 r7 (1 : Int32) S8)))
theorem c_X10_digs {p1 : Int32} {p2 : Int32} {p3 : Int32} {S : St} {r : Int32} {S' : St} (hf : f_X10_digs p1 p2 p3 S = some (r, S')) : zM yX10_digs cX10_digs 5 3 (some .int) [.ref 0, .int p1, .int p2, .int p3] S (some (.int r)) S' := by
  refine zM_of (zpl (by decide)) (Nat.le_of_ble_eq_true rfl) rfl (fun K hK hA => ?_)
  unfold f_X10_digs at hf
  refine j_aload_n hK dX10_digs_0 0 rfl rfl ?_
  refine j_getR hK fl_X10_33 dX10_digs_1 zo_0 zf_10_3 zr_0_3 ?_
  refine j_aload_n hK dX10_digs_4 0 rfl rfl ?_
  refine j_getR hK fl_X10_19 dX10_digs_5 zo_0 zf_10_1 zr_0_1 ?_
  refine j_getR hK fl_X10_129 dX10_digs_8 zo_3 zf_0_3 zr_3_3 ?_
  obtain ⟨r4, S5, h6, hf⟩ := bd_J hf
  refine k_callVv hK (c_X4_mark h6) dX10_digs_11 zclX4 zo_12 ml_X10_181 mi_X4_mark mx_X4_mark in_X4 mc_X4_mark hy_X4_mark ⟨by decide, by decide⟩ rfl (Nat.le_of_ble_eq_true rfl) ?_
  refine j_aload_n hK dX10_digs_14 0 rfl rfl ?_
  refine j_iload_n hK dX10_digs_15 1 rfl rfl ?_
  refine j_pc (pc' := 16) rfl ?_
  refine j_iload_n hK dX10_digs_16 2 rfl rfl ?_
  refine j_iload_n hK dX10_digs_17 3 rfl rfl ?_
  obtain ⟨r7, S8, h9, hf⟩ := bd_J hf
  refine k_callVi hK (c_X10_digPassage h9) dX10_digs_18 zclX10 zo_0 ml_X10_212 mi_X10_digPassage mx_X10_digPassage in_X10 mc_X10_digPassage hy_X10_digPassage ⟨by decide, by decide⟩ rfl (Nat.le_of_ble_eq_true rfl) ?_
  refine j_istore hK (L' := [(4, .int r7), (0, .ref 0), (1, .int p1), (2, .int p2), (3, .int p3)]) dX10_digs_21 (by decide) rfl ?_
  refine j_aload_n hK dX10_digs_23 1 rfl rfl ?_
  refine j_getR hK fl_X10_33 dX10_digs_24 zo_0 zf_10_3 zr_0_3 ?_
  refine j_iload hK dX10_digs_27 0 rfl ?_
  refine j_if_lt hK 36 dX10_digs_29 (by decide) (fun hc => ?_) (fun hc => ?_)
  · replace hf := if_1 hc hf
    refine j_iconst hK (0 : Int32) dX10_digs_36 ic_0 ?_
    refine j_sub [0] rfl ?_
    exact t_X10_digs_37 hK hA  hf
  · replace hf := if_2 hc hf
    refine j_iconst hK (1 : Int32) dX10_digs_32 ic_1 ?_
    refine j_goto hK 37 dX10_digs_33 (by decide) ?_
    refine j_sub [0] rfl ?_
    exact t_X10_digs_37 hK hA  hf
def f_X10_doAct (p1 : Int32) (S : St) : Option (Int32 × St) := if inb p1 80 then (if (gI S 2 p1.toNatClampNeg) = (109 : Int32) then bd (f_X8_digit (p1 + (1 : Int32)) S) (fun r3 S4 => bd (f_X8_digit (p1 + (2 : Int32)) S4) (fun r6 S7 => bd (f_X8_digit (p1 + (3 : Int32)) S7) (fun r9 S10 => bd (f_X10_digPassage r3 r6 r9 S10) (fun r12 S13 => some (r12, S13))))) else (if (gI S 2 p1.toNatClampNeg) = (110 : Int32) then bd (f_X8_digit (p1 + (1 : Int32)) S) (fun r16 S17 => bd (f_X10_passHours r16 S17) (fun r19 S20 => some (r19, S20))) else (if (gI S 2 p1.toNatClampNeg) = (120 : Int32) then bd (f_X8_digit (p1 + (1 : Int32)) S) (fun r23 S24 => bd (f_X10_turnPassage r23 S24) (fun r26 S27 => some (r26, S27))) else bd (f_X8_digit (p1 + (1 : Int32)) S) (fun r29 S30 => bd (f_X8_digit (p1 + (2 : Int32)) S30) (fun r32 S33 => bd (f_X2_goes r29 r32 S33) (fun r35 S36 => (if r35 = 0 then some ((-100 : Int32), S36) else bd (f_X10_wearByEcho S36) (fun r38 S39 => some (r38, S39))))))))) else none
theorem c_X10_doAct {p1 : Int32} {S : St} {r : Int32} {S' : St} (hf : f_X10_doAct p1 S = some (r, S')) : zM yX10_doAct cX10_doAct 2 5 (some .int) [.ref 0, .int p1] S (some (.int r)) S' := by
  refine zM_of (zpl (by decide)) (Nat.le_of_ble_eq_true rfl) rfl (fun K hK hA => ?_)
  unfold f_X10_doAct at hf
  refine j_aload_n hK dX10_doAct_0 0 rfl rfl ?_
  refine j_getR hK fl_X10_10 dX10_doAct_1 zo_0 zf_10_0 zr_0_0 ?_
  refine j_getR hK fl_X10_91 dX10_doAct_4 zo_1 zf_8_0 zr_1_0 ?_
  refine j_iload_n hK dX10_doAct_7 1 rfl rfl ?_
  obtain ⟨hi1, hf⟩ := gd hf
  refine k_cald hK dX10_doAct_8 zb_2 hi1 rfl ?_
  by_cases hs2 : (gI S 2 p1.toNatClampNeg) = (109 : Int32)
  · replace hf := if_1 hs2 hf
    refine j_lookC hK (109 : Int32) 74 dX10_doAct_9 hs2 (by decide) (by decide) (by decide) ?_
    refine j_aload_n hK dX10_doAct_74 0 rfl rfl ?_
    refine j_aload_n hK dX10_doAct_75 0 rfl rfl ?_
    refine j_getR hK fl_X10_10 dX10_doAct_76 zo_0 zf_10_0 zr_0_0 ?_
    refine j_iload_n hK dX10_doAct_79 1 rfl rfl ?_
    refine j_iconst hK (1 : Int32) dX10_doAct_80 ic_1 ?_
    refine j_iadd hK dX10_doAct_81 ?_
    obtain ⟨r3, S4, h5, hf⟩ := bd_J hf
    refine k_callVi hK (c_X8_digit h5) dX10_doAct_82 zclX8 zo_1 ml_X10_102 mi_X8_digit mx_X8_digit in_X8 mc_X8_digit hy_X8_digit ⟨by decide, by decide⟩ rfl (Nat.le_of_ble_eq_true rfl) ?_
    refine j_pc (pc' := 85) rfl ?_
    refine j_aload_n hK dX10_doAct_85 0 rfl rfl ?_
    refine j_getR hK fl_X10_10 dX10_doAct_86 zo_0 zf_10_0 zr_0_0 ?_
    refine j_iload_n hK dX10_doAct_89 1 rfl rfl ?_
    refine j_iconst hK (2 : Int32) dX10_doAct_90 ic_2 ?_
    refine j_iadd hK dX10_doAct_91 ?_
    obtain ⟨r6, S7, h8, hf⟩ := bd_J hf
    refine k_callVi hK (c_X8_digit h8) dX10_doAct_92 zclX8 zo_1 ml_X10_102 mi_X8_digit mx_X8_digit in_X8 mc_X8_digit hy_X8_digit ⟨by decide, by decide⟩ rfl (Nat.le_of_ble_eq_true rfl) ?_
    refine j_aload_n hK dX10_doAct_95 0 rfl rfl ?_
    refine j_getR hK fl_X10_10 dX10_doAct_96 zo_0 zf_10_0 zr_0_0 ?_
    refine j_pc (pc' := 99) rfl ?_
    refine j_iload_n hK dX10_doAct_99 1 rfl rfl ?_
    refine j_iconst hK (3 : Int32) dX10_doAct_100 ic_3 ?_
    refine j_iadd hK dX10_doAct_101 ?_
    obtain ⟨r9, S10, h11, hf⟩ := bd_J hf
    refine k_callVi hK (c_X8_digit h11) dX10_doAct_102 zclX8 zo_1 ml_X10_102 mi_X8_digit mx_X8_digit in_X8 mc_X8_digit hy_X8_digit ⟨by decide, by decide⟩ rfl (Nat.le_of_ble_eq_true rfl) ?_
    obtain ⟨r12, S13, h14, hf⟩ := bd_J hf
    refine k_callVi hK (c_X10_digPassage h14) dX10_doAct_105 zclX10 zo_0 ml_X10_212 mi_X10_digPassage mx_X10_digPassage in_X10 mc_X10_digPassage hy_X10_digPassage ⟨by decide, by decide⟩ rfl (Nat.le_of_ble_eq_true rfl) ?_
    exact j_iret hK dX10_doAct_108 rfl (rt_I hA hf)
  · replace hf := if_2 hs2 hf
    by_cases hs15 : (gI S 2 p1.toNatClampNeg) = (110 : Int32)
    · replace hf := if_1 hs15 hf
      refine j_lookC hK (110 : Int32) 44 dX10_doAct_9 hs15 (by decide) (by decide) (by decide) ?_
      refine j_aload_n hK dX10_doAct_44 0 rfl rfl ?_
      refine j_aload_n hK dX10_doAct_45 0 rfl rfl ?_
      refine j_getR hK fl_X10_10 dX10_doAct_46 zo_0 zf_10_0 zr_0_0 ?_
      refine j_iload_n hK dX10_doAct_49 1 rfl rfl ?_
      refine j_iconst hK (1 : Int32) dX10_doAct_50 ic_1 ?_
      refine j_iadd hK dX10_doAct_51 ?_
      obtain ⟨r16, S17, h18, hf⟩ := bd_J hf
      refine k_callVi hK (c_X8_digit h18) dX10_doAct_52 zclX8 zo_1 ml_X10_102 mi_X8_digit mx_X8_digit in_X8 mc_X8_digit hy_X8_digit ⟨by decide, by decide⟩ rfl (Nat.le_of_ble_eq_true rfl) ?_
      refine j_pc (pc' := 55) rfl ?_
      obtain ⟨r19, S20, h21, hf⟩ := bd_J hf
      refine k_callVi hK (c_X10_passHours h21) dX10_doAct_55 zclX10 zo_0 ml_X10_206 mi_X10_passHours mx_X10_passHours in_X10 mc_X10_passHours hy_X10_passHours ⟨by decide, by decide⟩ rfl (Nat.le_of_ble_eq_true rfl) ?_
      exact j_iret hK dX10_doAct_58 rfl (rt_I hA hf)
    · replace hf := if_2 hs15 hf
      by_cases hs22 : (gI S 2 p1.toNatClampNeg) = (120 : Int32)
      · replace hf := if_1 hs22 hf
        refine j_lookC hK (120 : Int32) 59 dX10_doAct_9 hs22 (by decide) (by decide) (by decide) ?_
        refine j_aload_n hK dX10_doAct_59 0 rfl rfl ?_
        refine j_aload_n hK dX10_doAct_60 0 rfl rfl ?_
        refine j_getR hK fl_X10_10 dX10_doAct_61 zo_0 zf_10_0 zr_0_0 ?_
        refine j_iload_n hK dX10_doAct_64 1 rfl rfl ?_
        refine j_iconst hK (1 : Int32) dX10_doAct_65 ic_1 ?_
        refine j_iadd hK dX10_doAct_66 ?_
        obtain ⟨r23, S24, h25, hf⟩ := bd_J hf
        refine k_callVi hK (c_X8_digit h25) dX10_doAct_67 zclX8 zo_1 ml_X10_102 mi_X8_digit mx_X8_digit in_X8 mc_X8_digit hy_X8_digit ⟨by decide, by decide⟩ rfl (Nat.le_of_ble_eq_true rfl) ?_
        refine j_pc (pc' := 70) rfl ?_
        obtain ⟨r26, S27, h28, hf⟩ := bd_J hf
        refine k_callVi hK (c_X10_turnPassage h28) dX10_doAct_70 zclX10 zo_0 ml_X10_209 mi_X10_turnPassage mx_X10_turnPassage in_X10 mc_X10_turnPassage hy_X10_turnPassage ⟨by decide, by decide⟩ rfl (Nat.le_of_ble_eq_true rfl) ?_
        exact j_iret hK dX10_doAct_73 rfl (rt_I hA hf)
      · replace hf := if_2 hs22 hf
        refine j_lookD hK 109 dX10_doAct_9 hs2 hs15 hs22 ?_
        refine j_aload_n hK dX10_doAct_109 0 rfl rfl ?_
        refine j_getR hK fl_X10_42 dX10_doAct_110 zo_0 zf_10_4 zr_0_4 ?_
        refine j_aload_n hK dX10_doAct_113 0 rfl rfl ?_
        refine j_getR hK fl_X10_10 dX10_doAct_114 zo_0 zf_10_0 zr_0_0 ?_
        refine j_iload_n hK dX10_doAct_117 1 rfl rfl ?_
        refine j_iconst hK (1 : Int32) dX10_doAct_118 ic_1 ?_
        refine j_iadd hK dX10_doAct_119 ?_
        refine j_pc (pc' := 120) rfl ?_
        obtain ⟨r29, S30, h31, hf⟩ := bd_J hf
        refine k_callVi hK (c_X8_digit h31) dX10_doAct_120 zclX8 zo_1 ml_X10_102 mi_X8_digit mx_X8_digit in_X8 mc_X8_digit hy_X8_digit ⟨by decide, by decide⟩ rfl (Nat.le_of_ble_eq_true rfl) ?_
        refine j_aload_n hK dX10_doAct_123 0 rfl rfl ?_
        refine j_getR hK fl_X10_10 dX10_doAct_124 zo_0 zf_10_0 zr_0_0 ?_
        refine j_iload_n hK dX10_doAct_127 1 rfl rfl ?_
        refine j_iconst hK (2 : Int32) dX10_doAct_128 ic_2 ?_
        refine j_iadd hK dX10_doAct_129 ?_
        obtain ⟨r32, S33, h34, hf⟩ := bd_J hf
        refine k_callVi hK (c_X8_digit h34) dX10_doAct_130 zclX8 zo_1 ml_X10_102 mi_X8_digit mx_X8_digit in_X8 mc_X8_digit hy_X8_digit ⟨by decide, by decide⟩ rfl (Nat.le_of_ble_eq_true rfl) ?_
        obtain ⟨r35, S36, h37, hf⟩ := bd_J hf
        refine k_callVi hK (c_X2_goes h37) dX10_doAct_133 zclX2 zo_92 ml_X10_236 mi_X2_goes mx_X2_goes in_X2 mc_X2_goes hy_X2_goes ⟨by decide, by decide⟩ rfl (Nat.le_of_ble_eq_true rfl) ?_
        refine j_pc (pc' := 136) rfl ?_
        refine j_if_eq hK 146 dX10_doAct_136 (by decide) (fun hc => ?_) (fun hc => ?_)
        · replace hf := if_1 hc hf
          refine j_bipush hK (-100 : Int32) dX10_doAct_146 bi_m100 ?_
          exact j_iret hK dX10_doAct_148 rfl (rt_I hA hf)
        · replace hf := if_2 hc hf
          refine j_aload_n hK dX10_doAct_139 0 rfl rfl ?_
          obtain ⟨r38, S39, h40, hf⟩ := bd_J hf
          refine k_callVi hK (c_X10_wearByEcho h40) dX10_doAct_140 zclX10 zo_0 ml_X10_199 mi_X10_wearByEcho mx_X10_wearByEcho in_X10 mc_X10_wearByEcho hy_X10_wearByEcho ⟨by decide, by decide⟩ rfl (Nat.le_of_ble_eq_true rfl) ?_
          refine j_goto hK 148 dX10_doAct_143 (by decide) ?_
          exact j_iret hK dX10_doAct_148 rfl (rt_I hA hf)
def f_X10_season_154 (x2 : Int32) (s1 : Int64) (S : St) : Option (Int32 × St) := bd (f_X5_put s1 S) (fun r1 S2 => bd (f_X5_put (gI S2 6 5).toInt64 S2) (fun r4 S5 => some (x2, S5)))
theorem t_X10_season_154 {K : CT} (hK : KO K cX10_season RX10 5 6 (some .int)) {r : Int32} {S' : St} (hA : zans K = (some (.int r), S')) {x2 : Int32} {s1 : Int64} {S : St} (hf : f_X10_season_154 x2 s1 S = some (r, S')) : J K 154 [(0, .ref 0), (2, .int x2)] [.long s1, .ref 10] S := by
  unfold f_X10_season_154 at hf
  obtain ⟨r1, S2, h3, hf⟩ := bd_J hf
  refine k_callVv hK (c_X5_put h3) dX10_season_154 zclX5 zo_10 ml_X10_191 mi_X5_put mx_X5_put in_X5 mc_X5_put hy_X5_put ⟨by decide, by decide⟩ rfl (Nat.le_of_ble_eq_true rfl) ?_
  refine j_aload_n hK dX10_season_157 0 rfl rfl ?_
  refine j_getR hK fl_X10_26 dX10_season_158 zo_0 zf_10_2 zr_0_2 ?_
  refine j_aload_n hK dX10_season_161 0 rfl rfl ?_
  refine j_getR hK fl_X10_19 dX10_season_162 zo_0 zf_10_1 zr_0_1 ?_
  refine j_getR hK fl_X10_129 dX10_season_165 zo_3 zf_0_3 zr_3_3 ?_
  refine j_getI hK fl_X10_225 dX10_season_168 zo_6 zf_7_5 ?_
  refine j_i2l hK dX10_season_171 ?_
  refine j_pc (pc' := 172) rfl ?_
  obtain ⟨r4, S5, h6, hf⟩ := bd_J hf
  refine k_callVv hK (c_X5_put h6) dX10_season_172 zclX5 zo_10 ml_X10_191 mi_X5_put mx_X5_put in_X5 mc_X5_put hy_X5_put ⟨by decide, by decide⟩ rfl (Nat.le_of_ble_eq_true rfl) ?_
  refine j_iload_n hK dX10_season_175 1 rfl rfl ?_
  exact j_iret hK dX10_season_176 rfl (rt_I hA hf)
def f_X10_season_131 (x2 : Int32) (x3 : Int32) (s1 : Int32) (S : St) : Option (Int32 × St) := bd (f_X4_settle s1 S) (fun r7 S8 => bd (f_X5_begin S8) (fun r10 S11 => (if x3 = 0 then f_X10_season_154 x2 (0 : Int64) S11 else f_X10_season_154 x2 (1 : Int64) S11)))
theorem t_X10_season_131 {K : CT} (hK : KO K cX10_season RX10 5 6 (some .int)) {r : Int32} {S' : St} (hA : zans K = (some (.int r), S')) {x2 : Int32} {x3 : Int32} {s1 : Int32} {S : St} (hf : f_X10_season_131 x2 x3 s1 S = some (r, S')) : J K 131 [(0, .ref 0), (2, .int x2), (3, .int x3)] [.int s1, .ref 12] S := by
  unfold f_X10_season_131 at hf
  obtain ⟨r7, S8, h9, hf⟩ := bd_J hf
  refine k_callVv hK (c_X4_settle h9) dX10_season_131 zclX4 zo_12 ml_X10_202 mi_X4_settle mx_X4_settle in_X4 mc_X4_settle hy_X4_settle ⟨by decide, by decide⟩ rfl (Nat.le_of_ble_eq_true rfl) ?_
  refine j_aload_n hK dX10_season_134 0 rfl rfl ?_
  refine j_getR hK fl_X10_26 dX10_season_135 zo_0 zf_10_2 zr_0_2 ?_
  obtain ⟨r10, S11, h12, hf⟩ := bd_J hf
  refine k_callVv hK (c_X5_begin h12) dX10_season_138 zclX5 zo_10 ml_X10_185 mi_X5_begin mx_X5_begin in_X5 mc_X5_begin hy_X5_begin ⟨by decide, by decide⟩ rfl (Nat.le_of_ble_eq_true rfl) ?_
  refine j_aload_n hK dX10_season_141 0 rfl rfl ?_
  refine j_getR hK fl_X10_26 dX10_season_142 zo_0 zf_10_2 zr_0_2 ?_
  refine j_iload_n hK dX10_season_145 2 rfl rfl ?_
  refine j_if_eq hK 153 dX10_season_146 (by decide) (fun hc => ?_) (fun hc => ?_)
  · replace hf := if_1 hc hf
    refine j_lconst hK (0 : Int64) dX10_season_153 lc_0 ?_
    refine j_sub [0, 1] rfl ?_
    exact t_X10_season_154 hK hA  hf
  · replace hf := if_2 hc hf
    refine j_lconst hK (1 : Int64) dX10_season_149 lc_1 ?_
    refine j_goto hK 154 dX10_season_150 (by decide) ?_
    refine j_sub [0, 1] rfl ?_
    exact t_X10_season_154 hK hA  hf
def f_X10_season_87 (x3 : Int32) (x4 : Int32) (s0 : Int32) (s1 : Int32) (k e : Int32 × Int32 × Int32 → St → Option (Int32 × St)) (S : St) : Option (Int32 × St) := lt (s0 + s1) (fun y13 => bd (f_X8_signsOfAct x4 S) (fun r14 S15 => lt (x4 + (mxI (1 : Int32) r14)) (fun y17 => k (y13, x3, y17) S15)))
theorem t_X10_season_87 {K : CT} (hK : KO K cX10_season RX10 5 6 (some .int)) {r : Int32} {S' : St} (hA : zans K = (some (.int r), S')) {x3 : Int32} {x4 : Int32} {s0 : Int32} {s1 : Int32} {k e : Int32 × Int32 × Int32 → St → Option (Int32 × St)} (hk : ∀ (v : Int32 × Int32 × Int32) (S : St), k v S = some (r, S') → J K 46 [(0, .ref 0), (2, .int v.1), (3, .int v.2.1), (4, .int v.2.2)] [] S) (he : ∀ (v : Int32 × Int32 × Int32) (S : St), e v S = some (r, S') → J K 110 [(0, .ref 0), (2, .int v.1), (3, .int v.2.1)] [] S) {S : St} (hf : f_X10_season_87 x3 x4 s0 s1 k e S = some (r, S')) : J K 87 [(0, .ref 0), (3, .int x3), (4, .int x4)] [.int s1, .int s0] S := by
  unfold f_X10_season_87 at hf
  refine j_iadd hK dX10_season_87 ?_
  refine lt_I hf (fun y13 hf => ?_)
  refine j_istore_n hK (L' := [(2, .int y13), (0, .ref 0), (3, .int x3), (4, .int x4)]) dX10_season_88 rfl (by decide) rfl ?_
  refine j_iload hK dX10_season_89 3 rfl ?_
  refine j_iconst hK (1 : Int32) dX10_season_91 ic_1 ?_
  refine j_aload_n hK dX10_season_92 1 rfl rfl ?_
  refine j_getR hK fl_X10_10 dX10_season_93 zo_0 zf_10_0 zr_0_0 ?_
  refine j_iload hK dX10_season_96 3 rfl ?_
  obtain ⟨r14, S15, h16, hf⟩ := bd_J hf
  refine k_callVi hK (c_X8_signsOfAct h16) dX10_season_98 zclX8 zo_1 ml_X10_222 mi_X8_signsOfAct mx_X8_signsOfAct in_X8 mc_X8_signsOfAct hy_X8_signsOfAct ⟨by decide, by decide⟩ rfl (Nat.le_of_ble_eq_true rfl) ?_
  refine j_pc (pc' := 101) rfl ?_
  refine j_max hK ml_X10_175 dX10_season_101 (by decide) (Nat.le_of_ble_eq_true rfl) ?_
  refine j_iadd hK dX10_season_104 ?_
  refine lt_I hf (fun y17 hf => ?_)
  refine j_istore hK (L' := [(4, .int y17), (2, .int y13), (0, .ref 0), (3, .int x3)]) dX10_season_105 (by decide) rfl ?_
  refine j_goto hK 46 dX10_season_107 (by decide) ?_
  refine j_sub [2, 1, 3, 0] rfl ?_
  exact hk _ _ hf
def f_X10_season_76 (x2 : Int32) (x4 : Int32) (s0 : Int32) (k e : Int32 × Int32 × Int32 → St → Option (Int32 × St)) (S : St) : Option (Int32 × St) := (if s0 = 0 then f_X10_season_87 s0 x4 x2 (1 : Int32) k e S else f_X10_season_87 s0 x4 x2 (0 : Int32) k e S)
theorem t_X10_season_76 {K : CT} (hK : KO K cX10_season RX10 5 6 (some .int)) {r : Int32} {S' : St} (hA : zans K = (some (.int r), S')) {x2 : Int32} {x4 : Int32} {s0 : Int32} {k e : Int32 × Int32 × Int32 → St → Option (Int32 × St)} (hk : ∀ (v : Int32 × Int32 × Int32) (S : St), k v S = some (r, S') → J K 46 [(0, .ref 0), (2, .int v.1), (3, .int v.2.1), (4, .int v.2.2)] [] S) (he : ∀ (v : Int32 × Int32 × Int32) (S : St), e v S = some (r, S') → J K 110 [(0, .ref 0), (2, .int v.1), (3, .int v.2.1)] [] S) {S : St} (hf : f_X10_season_76 x2 x4 s0 k e S = some (r, S')) : J K 76 [(0, .ref 0), (2, .int x2), (4, .int x4)] [.int s0] S := by
  unfold f_X10_season_76 at hf
  refine j_istore_n hK (L' := [(3, .int s0), (0, .ref 0), (2, .int x2), (4, .int x4)]) dX10_season_76 rfl (by decide) rfl ?_
  refine j_iload_n hK dX10_season_77 2 rfl rfl ?_
  refine j_iload_n hK dX10_season_78 0 rfl rfl ?_
  refine j_if_eq hK 86 dX10_season_79 (by decide) (fun hc => ?_) (fun hc => ?_)
  · replace hf := if_1 hc hf
    refine j_iconst hK (1 : Int32) dX10_season_86 ic_1 ?_
    refine j_sub [1, 0, 3] rfl ?_
    exact t_X10_season_87 hK hA hk he hf
  · replace hf := if_2 hc hf
    refine j_iconst hK (0 : Int32) dX10_season_82 ic_0 ?_
    refine j_goto hK 87 dX10_season_83 (by decide) ?_
    refine j_sub [1, 0, 3] rfl ?_
    exact t_X10_season_87 hK hA hk he hf
def f_X10_season_46b (e : Int32 × Int32 × Int32 → St → Option (Int32 × St)) (k : Int32 × Int32 × Int32 → St → Option (Int32 × St)) (v : Int32 × Int32 × Int32) (S : St) : Option (Int32 × St) := (if (gI S 1 1) ≤ v.2.2 then e (v.1, v.2.1, v.2.2) S else (if v.2.1 = 0 then bd (f_X10_doAct v.2.2 S) (fun r18 S19 => (if 0 ≤ r18 then f_X10_season_76 v.1 v.2.2 (0 : Int32) k e S19 else f_X10_season_76 v.1 v.2.2 (1 : Int32) k e S19)) else e (v.1, v.2.1, v.2.2) S))
theorem t_X10_season_46 {K : CT} (hK : KO K cX10_season RX10 5 6 (some .int)) {r : Int32} {S' : St} (hA : zans K = (some (.int r), S')) {e : Int32 × Int32 × Int32 → St → Option (Int32 × St)} (he : ∀ (v : Int32 × Int32 × Int32) (S : St), e v S = some (r, S') → J K 110 [(0, .ref 0), (2, .int v.1), (3, .int v.2.1)] [] S) : ∀ (n : Nat) (v : Int32 × Int32 × Int32) (S : St), lp (f_X10_season_46b  e) n v S = some (r, S') → J K 46 [(0, .ref 0), (2, .int v.1), (3, .int v.2.1), (4, .int v.2.2)] [] S :=
  lp_J (P := fun (v : Int32 × Int32 × Int32) (S : St) => J K 46 [(0, .ref 0), (2, .int v.1), (3, .int v.2.1), (4, .int v.2.2)] [] S) (fun k hk v S hf => by
    unfold f_X10_season_46b at hf
    refine j_iload hK dX10_season_46 3 rfl ?_
    refine j_aload_n hK dX10_season_48 0 rfl rfl ?_
    refine j_getR hK fl_X10_10 dX10_season_49 zo_0 zf_10_0 zr_0_0 ?_
    refine j_getI hK fl_X10_88 dX10_season_52 zo_1 zf_8_1 ?_
    refine j_icmp_ge hK 110 dX10_season_55 (by decide) (fun hc => ?_) (fun hc => ?_)
    · replace hf := if_1 hc hf
      refine j_sub [0, 1, 2] rfl ?_
      exact he _ _ hf
    · replace hf := if_2 hc hf
      refine j_iload_n hK dX10_season_58 2 rfl rfl ?_
      refine j_if_ne hK 110 dX10_season_59 (by decide) (fun hc => ?_) (fun hc => ?_)
      · replace hf := if_2 hc hf
        refine j_sub [0, 1, 2] rfl ?_
        exact he _ _ hf
      · replace hf := if_1 hc hf
        refine j_aload_n hK dX10_season_62 0 rfl rfl ?_
        refine j_iload hK dX10_season_63 3 rfl ?_
        obtain ⟨r18, S19, h20, hf⟩ := bd_J hf
        refine k_callVi hK (c_X10_doAct h20) dX10_season_65 zclX10 zo_0 ml_X10_219 mi_X10_doAct mx_X10_doAct in_X10 mc_X10_doAct hy_X10_doAct ⟨by decide, by decide⟩ rfl (Nat.le_of_ble_eq_true rfl) ?_
        refine j_if_ge hK 75 dX10_season_68 (by decide) (fun hc => ?_) (fun hc => ?_)
        · replace hf := if_1 hc hf
          refine j_iconst hK (0 : Int32) dX10_season_75 ic_0 ?_
          refine j_sub [0, 1, 3] rfl ?_
          exact t_X10_season_76 hK hA hk he hf
        · replace hf := if_2 hc hf
          refine j_iconst hK (1 : Int32) dX10_season_71 ic_1 ?_
          refine j_goto hK 76 dX10_season_72 (by decide) ?_
          refine j_sub [0, 1, 3] rfl ?_
          exact t_X10_season_76 hK hA hk he hf)
def f_X10_season (S : St) : Option (Int32 × St) := bd (f_X8_faultOfSeason S) (fun r21 S22 => (if r21 = (-1 : Int32) then bd (f_X4_mark S22) (fun r24 S25 => lp (f_X10_season_46b  (fun v27 S28 => lt (sI S28 1 1 (0 : Int32)) (fun S29 => (if v27.1 ≤ 0 then f_X10_season_131 v27.1 v27.2.1 (0 : Int32) S29 else f_X10_season_131 v27.1 v27.2.1 (1 : Int32) S29)))) FU ((0 : Int32), (0 : Int32), (0 : Int32)) S25) else lt (sI S22 1 1 (0 : Int32)) (fun S30 => some (((-1 : Int32) - r21), S30))))
theorem c_X10_season {S : St} {r : Int32} {S' : St} (hf : f_X10_season S = some (r, S')) : zM yX10_season cX10_season 5 6 (some .int) [.ref 0] S (some (.int r)) S' := by
  refine zM_of (zpl (by decide)) (Nat.le_of_ble_eq_true rfl) rfl (fun K hK hA => ?_)
  unfold f_X10_season at hf
  refine j_aload_n hK dX10_season_0 0 rfl rfl ?_
  refine j_getR hK fl_X10_10 dX10_season_1 zo_0 zf_10_0 zr_0_0 ?_
  obtain ⟨r21, S22, h23, hf⟩ := bd_J hf
  refine k_callVi hK (c_X8_faultOfSeason h23) dX10_season_4 zclX8 zo_1 ml_X10_216 mi_X8_faultOfSeason mx_X8_faultOfSeason in_X8 mc_X8_faultOfSeason hy_X8_faultOfSeason ⟨by decide, by decide⟩ rfl (Nat.le_of_ble_eq_true rfl) ?_
  refine j_istore_n hK (L' := [(1, .int r21), (0, .ref 0)]) dX10_season_7 rfl (by decide) rfl ?_
  refine j_iload_n hK dX10_season_8 0 rfl rfl ?_
  refine j_iconst hK (-1 : Int32) dX10_season_9 ic_m1 ?_
  refine j_icmp_eq hK 25 dX10_season_10 (by decide) (fun hc => ?_) (fun hc => ?_)
  · replace hf := if_1 hc hf
    refine j_aload_n hK dX10_season_25 1 rfl rfl ?_
    refine j_getR hK fl_X10_33 dX10_season_26 zo_0 zf_10_3 zr_0_3 ?_
    refine j_aload_n hK dX10_season_29 1 rfl rfl ?_
    refine j_getR hK fl_X10_19 dX10_season_30 zo_0 zf_10_1 zr_0_1 ?_
    refine j_getR hK fl_X10_129 dX10_season_33 zo_3 zf_0_3 zr_3_3 ?_
    obtain ⟨r24, S25, h26, hf⟩ := bd_J hf
    refine k_callVv hK (c_X4_mark h26) dX10_season_36 zclX4 zo_12 ml_X10_181 mi_X4_mark mx_X4_mark in_X4 mc_X4_mark hy_X4_mark ⟨by decide, by decide⟩ rfl (Nat.le_of_ble_eq_true rfl) ?_
    refine j_iconst hK (0 : Int32) dX10_season_39 ic_0 ?_
    refine j_pc (pc' := 40) rfl ?_
    refine j_istore_n hK (L' := [(2, .int (0 : Int32)), (1, .int r21), (0, .ref 0)]) dX10_season_40 rfl (by decide) rfl ?_
    refine j_iconst hK (0 : Int32) dX10_season_41 ic_0 ?_
    refine j_istore_n hK (L' := [(3, .int (0 : Int32)), (2, .int (0 : Int32)), (1, .int r21), (0, .ref 0)]) dX10_season_42 rfl (by decide) rfl ?_
    refine j_iconst hK (0 : Int32) dX10_season_43 ic_0 ?_
    refine j_istore hK (L' := [(4, .int (0 : Int32)), (3, .int (0 : Int32)), (2, .int (0 : Int32)), (1, .int r21), (0, .ref 0)]) dX10_season_44 (by decide) rfl ?_
    refine j_sub [4, 2, 1, 0] rfl ?_
    refine t_X10_season_46 hK hA  (fun v27 S28 hf => ?_) _ _ _ hf
    refine j_aload_n hK dX10_season_110 0 rfl rfl ?_
    refine j_getR hK fl_X10_10 dX10_season_111 zo_0 zf_10_0 zr_0_0 ?_
    refine j_iconst hK (0 : Int32) dX10_season_114 ic_0 ?_
    refine j_putI hK fl_X10_88 dX10_season_115 zo_1 zf_8_1 ?_
    refine lt_S hf (fun S29 hf => ?_)
    refine j_aload_n hK dX10_season_118 0 rfl rfl ?_
    refine j_getR hK fl_X10_33 dX10_season_119 zo_0 zf_10_3 zr_0_3 ?_
    refine j_iload_n hK dX10_season_122 1 rfl rfl ?_
    refine j_pc (pc' := 123) rfl ?_
    refine j_if_le hK 130 dX10_season_123 (by decide) (fun hc => ?_) (fun hc => ?_)
    · replace hf := if_1 hc hf
      refine j_iconst hK (0 : Int32) dX10_season_130 ic_0 ?_
      exact t_X10_season_131 hK hA  hf
    · replace hf := if_2 hc hf
      refine j_iconst hK (1 : Int32) dX10_season_126 ic_1 ?_
      refine j_goto hK 131 dX10_season_127 (by decide) ?_
      exact t_X10_season_131 hK hA  hf
  · replace hf := if_2 hc hf
    refine j_aload_n hK dX10_season_13 1 rfl rfl ?_
    refine j_getR hK fl_X10_10 dX10_season_14 zo_0 zf_10_0 zr_0_0 ?_
    refine j_iconst hK (0 : Int32) dX10_season_17 ic_0 ?_
    refine j_putI hK fl_X10_88 dX10_season_18 zo_1 zf_8_1 ?_
    refine lt_S hf (fun S30 hf => ?_)
    refine j_iconst hK (-1 : Int32) dX10_season_21 ic_m1 ?_
    refine j_iload_n hK dX10_season_22 0 rfl rfl ?_
    refine j_isub hK dX10_season_23 ?_
    refine j_pc (pc' := 24) rfl ?_
    exact j_iret hK dX10_season_24 rfl (rt_I hA hf)
def f_X10_undo (S : St) : Option (Int32 × St) := (if (gI S 12 2) = 0 then some ((-1 : Int32), S) else bd (f_X4_latest S) (fun r1 S2 => if isState r1 then bd (f_X7_take 6 r1 S2) (fun r5 S6 => some ((gI S6 12 2), S6)) else none))
theorem c_X10_undo {S : St} {r : Int32} {S' : St} (hf : f_X10_undo S = some (r, S')) : zM yX10_undo cX10_undo 1 3 (some .int) [.ref 0] S (some (.int r)) S' := by
  refine zM_of (zpl (by decide)) (Nat.le_of_ble_eq_true rfl) rfl (fun K hK hA => ?_)
  unfold f_X10_undo at hf
  refine j_aload_n hK dX10_undo_0 0 rfl rfl ?_
  refine j_getR hK fl_X10_33 dX10_undo_1 zo_0 zf_10_3 zr_0_3 ?_
  refine j_getI hK fl_X10_228 dX10_undo_4 zo_12 zf_4_2 ?_
  refine j_if_ne hK 12 dX10_undo_7 (by decide) (fun hc => ?_) (fun hc => ?_)
  · replace hf := if_2 hc hf
    refine j_aload_n hK dX10_undo_12 0 rfl rfl ?_
    refine j_getR hK fl_X10_19 dX10_undo_13 zo_0 zf_10_1 zr_0_1 ?_
    refine j_getR hK fl_X10_129 dX10_undo_16 zo_3 zf_0_3 zr_3_3 ?_
    refine j_aload_n hK dX10_undo_19 0 rfl rfl ?_
    refine j_getR hK fl_X10_33 dX10_undo_20 zo_0 zf_10_3 zr_0_3 ?_
    obtain ⟨r1, S2, h3, hf⟩ := bd_J hf
    obtain ⟨hq4, hf⟩ := gd hf
    refine k_callVr hK (c_X4_latest h3) dX10_undo_23 zclX4 zo_12 ml_X10_229 mi_X4_latest mx_X4_latest in_X4 mc_X4_latest hy_X4_latest ⟨by decide, by decide⟩ rfl (Nat.le_of_ble_eq_true rfl) ?_
    obtain ⟨r5, S6, h7, hf⟩ := bd_J hf
    refine k_callVv hK (c_X7_take zo_6 hq4 h7) dX10_undo_26 zclX7 zo_6 ml_X10_233 mi_X7_take mx_X7_take in_X7 mc_X7_take hy_X7_take ⟨by decide, by decide⟩ rfl (Nat.le_of_ble_eq_true rfl) ?_
    refine j_pc (pc' := 29) rfl ?_
    refine j_aload_n hK dX10_undo_29 0 rfl rfl ?_
    refine j_getR hK fl_X10_33 dX10_undo_30 zo_0 zf_10_3 zr_0_3 ?_
    refine j_getI hK fl_X10_228 dX10_undo_33 zo_12 zf_4_2 ?_
    exact j_iret hK dX10_undo_36 rfl (rt_I hA hf)
  · replace hf := if_1 hc hf
    refine j_iconst hK (-1 : Int32) dX10_undo_10 ic_m1 ?_
    exact j_iret hK dX10_undo_11 rfl (rt_I hA hf)
def f_X10_route_38b (e : Int32 → St → Option (Int32 × St)) (k : Int32 → St → Option (Int32 × St)) (v : Int32) (S : St) : Option (Int32 × St) := (if (gI S 92 3) ≤ v then e v S else if inb v 12 then bd (f_X5_put (gI S 93 v.toNatClampNeg).toInt64 S) (fun r2 S3 => k (v + (1 : Int32)) S3) else none)
theorem t_X10_route_38 {K : CT} (hK : KO K cX10_route RX10 4 5 (some .int)) {r : Int32} {S' : St} (hA : zans K = (some (.int r), S')) {e : Int32 → St → Option (Int32 × St)} (he : ∀ (v : Int32) (S : St), e v S = some (r, S') → J K 72 [(0, .ref 0)] [] S) : ∀ (n : Nat) (v : Int32) (S : St), lp (f_X10_route_38b  e) n v S = some (r, S') → J K 38 [(0, .ref 0), (3, .int v)] [] S :=
  lp_J (P := fun (v : Int32) (S : St) => J K 38 [(0, .ref 0), (3, .int v)] [] S) (fun k hk v S hf => by
    unfold f_X10_route_38b at hf
    refine j_iload_n hK dX10_route_38 1 rfl rfl ?_
    refine j_aload_n hK dX10_route_39 0 rfl rfl ?_
    refine j_getR hK fl_X10_42 dX10_route_40 zo_0 zf_10_4 zr_0_4 ?_
    refine j_getI hK fl_X10_268 dX10_route_43 zo_92 zf_2_3 ?_
    refine j_icmp_ge hK 72 dX10_route_46 (by decide) (fun hc => ?_) (fun hc => ?_)
    · replace hf := if_1 hc hf
      refine j_sub [0] rfl ?_
      exact he _ _ hf
    · replace hf := if_2 hc hf
      refine j_aload_n hK dX10_route_49 0 rfl rfl ?_
      refine j_getR hK fl_X10_26 dX10_route_50 zo_0 zf_10_2 zr_0_2 ?_
      refine j_aload_n hK dX10_route_53 0 rfl rfl ?_
      refine j_getR hK fl_X10_42 dX10_route_54 zo_0 zf_10_4 zr_0_4 ?_
      refine j_getR hK fl_X10_269 dX10_route_57 zo_92 zf_2_1 zr_92_1 ?_
      refine j_iload_n hK dX10_route_60 1 rfl rfl ?_
      obtain ⟨hi1, hf⟩ := gd hf
      refine k_iald hK dX10_route_61 zb_93 hi1 rfl ?_
      refine j_pc (pc' := 62) rfl ?_
      refine j_i2l hK dX10_route_62 ?_
      obtain ⟨r2, S3, h4, hf⟩ := bd_J hf
      refine k_callVv hK (c_X5_put h4) dX10_route_63 zclX5 zo_10 ml_X10_191 mi_X5_put mx_X5_put in_X5 mc_X5_put hy_X5_put ⟨by decide, by decide⟩ rfl (Nat.le_of_ble_eq_true rfl) ?_
      refine j_iinc hK (L' := [(3, .int (v + (1 : Int32))), (0, .ref 0)]) dX10_route_66 1 rfl (congrArg (fun y => v + y) ic_1) (by decide) rfl ?_
      refine j_goto hK 38 dX10_route_69 (by decide) ?_
      refine j_sub [1, 0] rfl ?_
      exact hk _ _ hf)
def f_X10_route (p1 : Int32) (p2 : Int32) (S : St) : Option (Int32 × St) := bd (f_X2_goes p1 p2 S) (fun r5 S6 => (if r5 = 0 then some ((-1 : Int32), S6) else bd (f_X5_begin S6) (fun r8 S9 => bd (f_X5_put (gI S9 92 4).toInt64 S9) (fun r11 S12 => lp (f_X10_route_38b  (fun v14 S15 => some ((gI S15 92 5), S15))) FU (0 : Int32) S12))))
theorem c_X10_route {p1 : Int32} {p2 : Int32} {S : St} {r : Int32} {S' : St} (hf : f_X10_route p1 p2 S = some (r, S')) : zM yX10_route cX10_route 4 5 (some .int) [.ref 0, .int p1, .int p2] S (some (.int r)) S' := by
  refine zM_of (zpl (by decide)) (Nat.le_of_ble_eq_true rfl) rfl (fun K hK hA => ?_)
  unfold f_X10_route at hf
  refine j_aload_n hK dX10_route_0 0 rfl rfl ?_
  refine j_getR hK fl_X10_42 dX10_route_1 zo_0 zf_10_4 zr_0_4 ?_
  refine j_iload_n hK dX10_route_4 1 rfl rfl ?_
  refine j_iload_n hK dX10_route_5 2 rfl rfl ?_
  obtain ⟨r5, S6, h7, hf⟩ := bd_J hf
  refine k_callVi hK (c_X2_goes h7) dX10_route_6 zclX2 zo_92 ml_X10_236 mi_X2_goes mx_X2_goes in_X2 mc_X2_goes hy_X2_goes ⟨by decide, by decide⟩ rfl (Nat.le_of_ble_eq_true rfl) ?_
  refine j_if_ne hK 14 dX10_route_9 (by decide) (fun hc => ?_) (fun hc => ?_)
  · replace hf := if_2 hc hf
    refine j_aload_n hK dX10_route_14 0 rfl rfl ?_
    refine j_getR hK fl_X10_26 dX10_route_15 zo_0 zf_10_2 zr_0_2 ?_
    obtain ⟨r8, S9, h10, hf⟩ := bd_J hf
    refine k_callVv hK (c_X5_begin h10) dX10_route_18 zclX5 zo_10 ml_X10_185 mi_X5_begin mx_X5_begin in_X5 mc_X5_begin hy_X5_begin ⟨by decide, by decide⟩ rfl (Nat.le_of_ble_eq_true rfl) ?_
    refine j_aload_n hK dX10_route_21 0 rfl rfl ?_
    refine j_getR hK fl_X10_26 dX10_route_22 zo_0 zf_10_2 zr_0_2 ?_
    refine j_aload_n hK dX10_route_25 0 rfl rfl ?_
    refine j_getR hK fl_X10_42 dX10_route_26 zo_0 zf_10_4 zr_0_4 ?_
    refine j_pc (pc' := 29) rfl ?_
    refine j_getI hK fl_X10_188 dX10_route_29 zo_92 zf_2_4 ?_
    refine j_i2l hK dX10_route_32 ?_
    obtain ⟨r11, S12, h13, hf⟩ := bd_J hf
    refine k_callVv hK (c_X5_put h13) dX10_route_33 zclX5 zo_10 ml_X10_191 mi_X5_put mx_X5_put in_X5 mc_X5_put hy_X5_put ⟨by decide, by decide⟩ rfl (Nat.le_of_ble_eq_true rfl) ?_
    refine j_iconst hK (0 : Int32) dX10_route_36 ic_0 ?_
    refine j_istore_n hK (L' := [(3, .int (0 : Int32)), (0, .ref 0), (1, .int p1), (2, .int p2)]) dX10_route_37 rfl (by decide) rfl ?_
    refine j_sub [1, 0] rfl ?_
    refine t_X10_route_38 hK hA  (fun v14 S15 hf => ?_) _ _ _ hf
    refine j_aload_n hK dX10_route_72 0 rfl rfl ?_
    refine j_getR hK fl_X10_42 dX10_route_73 zo_0 zf_10_4 zr_0_4 ?_
    refine j_getI hK fl_X10_254 dX10_route_76 zo_92 zf_2_5 ?_
    exact j_iret hK dX10_route_79 rfl (rt_I hA hf)
  · replace hf := if_1 hc hf
    refine j_iconst hK (-1 : Int32) dX10_route_12 ic_m1 ?_
    exact j_iret hK dX10_route_13 rfl (rt_I hA hf)
def f_X10_hears_86 (x4 : Int32) (x6 : Int32) (s0 : Int32) (s1 : Int32) (k e : Int32 × Int32 → St → Option (Int32 × St)) (S : St) : Option (Int32 × St) := lt (s0 + s1) (fun y1 => k (y1, (x6 + (1 : Int32))) S)
theorem t_X10_hears_86 {K : CT} (hK : KO K cX10_hears RX10 7 6 (some .int)) {r : Int32} {S' : St} (hA : zans K = (some (.int r), S')) {x4 : Int32} {x6 : Int32} {s0 : Int32} {s1 : Int32} {k e : Int32 × Int32 → St → Option (Int32 × St)} (hk : ∀ (v : Int32 × Int32) (S : St), k v S = some (r, S') → J K 49 [(0, .ref 0), (4, .int x4), (5, .int v.1), (6, .int v.2)] [] S) (he : ∀ (v : Int32 × Int32) (S : St), e v S = some (r, S') → J K 95 [(5, .int v.1)] [] S) {S : St} (hf : f_X10_hears_86 x4 x6 s0 s1 k e S = some (r, S')) : J K 86 [(0, .ref 0), (4, .int x4), (6, .int x6)] [.int s1, .int s0] S := by
  unfold f_X10_hears_86 at hf
  refine j_iadd hK dX10_hears_86 ?_
  refine lt_I hf (fun y1 hf => ?_)
  refine j_istore hK (L' := [(5, .int y1), (0, .ref 0), (4, .int x4), (6, .int x6)]) dX10_hears_87 (by decide) rfl ?_
  refine j_iinc hK (L' := [(6, .int (x6 + (1 : Int32))), (5, .int y1), (0, .ref 0), (4, .int x4)]) dX10_hears_89 3 rfl (congrArg (fun y => x6 + y) ic_1) (by decide) rfl ?_
  refine j_goto hK 49 dX10_hears_92 (by decide) ?_
  refine j_sub [2, 3, 1, 0] rfl ?_
  exact hk _ _ hf
def f_X10_hears_49b (x4 : Int32) (e : Int32 × Int32 → St → Option (Int32 × St)) (k : Int32 × Int32 → St → Option (Int32 × St)) (v : Int32 × Int32) (S : St) : Option (Int32 × St) := (if x4 ≤ v.2 then e (v.1, v.2) S else bd (f_X5_at v.2 S) (fun r2 S3 => bd (f_X8_letter v.2 S3) (fun r5 S6 => (if (lg_cmp r2 r5.toInt64) = 0 then f_X10_hears_86 x4 v.2 v.1 (1 : Int32) k e S6 else f_X10_hears_86 x4 v.2 v.1 (0 : Int32) k e S6))))
theorem t_X10_hears_49 {K : CT} (hK : KO K cX10_hears RX10 7 6 (some .int)) {r : Int32} {S' : St} (hA : zans K = (some (.int r), S')) {x4 : Int32} {e : Int32 × Int32 → St → Option (Int32 × St)} (he : ∀ (v : Int32 × Int32) (S : St), e v S = some (r, S') → J K 95 [(5, .int v.1)] [] S) : ∀ (n : Nat) (v : Int32 × Int32) (S : St), lp (f_X10_hears_49b x4 e) n v S = some (r, S') → J K 49 [(0, .ref 0), (4, .int x4), (5, .int v.1), (6, .int v.2)] [] S :=
  lp_J (P := fun (v : Int32 × Int32) (S : St) => J K 49 [(0, .ref 0), (4, .int x4), (5, .int v.1), (6, .int v.2)] [] S) (fun k hk v S hf => by
    unfold f_X10_hears_49b at hf
    refine j_iload hK dX10_hears_49 3 rfl ?_
    refine j_iload hK dX10_hears_51 1 rfl ?_
    refine j_icmp_ge hK 95 dX10_hears_53 (by decide) (fun hc => ?_) (fun hc => ?_)
    · replace hf := if_1 hc hf
      refine j_sub [2] rfl ?_
      exact he _ _ hf
    · replace hf := if_2 hc hf
      refine j_iload hK dX10_hears_56 2 rfl ?_
      refine j_aload_n hK dX10_hears_58 0 rfl rfl ?_
      refine j_getR hK fl_X10_26 dX10_hears_59 zo_0 zf_10_2 zr_0_2 ?_
      refine j_iload hK dX10_hears_62 3 rfl ?_
      obtain ⟨r2, S3, h4, hf⟩ := bd_J hf
      refine k_callVl hK (c_X5_at h4) dX10_hears_64 zclX5 zo_10 ml_X10_272 mi_X5_at mx_X5_at in_X5 mc_X5_at hy_X5_at ⟨by decide, by decide⟩ rfl (Nat.le_of_ble_eq_true rfl) ?_
      refine j_aload_n hK dX10_hears_67 0 rfl rfl ?_
      refine j_getR hK fl_X10_10 dX10_hears_68 zo_0 zf_10_0 zr_0_0 ?_
      refine j_pc (pc' := 71) rfl ?_
      refine j_iload hK dX10_hears_71 3 rfl ?_
      obtain ⟨r5, S6, h7, hf⟩ := bd_J hf
      refine k_callVi hK (c_X8_letter h7) dX10_hears_73 zclX8 zo_1 ml_X10_243 mi_X8_letter mx_X8_letter in_X8 mc_X8_letter hy_X8_letter ⟨by decide, by decide⟩ rfl (Nat.le_of_ble_eq_true rfl) ?_
      refine j_i2l hK dX10_hears_76 ?_
      refine j_lcmp hK dX10_hears_77 ?_
      refine j_if_ne hK 85 dX10_hears_78 (by decide) (fun hc => ?_) (fun hc => ?_)
      · replace hf := if_2 hc hf
        refine j_iconst hK (0 : Int32) dX10_hears_85 ic_0 ?_
        refine j_sub [0, 1, 3] rfl ?_
        exact t_X10_hears_86 hK hA hk he hf
      · replace hf := if_1 hc hf
        refine j_iconst hK (1 : Int32) dX10_hears_81 ic_1 ?_
        refine j_goto hK 86 dX10_hears_82 (by decide) ?_
        refine j_sub [0, 1, 3] rfl ?_
        exact t_X10_hears_86 hK hA hk he hf)
def f_X10_hears (p1 : Int32) (p2 : Int32) (S : St) : Option (Int32 × St) := bd (f_X10_refusalOfCall p1 p2 S) (fun r8 S9 => lt (gI S9 1 1) (fun y11 => lt (sI S9 1 1 (0 : Int32)) (fun S12 => (if r8 = 0 then bd (f_X5_begin S12) (fun r13 S14 => bd (f_X10_putLetters y11 S14) (fun r16 S17 => lp (f_X10_hears_49b y11 (fun v19 S20 => some (v19.1, S20))) FU ((0 : Int32), (0 : Int32)) S17)) else some (r8, S12)))))
theorem c_X10_hears {p1 : Int32} {p2 : Int32} {S : St} {r : Int32} {S' : St} (hf : f_X10_hears p1 p2 S = some (r, S')) : zM yX10_hears cX10_hears 7 6 (some .int) [.ref 0, .int p1, .int p2] S (some (.int r)) S' := by
  refine zM_of (zpl (by decide)) (Nat.le_of_ble_eq_true rfl) rfl (fun K hK hA => ?_)
  unfold f_X10_hears at hf
  refine j_aload_n hK dX10_hears_0 0 rfl rfl ?_
  refine j_iload_n hK dX10_hears_1 1 rfl rfl ?_
  refine j_iload_n hK dX10_hears_2 2 rfl rfl ?_
  obtain ⟨r8, S9, h10, hf⟩ := bd_J hf
  refine k_callVi hK (c_X10_refusalOfCall h10) dX10_hears_3 zclX10 zo_0 ml_X10_178 mi_X10_refusalOfCall mx_X10_refusalOfCall in_X10 mc_X10_refusalOfCall hy_X10_refusalOfCall ⟨by decide, by decide⟩ rfl (Nat.le_of_ble_eq_true rfl) ?_
  refine j_istore_n hK (L' := [(3, .int r8), (0, .ref 0), (1, .int p1), (2, .int p2)]) dX10_hears_6 rfl (by decide) rfl ?_
  refine j_aload_n hK dX10_hears_7 1 rfl rfl ?_
  refine j_getR hK fl_X10_10 dX10_hears_8 zo_0 zf_10_0 zr_0_0 ?_
  refine j_getI hK fl_X10_88 dX10_hears_11 zo_1 zf_8_1 ?_
  refine j_pc (pc' := 14) rfl ?_
  refine lt_I hf (fun y11 hf => ?_)
  refine j_istore hK (L' := [(4, .int y11), (3, .int r8), (0, .ref 0), (1, .int p1), (2, .int p2)]) dX10_hears_14 (by decide) rfl ?_
  refine j_aload_n hK dX10_hears_16 2 rfl rfl ?_
  refine j_getR hK fl_X10_10 dX10_hears_17 zo_0 zf_10_0 zr_0_0 ?_
  refine j_iconst hK (0 : Int32) dX10_hears_20 ic_0 ?_
  refine j_putI hK fl_X10_88 dX10_hears_21 zo_1 zf_8_1 ?_
  refine lt_S hf (fun S12 hf => ?_)
  refine j_iload_n hK dX10_hears_24 1 rfl rfl ?_
  refine j_if_eq hK 30 dX10_hears_25 (by decide) (fun hc => ?_) (fun hc => ?_)
  · replace hf := if_1 hc hf
    refine j_aload_n hK dX10_hears_30 2 rfl rfl ?_
    refine j_getR hK fl_X10_26 dX10_hears_31 zo_0 zf_10_2 zr_0_2 ?_
    obtain ⟨r13, S14, h15, hf⟩ := bd_J hf
    refine k_callVv hK (c_X5_begin h15) dX10_hears_34 zclX5 zo_10 ml_X10_185 mi_X5_begin mx_X5_begin in_X5 mc_X5_begin hy_X5_begin ⟨by decide, by decide⟩ rfl (Nat.le_of_ble_eq_true rfl) ?_
    refine j_aload_n hK dX10_hears_37 2 rfl rfl ?_
    refine j_iload hK dX10_hears_38 0 rfl ?_
    obtain ⟨r16, S17, h18, hf⟩ := bd_J hf
    refine k_callVv hK (c_X10_putLetters h18) dX10_hears_40 zclX10 zo_0 ml_X10_195 mi_X10_putLetters mx_X10_putLetters in_X10 mc_X10_putLetters hy_X10_putLetters ⟨by decide, by decide⟩ rfl (Nat.le_of_ble_eq_true rfl) ?_
    refine j_iconst hK (0 : Int32) dX10_hears_43 ic_0 ?_
    refine j_pc (pc' := 44) rfl ?_
    refine j_istore hK (L' := [(5, .int (0 : Int32)), (4, .int y11), (3, .int r8), (0, .ref 0), (1, .int p1), (2, .int p2)]) dX10_hears_44 (by decide) rfl ?_
    refine j_iconst hK (0 : Int32) dX10_hears_46 ic_0 ?_
    refine j_istore hK (L' := [(6, .int (0 : Int32)), (5, .int (0 : Int32)), (4, .int y11), (3, .int r8), (0, .ref 0), (1, .int p1), (2, .int p2)]) dX10_hears_47 (by decide) rfl ?_
    refine j_sub [4, 2, 1, 0] rfl ?_
    refine t_X10_hears_49 hK hA  (fun v19 S20 hf => ?_) _ _ _ hf
    refine j_iload hK dX10_hears_95 0 rfl ?_
    exact j_iret hK dX10_hears_97 rfl (rt_I hA hf)
  · replace hf := if_2 hc hf
    refine j_iload_n hK dX10_hears_28 1 rfl rfl ?_
    exact j_iret hK dX10_hears_29 rfl (rt_I hA hf)
