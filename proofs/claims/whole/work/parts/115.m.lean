def f_X11_keep_38b (x1 : Int32) (e : Int32 → St → Option (Int32 × St)) (k : Int32 → St → Option (Int32 × St)) (v : Int32) (S : St) : Option (Int32 × St) := (if (39 : Int32) ≤ v then e v S else if inb v 39 then if inb (((39 : Int32) * x1) + v) 117 then lt (sI S 157 (((39 : Int32) * x1) + v).toNatClampNeg (gI S 126 v.toNatClampNeg)) (fun S3 => k (v + (1 : Int32)) S3) else none else none)
theorem t_X11_keep_38 {K : CT} (hK : KO K cX11_keep RX11 3 2 (some .boolean)) {r : Int32} {S' : St} (hA : zans K = (some (.int r), S')) {x1 : Int32} {e : Int32 → St → Option (Int32 × St)} (he : ∀ (v : Int32) (S : St), e v S = some (r, S') → J K 67 [] [] S) : ∀ (n : Nat) (v : Int32) (S : St), lp (f_X11_keep_38b x1 e) n v S = some (r, S') → J K 38 [(0, .ref 122), (1, .int x1), (2, .int v)] [] S :=
  lp_J (P := fun (v : Int32) (S : St) => J K 38 [(0, .ref 122), (1, .int x1), (2, .int v)] [] S) (fun k hk v S hf => by
    unfold f_X11_keep_38b at hf
    refine j_iload_n hK dX11_keep_38 2 rfl rfl ?_
    refine j_bipush hK (39 : Int32) dX11_keep_39 bi_39 ?_
    refine j_icmp_ge hK 67 dX11_keep_41 (by decide) (fun hc => ?_) (fun hc => ?_)
    · replace hf := if_1 hc hf
      refine j_sub [] rfl ?_
      exact he _ _ hf
    · replace hf := if_2 hc hf
      refine j_aload_n hK dX11_keep_44 0 rfl rfl ?_
      refine j_getR hK fl_X11_125 dX11_keep_45 zo_122 zf_11_53 zr_122_53 ?_
      refine j_bipush hK (39 : Int32) dX11_keep_48 bi_39 ?_
      refine j_iload_n hK dX11_keep_50 1 rfl rfl ?_
      refine j_imul hK dX11_keep_51 ?_
      refine j_iload_n hK dX11_keep_52 2 rfl rfl ?_
      refine j_iadd hK dX11_keep_53 ?_
      refine j_pc (pc' := 54) rfl ?_
      refine j_aload_n hK dX11_keep_54 0 rfl rfl ?_
      refine j_getR hK fl_X11_31 dX11_keep_55 zo_122 zf_11_7 zr_122_7 ?_
      refine j_iload_n hK dX11_keep_58 2 rfl rfl ?_
      obtain ⟨hi1, hf⟩ := gd hf
      refine k_iald hK dX11_keep_59 zb_126 hi1 rfl ?_
      obtain ⟨hi2, hf⟩ := gd hf
      refine k_iast hK dX11_keep_60 zb_157 hi2 rfl ?_
      refine lt_S hf (fun S3 hf => ?_)
      refine j_iinc hK (L' := [(2, .int (v + (1 : Int32))), (0, .ref 122), (1, .int x1)]) dX11_keep_61 2 rfl (congrArg (fun y => v + y) ic_1) (by decide) rfl ?_
      refine j_goto hK 38 dX11_keep_64 (by decide) ?_
      refine j_sub [1, 2, 0] rfl ?_
      exact hk _ _ hf)
def f_X11_keep (p1 : Int32) (S : St) : Option (Int32 × St) := lt (sI S 122 0 (0 : Int32)) (fun S4 => bd (f_X11_in p1.toInt64 (0 : Int64) (2 : Int64) S4) (fun r5 S6 => (if r5 = 0 then some ((0 : Int32), S6) else if inb p1 3 then lt (sI S6 155 p1.toNatClampNeg (vp_nar .boolean (1 : Int32))) (fun S9 => if inb p1 3 then lt (sI S9 156 p1.toNatClampNeg (gI S9 122 4)) (fun S11 => lp (f_X11_keep_38b p1 (fun v12 S13 => some ((1 : Int32), S13))) FU (0 : Int32) S11) else none) else none)))
theorem c_X11_keep {p1 : Int32} {S : St} {r : Int32} {S' : St} (hf : f_X11_keep p1 S = some (r, S')) : zM yX11_keep cX11_keep 3 2 (some .boolean) [.ref 122, .int p1] S (some (.int r)) S' := by
  refine zM_of (zpl (by decide)) (Nat.le_of_ble_eq_true rfl) rfl (fun K hK hA => ?_)
  unfold f_X11_keep at hf
  refine j_aload_n hK dX11_keep_0 0 rfl rfl ?_
  refine j_iconst hK (0 : Int32) dX11_keep_1 ic_0 ?_
  refine j_putI hK fl_X11_3 dX11_keep_2 zo_122 zf_11_0 ?_
  refine lt_S hf (fun S4 hf => ?_)
  refine j_iload_n hK dX11_keep_5 1 rfl rfl ?_
  refine j_i2l hK dX11_keep_6 ?_
  refine j_lconst hK (0 : Int64) dX11_keep_7 lc_0 ?_
  refine j_ldc2 hK (v := (2 : Int64)) cl_X11_300 dX11_keep_8 ?_
  obtain ⟨r5, S6, h7, hf⟩ := bd_J hf
  refine k_callSi hK (c_X11_in h7) dX11_keep_11 ml_X11_131 ms_X11_in in_X11 mc_X11_in hy_X11_in ⟨by decide, by decide⟩ rfl (Nat.le_of_ble_eq_true rfl) ?_
  refine j_pc (pc' := 14) rfl ?_
  refine j_if_ne hK 19 dX11_keep_14 (by decide) (fun hc => ?_) (fun hc => ?_)
  · replace hf := if_2 hc hf
    refine j_aload_n hK dX11_keep_19 0 rfl rfl ?_
    refine j_getR hK fl_X11_119 dX11_keep_20 zo_122 zf_11_51 zr_122_51 ?_
    refine j_iload_n hK dX11_keep_23 1 rfl rfl ?_
    refine j_iconst hK (1 : Int32) dX11_keep_24 ic_1 ?_
    obtain ⟨hi8, hf⟩ := gd hf
    refine k_zast hK dX11_keep_25 zb_155 hi8 rfl ?_
    refine lt_S hf (fun S9 hf => ?_)
    refine j_aload_n hK dX11_keep_26 0 rfl rfl ?_
    refine j_getR hK fl_X11_122 dX11_keep_27 zo_122 zf_11_52 zr_122_52 ?_
    refine j_pc (pc' := 30) rfl ?_
    refine j_iload_n hK dX11_keep_30 1 rfl rfl ?_
    refine j_aload_n hK dX11_keep_31 0 rfl rfl ?_
    refine j_getI hK fl_X11_209 dX11_keep_32 zo_122 zf_11_4 ?_
    obtain ⟨hi10, hf⟩ := gd hf
    refine k_iast hK dX11_keep_35 zb_156 hi10 rfl ?_
    refine lt_S hf (fun S11 hf => ?_)
    refine j_iconst hK (0 : Int32) dX11_keep_36 ic_0 ?_
    refine j_istore_n hK (L' := [(2, .int (0 : Int32)), (0, .ref 122), (1, .int p1)]) dX11_keep_37 rfl (by decide) rfl ?_
    refine j_sub [1, 2, 0] rfl ?_
    refine t_X11_keep_38 hK hA  (fun v12 S13 hf => ?_) _ _ _ hf
    refine j_iconst hK (1 : Int32) dX11_keep_67 ic_1 ?_
    exact j_zret hK dX11_keep_68 rfl rfl (rt_I hA hf)
  · replace hf := if_1 hc hf
    refine j_iconst hK (0 : Int32) dX11_keep_17 ic_0 ?_
    exact j_zret hK dX11_keep_18 rfl rfl (rt_I hA hf)
def f_X11_again_43b (x1 : Int32) (e : Int32 → St → Option (Int32 × St)) (k : Int32 → St → Option (Int32 × St)) (v : Int32) (S : St) : Option (Int32 × St) := (if (39 : Int32) ≤ v then e v S else if inb (((39 : Int32) * x1) + v) 117 then if inb v 39 then lt (sI S 126 v.toNatClampNeg (gI S 157 (((39 : Int32) * x1) + v).toNatClampNeg)) (fun S3 => k (v + (1 : Int32)) S3) else none else none)
theorem t_X11_again_43 {K : CT} (hK : KO K cX11_again RX11 3 2 (some .boolean)) {r : Int32} {S' : St} (hA : zans K = (some (.int r), S')) {x1 : Int32} {e : Int32 → St → Option (Int32 × St)} (he : ∀ (v : Int32) (S : St), e v S = some (r, S') → J K 72 [(0, .ref 122)] [] S) : ∀ (n : Nat) (v : Int32) (S : St), lp (f_X11_again_43b x1 e) n v S = some (r, S') → J K 43 [(0, .ref 122), (1, .int x1), (2, .int v)] [] S :=
  lp_J (P := fun (v : Int32) (S : St) => J K 43 [(0, .ref 122), (1, .int x1), (2, .int v)] [] S) (fun k hk v S hf => by
    unfold f_X11_again_43b at hf
    refine j_iload_n hK dX11_again_43 2 rfl rfl ?_
    refine j_bipush hK (39 : Int32) dX11_again_44 bi_39 ?_
    refine j_icmp_ge hK 72 dX11_again_46 (by decide) (fun hc => ?_) (fun hc => ?_)
    · replace hf := if_1 hc hf
      refine j_sub [0] rfl ?_
      exact he _ _ hf
    · replace hf := if_2 hc hf
      refine j_aload_n hK dX11_again_49 0 rfl rfl ?_
      refine j_getR hK fl_X11_31 dX11_again_50 zo_122 zf_11_7 zr_122_7 ?_
      refine j_iload_n hK dX11_again_53 2 rfl rfl ?_
      refine j_aload_n hK dX11_again_54 0 rfl rfl ?_
      refine j_getR hK fl_X11_125 dX11_again_55 zo_122 zf_11_53 zr_122_53 ?_
      refine j_bipush hK (39 : Int32) dX11_again_58 bi_39 ?_
      refine j_iload_n hK dX11_again_60 1 rfl rfl ?_
      refine j_pc (pc' := 61) rfl ?_
      refine j_imul hK dX11_again_61 ?_
      refine j_iload_n hK dX11_again_62 2 rfl rfl ?_
      refine j_iadd hK dX11_again_63 ?_
      obtain ⟨hi1, hf⟩ := gd hf
      refine k_iald hK dX11_again_64 zb_157 hi1 rfl ?_
      obtain ⟨hi2, hf⟩ := gd hf
      refine k_iast hK dX11_again_65 zb_126 hi2 rfl ?_
      refine lt_S hf (fun S3 hf => ?_)
      refine j_iinc hK (L' := [(2, .int (v + (1 : Int32))), (0, .ref 122), (1, .int x1)]) dX11_again_66 2 rfl (congrArg (fun y => v + y) ic_1) (by decide) rfl ?_
      refine j_goto hK 43 dX11_again_69 (by decide) ?_
      refine j_sub [1, 2, 0] rfl ?_
      exact hk _ _ hf)
def f_X11_again (p1 : Int32) (S : St) : Option (Int32 × St) := lt (sI S 122 0 (0 : Int32)) (fun S4 => bd (f_X11_in p1.toInt64 (0 : Int64) (2 : Int64) S4) (fun r5 S6 => (if r5 = 0 then some ((0 : Int32), S6) else if inb p1 3 then (if (gI S6 155 p1.toNatClampNeg) = 0 then some ((0 : Int32), S6) else if inb p1 3 then (if (gI S6 156 p1.toNatClampNeg) = (gI S6 122 4) then lp (f_X11_again_43b p1 (fun v10 S11 => lt (sI S11 122 28 (0 : Int32)) (fun S12 => some ((1 : Int32), S12)))) FU (0 : Int32) S6 else some ((0 : Int32), S6)) else none) else none)))
theorem c_X11_again {p1 : Int32} {S : St} {r : Int32} {S' : St} (hf : f_X11_again p1 S = some (r, S')) : zM yX11_again cX11_again 3 2 (some .boolean) [.ref 122, .int p1] S (some (.int r)) S' := by
  refine zM_of (zpl (by decide)) (Nat.le_of_ble_eq_true rfl) rfl (fun K hK hA => ?_)
  unfold f_X11_again at hf
  refine j_aload_n hK dX11_again_0 0 rfl rfl ?_
  refine j_iconst hK (0 : Int32) dX11_again_1 ic_0 ?_
  refine j_putI hK fl_X11_3 dX11_again_2 zo_122 zf_11_0 ?_
  refine lt_S hf (fun S4 hf => ?_)
  refine j_iload_n hK dX11_again_5 1 rfl rfl ?_
  refine j_i2l hK dX11_again_6 ?_
  refine j_lconst hK (0 : Int64) dX11_again_7 lc_0 ?_
  refine j_ldc2 hK (v := (2 : Int64)) cl_X11_300 dX11_again_8 ?_
  obtain ⟨r5, S6, h7, hf⟩ := bd_J hf
  refine k_callSi hK (c_X11_in h7) dX11_again_11 ml_X11_131 ms_X11_in in_X11 mc_X11_in hy_X11_in ⟨by decide, by decide⟩ rfl (Nat.le_of_ble_eq_true rfl) ?_
  refine j_pc (pc' := 14) rfl ?_
  refine j_if_eq hK 39 dX11_again_14 (by decide) (fun hc => ?_) (fun hc => ?_)
  · replace hf := if_1 hc hf
    refine j_iconst hK (0 : Int32) dX11_again_39 ic_0 ?_
    exact j_zret hK dX11_again_40 rfl rfl (rt_I hA hf)
  · replace hf := if_2 hc hf
    refine j_aload_n hK dX11_again_17 0 rfl rfl ?_
    refine j_getR hK fl_X11_119 dX11_again_18 zo_122 zf_11_51 zr_122_51 ?_
    refine j_iload_n hK dX11_again_21 1 rfl rfl ?_
    obtain ⟨hi8, hf⟩ := gd hf
    refine k_zald hK dX11_again_22 zb_155 hi8 rfl ?_
    refine j_if_eq hK 39 dX11_again_23 (by decide) (fun hc => ?_) (fun hc => ?_)
    · replace hf := if_1 hc hf
      refine j_iconst hK (0 : Int32) dX11_again_39 ic_0 ?_
      exact j_zret hK dX11_again_40 rfl rfl (rt_I hA hf)
    · replace hf := if_2 hc hf
      refine j_aload_n hK dX11_again_26 0 rfl rfl ?_
      refine j_getR hK fl_X11_122 dX11_again_27 zo_122 zf_11_52 zr_122_52 ?_
      refine j_iload_n hK dX11_again_30 1 rfl rfl ?_
      obtain ⟨hi9, hf⟩ := gd hf
      refine k_iald hK dX11_again_31 zb_156 hi9 rfl ?_
      refine j_aload_n hK dX11_again_32 0 rfl rfl ?_
      refine j_getI hK fl_X11_209 dX11_again_33 zo_122 zf_11_4 ?_
      refine j_icmp_eq hK 41 dX11_again_36 (by decide) (fun hc => ?_) (fun hc => ?_)
      · replace hf := if_1 hc hf
        refine j_iconst hK (0 : Int32) dX11_again_41 ic_0 ?_
        refine j_istore_n hK (L' := [(2, .int (0 : Int32)), (0, .ref 122), (1, .int p1)]) dX11_again_42 rfl (by decide) rfl ?_
        refine j_sub [1, 2, 0] rfl ?_
        refine t_X11_again_43 hK hA  (fun v10 S11 hf => ?_) _ _ _ hf
        refine j_aload_n hK dX11_again_72 0 rfl rfl ?_
        refine j_iconst hK (0 : Int32) dX11_again_73 ic_0 ?_
        refine j_putI hK fl_X11_206 dX11_again_74 zo_122 zf_11_28 ?_
        refine lt_S hf (fun S12 hf => ?_)
        refine j_iconst hK (1 : Int32) dX11_again_77 ic_1 ?_
        exact j_zret hK dX11_again_78 rfl rfl (rt_I hA hf)
      · replace hf := if_2 hc hf
        refine j_iconst hK (0 : Int32) dX11_again_39 ic_0 ?_
        exact j_zret hK dX11_again_40 rfl rfl (rt_I hA hf)
def f_X11_count (p1 : Int32) (S : St) : Option (Int32 × St) := lt (sI S 122 0 (0 : Int32)) (fun S1 => (if p1 = (0 : Int32) then some ((gI S1 122 3), S1) else (if p1 = (1 : Int32) then bd (f_J6_bitCount_0f7a4 (gI S1 126 36) S1) (fun r4 S5 => some (r4, S5)) else (if p1 = (2 : Int32) then some ((gI S1 126 37), S1) else (if p1 = (3 : Int32) then some ((gI S1 126 38), S1) else (if p1 = (4 : Int32) then bd (f_X11_sumOf 126 (24 : Int32) S1) (fun r10 S11 => some (r10, S11)) else (if p1 = (5 : Int32) then bd (f_X11_sumOf 126 (0 : Int32) S1) (fun r14 S15 => some (r14, S15)) else (if p1 = (6 : Int32) then some ((gI S1 122 39), S1) else (if p1 = (7 : Int32) then some ((gI S1 122 42), S1) else (if p1 = (8 : Int32) then some ((gI S1 122 28), S1) else (if p1 = (9 : Int32) then some ((gI S1 122 1), S1) else (if p1 = (10 : Int32) then some ((gI S1 122 10), S1) else some ((-100 : Int32), S1)))))))))))))
theorem c_X11_count {p1 : Int32} {S : St} {r : Int32} {S' : St} (hf : f_X11_count p1 S = some (r, S')) : zM yX11_count cX11_count 2 2 (some .int) [.ref 122, .int p1] S (some (.int r)) S' := by
  refine zM_of (zpl (by decide)) (Nat.le_of_ble_eq_true rfl) rfl (fun K hK hA => ?_)
  unfold f_X11_count at hf
  refine j_aload_n hK dX11_count_0 0 rfl rfl ?_
  refine j_iconst hK (0 : Int32) dX11_count_1 ic_0 ?_
  refine j_putI hK fl_X11_3 dX11_count_2 zo_122 zf_11_0 ?_
  refine lt_S hf (fun S1 hf => ?_)
  refine j_iload_n hK dX11_count_5 1 rfl rfl ?_
  by_cases hs2 : p1 = (0 : Int32)
  · replace hf := if_1 hs2 hf
    refine j_tabC hK (0 : Int32) 64 dX11_count_6 hs2 (by decide) rfl (by decide) ?_
    refine j_aload_n hK dX11_count_64 0 rfl rfl ?_
    refine j_getI hK fl_X11_128 dX11_count_65 zo_122 zf_11_3 ?_
    exact j_iret hK dX11_count_68 rfl (rt_I hA hf)
  · replace hf := if_2 hs2 hf
    by_cases hs3 : p1 = (1 : Int32)
    · replace hf := if_1 hs3 hf
      refine j_tabC hK (1 : Int32) 69 dX11_count_6 hs3 (by decide) rfl (by decide) ?_
      refine j_aload_n hK dX11_count_69 0 rfl rfl ?_
      refine j_getR hK fl_X11_31 dX11_count_70 zo_122 zf_11_7 zr_122_7 ?_
      refine j_bipush hK (36 : Int32) dX11_count_73 bi_36 ?_
      refine k_iald hK dX11_count_75 zb_126 (by decide) tn_36 ?_
      obtain ⟨r4, S5, h6, hf⟩ := bd_J hf
      refine k_callSi hK (c_J6_bitCount_0f7a4 h6) dX11_count_76 ml_X11_355 ms_J6_bitCount_0f7a4 in_J6 mc_J6_bitCount_0f7a4 hy_J6_bitCount_0f7a4 ⟨by decide, by decide⟩ rfl (Nat.le_of_ble_eq_true rfl) ?_
      exact j_iret hK dX11_count_79 rfl (rt_I hA hf)
    · replace hf := if_2 hs3 hf
      by_cases hs7 : p1 = (2 : Int32)
      · replace hf := if_1 hs7 hf
        refine j_tabC hK (2 : Int32) 80 dX11_count_6 hs7 (by decide) rfl (by decide) ?_
        refine j_aload_n hK dX11_count_80 0 rfl rfl ?_
        refine j_getR hK fl_X11_31 dX11_count_81 zo_122 zf_11_7 zr_122_7 ?_
        refine j_bipush hK (37 : Int32) dX11_count_84 bi_37 ?_
        refine k_iald hK dX11_count_86 zb_126 (by decide) tn_37 ?_
        exact j_iret hK dX11_count_87 rfl (rt_I hA hf)
      · replace hf := if_2 hs7 hf
        by_cases hs8 : p1 = (3 : Int32)
        · replace hf := if_1 hs8 hf
          refine j_tabC hK (3 : Int32) 88 dX11_count_6 hs8 (by decide) rfl (by decide) ?_
          refine j_aload_n hK dX11_count_88 0 rfl rfl ?_
          refine j_getR hK fl_X11_31 dX11_count_89 zo_122 zf_11_7 zr_122_7 ?_
          refine j_bipush hK (38 : Int32) dX11_count_92 bi_38 ?_
          refine k_iald hK dX11_count_94 zb_126 (by decide) tn_38 ?_
          exact j_iret hK dX11_count_95 rfl (rt_I hA hf)
        · replace hf := if_2 hs8 hf
          by_cases hs9 : p1 = (4 : Int32)
          · replace hf := if_1 hs9 hf
            refine j_tabC hK (4 : Int32) 96 dX11_count_6 hs9 (by decide) rfl (by decide) ?_
            refine j_aload_n hK dX11_count_96 0 rfl rfl ?_
            refine j_aload_n hK dX11_count_97 0 rfl rfl ?_
            refine j_getR hK fl_X11_31 dX11_count_98 zo_122 zf_11_7 zr_122_7 ?_
            refine j_bipush hK (24 : Int32) dX11_count_101 bi_24 ?_
            obtain ⟨r10, S11, h12, hf⟩ := bd_J hf
            refine k_callVi hK (c_X11_sumOf zb_126 h12) dX11_count_103 zclX11 zo_122 ml_X11_316 mi_X11_sumOf mx_X11_sumOf in_X11 mc_X11_sumOf hy_X11_sumOf ⟨by decide, by decide⟩ rfl (Nat.le_of_ble_eq_true rfl) ?_
            exact j_iret hK dX11_count_106 rfl (rt_I hA hf)
          · replace hf := if_2 hs9 hf
            by_cases hs13 : p1 = (5 : Int32)
            · replace hf := if_1 hs13 hf
              refine j_tabC hK (5 : Int32) 107 dX11_count_6 hs13 (by decide) rfl (by decide) ?_
              refine j_aload_n hK dX11_count_107 0 rfl rfl ?_
              refine j_aload_n hK dX11_count_108 0 rfl rfl ?_
              refine j_getR hK fl_X11_31 dX11_count_109 zo_122 zf_11_7 zr_122_7 ?_
              refine j_iconst hK (0 : Int32) dX11_count_112 ic_0 ?_
              obtain ⟨r14, S15, h16, hf⟩ := bd_J hf
              refine k_callVi hK (c_X11_sumOf zb_126 h16) dX11_count_113 zclX11 zo_122 ml_X11_316 mi_X11_sumOf mx_X11_sumOf in_X11 mc_X11_sumOf hy_X11_sumOf ⟨by decide, by decide⟩ rfl (Nat.le_of_ble_eq_true rfl) ?_
              exact j_iret hK dX11_count_116 rfl (rt_I hA hf)
            · replace hf := if_2 hs13 hf
              by_cases hs17 : p1 = (6 : Int32)
              · replace hf := if_1 hs17 hf
                refine j_tabC hK (6 : Int32) 117 dX11_count_6 hs17 (by decide) rfl (by decide) ?_
                refine j_aload_n hK dX11_count_117 0 rfl rfl ?_
                refine j_getI hK fl_X11_408 dX11_count_118 zo_122 zf_11_39 ?_
                exact j_iret hK dX11_count_121 rfl (rt_I hA hf)
              · replace hf := if_2 hs17 hf
                by_cases hs18 : p1 = (7 : Int32)
                · replace hf := if_1 hs18 hf
                  refine j_tabC hK (7 : Int32) 122 dX11_count_6 hs18 (by decide) rfl (by decide) ?_
                  refine j_aload_n hK dX11_count_122 0 rfl rfl ?_
                  refine j_getI hK fl_X11_418 dX11_count_123 zo_122 zf_11_42 ?_
                  exact j_iret hK dX11_count_126 rfl (rt_I hA hf)
                · replace hf := if_2 hs18 hf
                  by_cases hs19 : p1 = (8 : Int32)
                  · replace hf := if_1 hs19 hf
                    refine j_tabC hK (8 : Int32) 127 dX11_count_6 hs19 (by decide) rfl (by decide) ?_
                    refine j_aload_n hK dX11_count_127 0 rfl rfl ?_
                    refine j_getI hK fl_X11_206 dX11_count_128 zo_122 zf_11_28 ?_
                    exact j_iret hK dX11_count_131 rfl (rt_I hA hf)
                  · replace hf := if_2 hs19 hf
                    by_cases hs20 : p1 = (9 : Int32)
                    · replace hf := if_1 hs20 hf
                      refine j_tabC hK (9 : Int32) 132 dX11_count_6 hs20 (by decide) rfl (by decide) ?_
                      refine j_aload_n hK dX11_count_132 0 rfl rfl ?_
                      refine j_getI hK fl_X11_15 dX11_count_133 zo_122 zf_11_1 ?_
                      exact j_iret hK dX11_count_136 rfl (rt_I hA hf)
                    · replace hf := if_2 hs20 hf
                      by_cases hs21 : p1 = (10 : Int32)
                      · replace hf := if_1 hs21 hf
                        refine j_tabC hK (10 : Int32) 137 dX11_count_6 hs21 (by decide) rfl (by decide) ?_
                        refine j_aload_n hK dX11_count_137 0 rfl rfl ?_
                        refine j_getI hK fl_X11_137 dX11_count_138 zo_122 zf_11_10 ?_
                        exact j_iret hK dX11_count_141 rfl (rt_I hA hf)
                      · replace hf := if_2 hs21 hf
                        refine j_tabOut hK 142 dX11_count_6 (by have q := And.intro (ne_toInt 0 (by decide) hs2) (And.intro (ne_toInt 1 (by decide) hs3) (And.intro (ne_toInt 2 (by decide) hs7) (And.intro (ne_toInt 3 (by decide) hs8) (And.intro (ne_toInt 4 (by decide) hs9) (And.intro (ne_toInt 5 (by decide) hs13) (And.intro (ne_toInt 6 (by decide) hs17) (And.intro (ne_toInt 7 (by decide) hs18) (And.intro (ne_toInt 8 (by decide) hs19) (And.intro (ne_toInt 9 (by decide) hs20) (And.intro (ne_toInt 10 (by decide) hs21) trivial)))))))))); omega) (by decide) ?_
                        refine j_bipush hK (-100 : Int32) dX11_count_142 bi_m100 ?_
                        exact j_iret hK dX11_count_144 rfl (rt_I hA hf)
def f_X11_row (p1 : Int32) (S : St) : Option (Int64 × St) := lt (sI S 122 0 (0 : Int32)) (fun S1 => bd (f_X11_in p1.toInt64 (0 : Int64) ((gI S1 122 1) - (1 : Int32)).toInt64 S1) (fun r2 S3 => (if r2 = 0 then lt (sI S3 122 0 (1 : Int32)) (fun S6 => some ((0 : Int64), S6)) else if inb p1 24 then some ((gL S3 123 p1.toNatClampNeg), S3) else none)))
theorem c_X11_row {p1 : Int32} {S : St} {r : Int64} {S' : St} (hf : f_X11_row p1 S = some (r, S')) : zM yX11_row cX11_row 2 2 (some .long) [.ref 122, .int p1] S (some (.long r)) S' := by
  refine zM_of (zpl (by decide)) (Nat.le_of_ble_eq_true rfl) rfl (fun K hK hA => ?_)
  unfold f_X11_row at hf
  refine j_aload_n hK dX11_row_0 0 rfl rfl ?_
  refine j_iconst hK (0 : Int32) dX11_row_1 ic_0 ?_
  refine j_putI hK fl_X11_3 dX11_row_2 zo_122 zf_11_0 ?_
  refine lt_S hf (fun S1 hf => ?_)
  refine j_iload_n hK dX11_row_5 1 rfl rfl ?_
  refine j_i2l hK dX11_row_6 ?_
  refine j_lconst hK (0 : Int64) dX11_row_7 lc_0 ?_
  refine j_aload_n hK dX11_row_8 0 rfl rfl ?_
  refine j_getI hK fl_X11_15 dX11_row_9 zo_122 zf_11_1 ?_
  refine j_pc (pc' := 12) rfl ?_
  refine j_iconst hK (1 : Int32) dX11_row_12 ic_1 ?_
  refine j_isub hK dX11_row_13 ?_
  refine j_i2l hK dX11_row_14 ?_
  obtain ⟨r2, S3, h4, hf⟩ := bd_J hf
  refine k_callSi hK (c_X11_in h4) dX11_row_15 ml_X11_131 ms_X11_in in_X11 mc_X11_in hy_X11_in ⟨by decide, by decide⟩ rfl (Nat.le_of_ble_eq_true rfl) ?_
  refine j_if_ne hK 28 dX11_row_18 (by decide) (fun hc => ?_) (fun hc => ?_)
  · replace hf := if_2 hc hf
    refine j_aload_n hK dX11_row_28 0 rfl rfl ?_
    refine j_getR hK fl_X11_11 dX11_row_29 zo_122 zf_11_2 zr_122_2 ?_
    refine j_iload_n hK dX11_row_32 1 rfl rfl ?_
    obtain ⟨hi5, hf⟩ := gd hf
    refine k_lald hK dX11_row_33 zb_123 hi5 rfl ?_
    exact j_lret hK dX11_row_34 rfl (rt_L hA hf)
  · replace hf := if_1 hc hf
    refine j_aload_n hK dX11_row_21 0 rfl rfl ?_
    refine j_iconst hK (1 : Int32) dX11_row_22 ic_1 ?_
    refine j_putI hK fl_X11_3 dX11_row_23 zo_122 zf_11_0 ?_
    refine lt_S hf (fun S6 hf => ?_)
    refine j_lconst hK (0 : Int64) dX11_row_26 lc_0 ?_
    exact j_lret hK dX11_row_27 rfl (rt_L hA hf)
