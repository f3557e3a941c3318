def f_X11_told_39 (x1 : Int32) (x2 : Int32) (x3 : Int32) (s0 : Int32) (S : St) : Option (Int32 × St) := bd (f_X11_in x1.toInt64 (0 : Int64) (4 : Int64) S) (fun r1 S2 => (if r1 = 0 then some ((-1 : Int32), S2) else bd (f_X11_in x2.toInt64 x3.toInt64 s0.toInt64 S2) (fun r4 S5 => (if r4 = 0 then some ((-1 : Int32), S5) else (if (gI S5 122 39) = (12 : Int32) then some ((-1 : Int32), S5) else if inb (gI S5 122 39) 12 then lt (sI S5 146 (gI S5 122 39).toNatClampNeg x1) (fun S8 => if inb (gI S8 122 39) 12 then lt (sI S8 147 (gI S8 122 39).toNatClampNeg x2) (fun S10 => lt (sI S10 122 39 ((gI S10 122 39) + (1 : Int32))) (fun S11 => some ((gI S11 122 39), S11))) else none) else none)))))
theorem t_X11_told_39 {K : CT} (hK : KO K cX11_told RX11 5 2 (some .int)) {r : Int32} {S' : St} (hA : zans K (some (.int r), S')) {x1 : Int32} {x2 : Int32} {x3 : Int32} {s0 : Int32} {S : St} (hf : f_X11_told_39 x1 x2 x3 s0 S = some (r, S')) : J K 39 [(0, .ref 122), (1, .int x1), (2, .int x2), (3, .int x3)] [.int s0] S := by
  unfold f_X11_told_39 at hf
  refine j_istore hK (L' := [(4, .int s0), (0, .ref 122), (1, .int x1), (2, .int x2), (3, .int x3)]) dX11_told_39 (by decide) rfl ?_
  refine j_iload_n hK dX11_told_41 2 rfl rfl ?_
  refine j_i2l hK dX11_told_42 ?_
  refine j_lconst hK (0 : Int64) dX11_told_43 lc_0 ?_
  refine j_ldc2 hK (v := (4 : Int64)) cl_X11_406 dX11_told_44 ?_
  obtain ⟨r1, S2, h3, hf⟩ := bd_J hf
  refine k_callSi hK (c_X11_in h3) dX11_told_47 ml_X11_131 ms_X11_in in_X11 mc_X11_in hy_X11_in ⟨by decide, by decide⟩ rfl (Nat.le_of_ble_eq_true rfl) ?_
  refine j_if_eq hK 75 dX11_told_50 (by decide) (fun hc => ?_) (fun hc => ?_)
  · replace hf := if_1 hc hf
    refine j_iconst hK (-1 : Int32) dX11_told_75 ic_m1 ?_
    exact j_iret hK dX11_told_76 rfl (rt_I hA hf)
  · replace hf := if_2 hc hf
    refine j_iload_n hK dX11_told_53 3 rfl rfl ?_
    refine j_i2l hK dX11_told_54 ?_
    refine j_iload_n hK dX11_told_55 4 rfl rfl ?_
    refine j_i2l hK dX11_told_56 ?_
    refine j_iload hK dX11_told_57 0 rfl ?_
    refine j_i2l hK dX11_told_59 ?_
    obtain ⟨r4, S5, h6, hf⟩ := bd_J hf
    refine k_callSi hK (c_X11_in h6) dX11_told_60 ml_X11_131 ms_X11_in in_X11 mc_X11_in hy_X11_in ⟨by decide, by decide⟩ rfl (Nat.le_of_ble_eq_true rfl) ?_
    refine j_pc (pc' := 63) rfl ?_
    refine j_if_eq hK 75 dX11_told_63 (by decide) (fun hc => ?_) (fun hc => ?_)
    · replace hf := if_1 hc hf
      refine j_iconst hK (-1 : Int32) dX11_told_75 ic_m1 ?_
      exact j_iret hK dX11_told_76 rfl (rt_I hA hf)
    · replace hf := if_2 hc hf
      refine j_aload_n hK dX11_told_66 1 rfl rfl ?_
      refine j_getI hK fl_X11_408 dX11_told_67 zo_122 zf_11_39 ?_
      refine j_bipush hK (12 : Int32) dX11_told_70 bi_12 ?_
      refine j_icmp_ne hK 77 dX11_told_72 (by decide) (fun hc => ?_) (fun hc => ?_)
      · replace hf := if_2 hc hf
        refine j_aload_n hK dX11_told_77 1 rfl rfl ?_
        refine j_getR hK fl_X11_92 dX11_told_78 zo_122 zf_11_40 zr_122_40 ?_
        refine j_aload_n hK dX11_told_81 1 rfl rfl ?_
        refine j_getI hK fl_X11_408 dX11_told_82 zo_122 zf_11_39 ?_
        refine j_iload_n hK dX11_told_85 2 rfl rfl ?_
        obtain ⟨hi7, hf⟩ := gd hf
        refine k_iast hK dX11_told_86 zb_146 hi7 rfl ?_
        refine lt_S hf (fun S8 hf => ?_)
        refine j_aload_n hK dX11_told_87 1 rfl rfl ?_
        refine j_pc (pc' := 88) rfl ?_
        refine j_getR hK fl_X11_95 dX11_told_88 zo_122 zf_11_41 zr_122_41 ?_
        refine j_aload_n hK dX11_told_91 1 rfl rfl ?_
        refine j_getI hK fl_X11_408 dX11_told_92 zo_122 zf_11_39 ?_
        refine j_iload_n hK dX11_told_95 3 rfl rfl ?_
        obtain ⟨hi9, hf⟩ := gd hf
        refine k_iast hK dX11_told_96 zb_147 hi9 rfl ?_
        refine lt_S hf (fun S10 hf => ?_)
        refine j_aload_n hK dX11_told_97 1 rfl rfl ?_
        refine j_dup hK dX11_told_98 rfl ?_
        refine j_getI hK fl_X11_408 dX11_told_99 zo_122 zf_11_39 ?_
        refine j_pc (pc' := 102) rfl ?_
        refine j_iconst hK (1 : Int32) dX11_told_102 ic_1 ?_
        refine j_iadd hK dX11_told_103 ?_
        refine j_putI hK fl_X11_408 dX11_told_104 zo_122 zf_11_39 ?_
        refine lt_S hf (fun S11 hf => ?_)
        refine j_aload_n hK dX11_told_107 1 rfl rfl ?_
        refine j_getI hK fl_X11_408 dX11_told_108 zo_122 zf_11_39 ?_
        exact j_iret hK dX11_told_111 rfl (rt_I hA hf)
      · replace hf := if_1 hc hf
        refine j_iconst hK (-1 : Int32) dX11_told_75 ic_m1 ?_
        exact j_iret hK dX11_told_76 rfl (rt_I hA hf)
def f_X11_told_14 (x1 : Int32) (x2 : Int32) (s0 : Int32) (S : St) : Option (Int32 × St) := bd (f_X11_flag s0 S) (fun r12 S13 => (if x1 = (1 : Int32) then f_X11_told_39 x1 x2 r12 (7 : Int32) S13 else (if x1 = (3 : Int32) then f_X11_told_39 x1 x2 r12 (1 : Int32) S13 else f_X11_told_39 x1 x2 r12 (9 : Int32) S13)))
theorem t_X11_told_14 {K : CT} (hK : KO K cX11_told RX11 5 2 (some .int)) {r : Int32} {S' : St} (hA : zans K (some (.int r), S')) {x1 : Int32} {x2 : Int32} {s0 : Int32} {S : St} (hf : f_X11_told_14 x1 x2 s0 S = some (r, S')) : J K 14 [(0, .ref 122), (1, .int x1), (2, .int x2)] [.int s0] S := by
  unfold f_X11_told_14 at hf
  obtain ⟨r12, S13, h14, hf⟩ := bd_J hf
  refine k_callSi hK (c_X11_flag h14) dX11_told_14 ml_X11_155 ms_X11_flag in_X11 mc_X11_flag hy_X11_flag ⟨by decide, by decide⟩ rfl (Nat.le_of_ble_eq_true rfl) ?_
  refine j_istore_n hK (L' := [(3, .int r12), (0, .ref 122), (1, .int x1), (2, .int x2)]) dX11_told_17 rfl (by decide) rfl ?_
  refine j_iload_n hK dX11_told_18 2 rfl rfl ?_
  refine j_iconst hK (1 : Int32) dX11_told_19 ic_1 ?_
  refine j_icmp_ne hK 28 dX11_told_20 (by decide) (fun hc => ?_) (fun hc => ?_)
  · replace hf := if_2 hc hf
    refine j_iload_n hK dX11_told_28 2 rfl rfl ?_
    refine j_iconst hK (3 : Int32) dX11_told_29 ic_3 ?_
    refine j_icmp_ne hK 37 dX11_told_30 (by decide) (fun hc => ?_) (fun hc => ?_)
    · replace hf := if_2 hc hf
      refine j_bipush hK (9 : Int32) dX11_told_37 bi_9 ?_
      refine j_sub [1, 2, 3, 0] rfl ?_
      exact t_X11_told_39 hK hA  hf
    · replace hf := if_1 hc hf
      refine j_iconst hK (1 : Int32) dX11_told_33 ic_1 ?_
      refine j_goto hK 39 dX11_told_34 (by decide) ?_
      refine j_sub [1, 2, 3, 0] rfl ?_
      exact t_X11_told_39 hK hA  hf
  · replace hf := if_1 hc hf
    refine j_bipush hK (7 : Int32) dX11_told_23 bi_7 ?_
    refine j_goto hK 39 dX11_told_25 (by decide) ?_
    refine j_sub [1, 2, 3, 0] rfl ?_
    exact t_X11_told_39 hK hA  hf
def f_X11_told (p1 : Int32) (p2 : Int32) (S : St) : Option (Int32 × St) := lt (sI S 122 0 (0 : Int32)) (fun S15 => (if p1 = 0 then f_X11_told_14 p1 p2 (1 : Int32) S15 else f_X11_told_14 p1 p2 (0 : Int32) S15))
theorem c_X11_told {p1 : Int32} {p2 : Int32} {S : St} {r : Int32} {S' : St} (hf : f_X11_told p1 p2 S = some (r, S')) : zM yX11_told cX11_told 5 2 (some .int) [.ref 122, .int p1, .int p2] S (some (.int r)) S' := by
  refine zM_of (zpl (by decide)) (Nat.le_of_ble_eq_true rfl) rfl (fun K hK hA => ?_)
  unfold f_X11_told at hf
  refine j_aload_n hK dX11_told_0 0 rfl rfl ?_
  refine j_iconst hK (0 : Int32) dX11_told_1 ic_0 ?_
  refine j_putI hK fl_X11_3 dX11_told_2 zo_122 zf_11_0 ?_
  refine lt_S hf (fun S15 hf => ?_)
  refine j_iload_n hK dX11_told_5 1 rfl rfl ?_
  refine j_if_ne hK 13 dX11_told_6 (by decide) (fun hc => ?_) (fun hc => ?_)
  · replace hf := if_2 hc hf
    refine j_iconst hK (0 : Int32) dX11_told_13 ic_0 ?_
    exact t_X11_told_14 hK hA  hf
  · replace hf := if_1 hc hf
    refine j_iconst hK (1 : Int32) dX11_told_9 ic_1 ?_
    refine j_goto hK 14 dX11_told_10 (by decide) ?_
    exact t_X11_told_14 hK hA  hf
def f_X11_forget (S : St) : Option (Int32 × St) := lt (sI S 122 0 (0 : Int32)) (fun S1 => lt (gI S1 122 39) (fun y2 => lt (sI S1 122 39 (0 : Int32)) (fun S3 => some (y2, S3))))
theorem c_X11_forget {S : St} {r : Int32} {S' : St} (hf : f_X11_forget S = some (r, S')) : zM yX11_forget cX11_forget 2 1 (some .int) [.ref 122] S (some (.int r)) S' := by
  refine zM_of (zpl (by decide)) (Nat.le_of_ble_eq_true rfl) rfl (fun K hK hA => ?_)
  unfold f_X11_forget at hf
  refine j_aload_n hK dX11_forget_0 0 rfl rfl ?_
  refine j_iconst hK (0 : Int32) dX11_forget_1 ic_0 ?_
  refine j_putI hK fl_X11_3 dX11_forget_2 zo_122 zf_11_0 ?_
  refine lt_S hf (fun S1 hf => ?_)
  refine j_aload_n hK dX11_forget_5 0 rfl rfl ?_
  refine j_getI hK fl_X11_408 dX11_forget_6 zo_122 zf_11_39 ?_
  refine lt_I hf (fun y2 hf => ?_)
  refine j_istore_n hK (L' := [(1, .int y2), (0, .ref 122)]) dX11_forget_9 rfl (by decide) rfl ?_
  refine j_aload_n hK dX11_forget_10 1 rfl rfl ?_
  refine j_iconst hK (0 : Int32) dX11_forget_11 ic_0 ?_
  refine j_pc (pc' := 12) rfl ?_
  refine j_putI hK fl_X11_408 dX11_forget_12 zo_122 zf_11_39 ?_
  refine lt_S hf (fun S3 hf => ?_)
  refine j_iload_n hK dX11_forget_15 0 rfl rfl ?_
  exact j_iret hK dX11_forget_16 rfl (rt_I hA hf)
def f_X11_isSo (p1 : Int32) (p2 : Int32) (p3 : Int32) (S : St) : Option (Int32 × St) := (if p2 = (0 : Int32) then if inb p1 39 then (if (gI S 126 p1.toNatClampNeg) < p3 then some ((0 : Int32), S) else some ((1 : Int32), S)) else none else (if p2 = (1 : Int32) then bd (f_X11_isEnd p1 p3 S) (fun r4 S5 => if r4 = 0 ∨ r4 = 1 then some (r4, S5) else none) else (if p2 = (2 : Int32) then if inb ((12 : Int32) + p1) 39 then (if (gI S 126 ((12 : Int32) + p1).toNatClampNeg) = p3 then some ((1 : Int32), S) else some ((0 : Int32), S)) else none else (if p2 = (3 : Int32) then bd (f_X11_has (gI S 126 36) p1 S) (fun r10 S11 => bd (f_X11_flag r10 S11) (fun r13 S14 => (if r13 = p3 then some ((1 : Int32), S14) else some ((0 : Int32), S14)))) else if inb ((24 : Int32) + p1) 39 then (if p3 < (gI S 126 ((24 : Int32) + p1).toNatClampNeg) then some ((0 : Int32), S) else some ((1 : Int32), S)) else none))))
theorem c_X11_isSo {p1 : Int32} {p2 : Int32} {p3 : Int32} {S : St} {r : Int32} {S' : St} (hf : f_X11_isSo p1 p2 p3 S = some (r, S')) : zM yX11_isSo cX11_isSo 4 2 (some .boolean) [.ref 122, .int p1, .int p2, .int p3] S (some (.int r)) S' := by
  refine zM_of (zpl (by decide)) (Nat.le_of_ble_eq_true rfl) rfl (fun K hK hA => ?_)
  unfold f_X11_isSo at hf
  refine j_iload_n hK dX11_isSo_0 2 rfl rfl ?_
  by_cases hs1 : p2 = (0 : Int32)
  · replace hf := if_1 hs1 hf
    refine j_tabC hK (0 : Int32) 32 dX11_isSo_1 hs1 (by decide) rfl (by decide) ?_
    refine j_aload_n hK dX11_isSo_32 0 rfl rfl ?_
    refine j_getR hK fl_X11_31 dX11_isSo_33 zo_122 zf_11_7 zr_122_7 ?_
    refine j_iload_n hK dX11_isSo_36 1 rfl rfl ?_
    obtain ⟨hi2, hf⟩ := gd hf
    refine k_iald hK dX11_isSo_37 zb_126 hi2 rfl ?_
    refine j_iload_n hK dX11_isSo_38 3 rfl rfl ?_
    refine j_icmp_lt hK 46 dX11_isSo_39 (by decide) (fun hc => ?_) (fun hc => ?_)
    · replace hf := if_1 hc hf
      refine j_iconst hK (0 : Int32) dX11_isSo_46 ic_0 ?_
      exact j_zret hK dX11_isSo_47 rfl rfl (rt_I hA hf)
    · replace hf := if_2 hc hf
      refine j_iconst hK (1 : Int32) dX11_isSo_42 ic_1 ?_
      refine j_goto hK 47 dX11_isSo_43 (by decide) ?_
      exact j_zret hK dX11_isSo_47 rfl rfl (rt_I hA hf)
  · replace hf := if_2 hs1 hf
    by_cases hs3 : p2 = (1 : Int32)
    · replace hf := if_1 hs3 hf
      refine j_tabC hK (1 : Int32) 48 dX11_isSo_1 hs3 (by decide) rfl (by decide) ?_
      refine j_aload_n hK dX11_isSo_48 0 rfl rfl ?_
      refine j_iload_n hK dX11_isSo_49 1 rfl rfl ?_
      refine j_iload_n hK dX11_isSo_50 3 rfl rfl ?_
      obtain ⟨r4, S5, h6, hf⟩ := bd_J hf
      refine k_callVi hK (c_X11_isEnd h6) dX11_isSo_51 zclX11 zo_122 ml_X11_266 mi_X11_isEnd mx_X11_isEnd in_X11 mc_X11_isEnd hy_X11_isEnd ⟨by decide, by decide⟩ rfl (Nat.le_of_ble_eq_true rfl) ?_
      obtain ⟨hz, hf⟩ := gd hf
      exact j_zret hK dX11_isSo_54 rfl (nz hz) (rt_I hA hf)
    · replace hf := if_2 hs3 hf
      by_cases hs7 : p2 = (2 : Int32)
      · replace hf := if_1 hs7 hf
        refine j_tabC hK (2 : Int32) 55 dX11_isSo_1 hs7 (by decide) rfl (by decide) ?_
        refine j_aload_n hK dX11_isSo_55 0 rfl rfl ?_
        refine j_getR hK fl_X11_31 dX11_isSo_56 zo_122 zf_11_7 zr_122_7 ?_
        refine j_bipush hK (12 : Int32) dX11_isSo_59 bi_12 ?_
        refine j_iload_n hK dX11_isSo_61 1 rfl rfl ?_
        refine j_iadd hK dX11_isSo_62 ?_
        obtain ⟨hi8, hf⟩ := gd hf
        refine k_iald hK dX11_isSo_63 zb_126 hi8 rfl ?_
        refine j_iload_n hK dX11_isSo_64 3 rfl rfl ?_
        refine j_pc (pc' := 65) rfl ?_
        refine j_icmp_ne hK 72 dX11_isSo_65 (by decide) (fun hc => ?_) (fun hc => ?_)
        · replace hf := if_2 hc hf
          refine j_iconst hK (0 : Int32) dX11_isSo_72 ic_0 ?_
          exact j_zret hK dX11_isSo_73 rfl rfl (rt_I hA hf)
        · replace hf := if_1 hc hf
          refine j_iconst hK (1 : Int32) dX11_isSo_68 ic_1 ?_
          refine j_goto hK 73 dX11_isSo_69 (by decide) ?_
          exact j_zret hK dX11_isSo_73 rfl rfl (rt_I hA hf)
      · replace hf := if_2 hs7 hf
        by_cases hs9 : p2 = (3 : Int32)
        · replace hf := if_1 hs9 hf
          refine j_tabC hK (3 : Int32) 74 dX11_isSo_1 hs9 (by decide) rfl (by decide) ?_
          refine j_aload_n hK dX11_isSo_74 0 rfl rfl ?_
          refine j_getR hK fl_X11_31 dX11_isSo_75 zo_122 zf_11_7 zr_122_7 ?_
          refine j_bipush hK (36 : Int32) dX11_isSo_78 bi_36 ?_
          refine k_iald hK dX11_isSo_80 zb_126 (by decide) tn_36 ?_
          refine j_iload_n hK dX11_isSo_81 1 rfl rfl ?_
          obtain ⟨r10, S11, h12, hf⟩ := bd_J hf
          refine k_callSi hK (c_X11_has h12) dX11_isSo_82 ml_X11_262 ms_X11_has in_X11 mc_X11_has hy_X11_has ⟨by decide, by decide⟩ rfl (Nat.le_of_ble_eq_true rfl) ?_
          obtain ⟨r13, S14, h15, hf⟩ := bd_J hf
          refine k_callSi hK (c_X11_flag h15) dX11_isSo_85 ml_X11_155 ms_X11_flag in_X11 mc_X11_flag hy_X11_flag ⟨by decide, by decide⟩ rfl (Nat.le_of_ble_eq_true rfl) ?_
          refine j_pc (pc' := 88) rfl ?_
          refine j_iload_n hK dX11_isSo_88 3 rfl rfl ?_
          refine j_icmp_ne hK 96 dX11_isSo_89 (by decide) (fun hc => ?_) (fun hc => ?_)
          · replace hf := if_2 hc hf
            refine j_iconst hK (0 : Int32) dX11_isSo_96 ic_0 ?_
            exact j_zret hK dX11_isSo_97 rfl rfl (rt_I hA hf)
          · replace hf := if_1 hc hf
            refine j_iconst hK (1 : Int32) dX11_isSo_92 ic_1 ?_
            refine j_goto hK 97 dX11_isSo_93 (by decide) ?_
            exact j_zret hK dX11_isSo_97 rfl rfl (rt_I hA hf)
        · replace hf := if_2 hs9 hf
          refine j_tabOut hK 98 dX11_isSo_1 (by have q := And.intro (ne_toInt 0 (by decide) hs1) (And.intro (ne_toInt 1 (by decide) hs3) (And.intro (ne_toInt 2 (by decide) hs7) (And.intro (ne_toInt 3 (by decide) hs9) trivial))); omega) (by decide) ?_
          refine j_aload_n hK dX11_isSo_98 0 rfl rfl ?_
          refine j_getR hK fl_X11_31 dX11_isSo_99 zo_122 zf_11_7 zr_122_7 ?_
          refine j_bipush hK (24 : Int32) dX11_isSo_102 bi_24 ?_
          refine j_iload_n hK dX11_isSo_104 1 rfl rfl ?_
          refine j_iadd hK dX11_isSo_105 ?_
          obtain ⟨hi16, hf⟩ := gd hf
          refine k_iald hK dX11_isSo_106 zb_126 hi16 rfl ?_
          refine j_iload_n hK dX11_isSo_107 3 rfl rfl ?_
          refine j_pc (pc' := 108) rfl ?_
          refine j_icmp_gt hK 115 dX11_isSo_108 (by decide) (fun hc => ?_) (fun hc => ?_)
          · replace hf := if_1 hc hf
            refine j_iconst hK (0 : Int32) dX11_isSo_115 ic_0 ?_
            exact j_zret hK dX11_isSo_116 rfl rfl (rt_I hA hf)
          · replace hf := if_2 hc hf
            refine j_iconst hK (1 : Int32) dX11_isSo_111 ic_1 ?_
            refine j_goto hK 116 dX11_isSo_112 (by decide) ?_
            exact j_zret hK dX11_isSo_116 rfl rfl (rt_I hA hf)
def f_X11_fitting_76 (x2 : Int32) (s0 : Int32) (s1 : Int32) (k e : Int32 × Int32 → St → Option (Int32 × St)) (S : St) : Option (Int32 × St) := lt (s0 ||| s1) (fun y1 => k (y1, (x2 + (1 : Int32))) S)
theorem t_X11_fitting_76 {K : CT} (hK : KO K cX11_fitting RX11 5 3 (some .int)) {r : Int32} {S' : St} (hA : zans K (some (.int r), S')) {x2 : Int32} {s0 : Int32} {s1 : Int32} {k e : Int32 × Int32 → St → Option (Int32 × St)} (hk : ∀ (v : Int32 × Int32) (S : St), k v S = some (r, S') → J K 4 [(0, .ref 122), (1, .int v.1), (2, .int v.2)] [] S) (he : ∀ (v : Int32 × Int32) (S : St), e v S = some (r, S') → J K 84 [(1, .int v.1)] [] S) {S : St} (hf : f_X11_fitting_76 x2 s0 s1 k e S = some (r, S')) : J K 76 [(0, .ref 122), (2, .int x2)] [.int s1, .int s0] S := by
  unfold f_X11_fitting_76 at hf
  refine j_ior hK dX11_fitting_76 ?_
  refine lt_I hf (fun y1 hf => ?_)
  refine j_istore_n hK (L' := [(1, .int y1), (0, .ref 122), (2, .int x2)]) dX11_fitting_77 rfl (by decide) rfl ?_
  refine j_iinc hK (L' := [(2, .int (x2 + (1 : Int32))), (1, .int y1), (0, .ref 122)]) dX11_fitting_78 2 rfl (congrArg (fun y => x2 + y) ic_1) (by decide) rfl ?_
  refine j_goto hK 4 dX11_fitting_81 (by decide) ?_
  refine j_sub [2, 1, 0] rfl ?_
  exact hk _ _ hf
def f_X11_fitting_57 (x1 : Int32) (x2 : Int32) (x4 : Int32) (s0 : Int32) (k e : Int32 × Int32 → St → Option (Int32 × St)) (S : St) : Option (Int32 × St) := k (s0, (x4 + (1 : Int32))) S
theorem t_X11_fitting_57 {K : CT} (hK : KO K cX11_fitting RX11 5 3 (some .int)) {r : Int32} {S' : St} (hA : zans K (some (.int r), S')) {x1 : Int32} {x2 : Int32} {x4 : Int32} {s0 : Int32} {k e : Int32 × Int32 → St → Option (Int32 × St)} (hk : ∀ (v : Int32 × Int32) (S : St), k v S = some (r, S') → J K 17 [(0, .ref 122), (1, .int x1), (2, .int x2), (3, .int v.1), (4, .int v.2)] [] S) (he : ∀ (v : Int32 × Int32) (S : St), e v S = some (r, S') → J K 64 [(0, .ref 122), (1, .int x1), (2, .int x2), (3, .int v.1)] [] S) {S : St} (hf : f_X11_fitting_57 x1 x2 x4 s0 k e S = some (r, S')) : J K 57 [(0, .ref 122), (1, .int x1), (2, .int x2), (4, .int x4)] [.int s0] S := by
  unfold f_X11_fitting_57 at hf
  refine j_istore_n hK (L' := [(3, .int s0), (0, .ref 122), (1, .int x1), (2, .int x2), (4, .int x4)]) dX11_fitting_57 rfl (by decide) rfl ?_
  refine j_iinc hK (L' := [(4, .int (x4 + (1 : Int32))), (3, .int s0), (0, .ref 122), (1, .int x1), (2, .int x2)]) dX11_fitting_58 4 rfl (congrArg (fun y => x4 + y) ic_1) (by decide) rfl ?_
  refine j_goto hK 17 dX11_fitting_61 (by decide) ?_
  refine j_sub [2, 3, 4, 1, 0] rfl ?_
  exact hk _ _ hf
def f_X11_fitting_56 (x1 : Int32) (x2 : Int32) (x4 : Int32) (k e : Int32 × Int32 → St → Option (Int32 × St)) (S : St) : Option (Int32 × St) := f_X11_fitting_57 x1 x2 x4 (0 : Int32) k e S
theorem t_X11_fitting_56 {K : CT} (hK : KO K cX11_fitting RX11 5 3 (some .int)) {r : Int32} {S' : St} (hA : zans K (some (.int r), S')) {x1 : Int32} {x2 : Int32} {x4 : Int32} {k e : Int32 × Int32 → St → Option (Int32 × St)} (hk : ∀ (v : Int32 × Int32) (S : St), k v S = some (r, S') → J K 17 [(0, .ref 122), (1, .int x1), (2, .int x2), (3, .int v.1), (4, .int v.2)] [] S) (he : ∀ (v : Int32 × Int32) (S : St), e v S = some (r, S') → J K 64 [(0, .ref 122), (1, .int x1), (2, .int x2), (3, .int v.1)] [] S) {S : St} (hf : f_X11_fitting_56 x1 x2 x4 k e S = some (r, S')) : J K 56 [(0, .ref 122), (1, .int x1), (2, .int x2), (4, .int x4)] [] S := by
  unfold f_X11_fitting_56 at hf
  refine j_iconst hK (0 : Int32) dX11_fitting_56 ic_0 ?_
  exact t_X11_fitting_57 hK hA hk he hf
def f_X11_fitting_17b (x1 : Int32) (x2 : Int32) (e : Int32 × Int32 → St → Option (Int32 × St)) (k : Int32 × Int32 → St → Option (Int32 × St)) (v : Int32 × Int32) (S : St) : Option (Int32 × St) := (if (gI S 122 39) ≤ v.2 then e (v.1, v.2) S else (if v.1 = 0 then f_X11_fitting_56 x1 x2 v.2 k e S else if inb v.2 12 then if inb v.2 12 then bd (f_X11_isSo x2 (gI S 146 v.2.toNatClampNeg) (gI S 147 v.2.toNatClampNeg) S) (fun r4 S5 => (if r4 = 0 then f_X11_fitting_56 x1 x2 v.2 k e S5 else f_X11_fitting_57 x1 x2 v.2 (1 : Int32) k e S5)) else none else none))
theorem t_X11_fitting_17 {K : CT} (hK : KO K cX11_fitting RX11 5 3 (some .int)) {r : Int32} {S' : St} (hA : zans K (some (.int r), S')) {x1 : Int32} {x2 : Int32} {e : Int32 × Int32 → St → Option (Int32 × St)} (he : ∀ (v : Int32 × Int32) (S : St), e v S = some (r, S') → J K 64 [(0, .ref 122), (1, .int x1), (2, .int x2), (3, .int v.1)] [] S) : ∀ (n : Nat) (v : Int32 × Int32) (S : St), lp (f_X11_fitting_17b x1 x2 e) n v S = some (r, S') → J K 17 [(0, .ref 122), (1, .int x1), (2, .int x2), (3, .int v.1), (4, .int v.2)] [] S :=
  lp_J (P := fun (v : Int32 × Int32) (S : St) => J K 17 [(0, .ref 122), (1, .int x1), (2, .int x2), (3, .int v.1), (4, .int v.2)] [] S) (fun k hk v S hf => by
    unfold f_X11_fitting_17b at hf
    refine j_iload hK dX11_fitting_17 4 rfl ?_
    refine j_aload_n hK dX11_fitting_19 0 rfl rfl ?_
    refine j_getI hK fl_X11_408 dX11_fitting_20 zo_122 zf_11_39 ?_
    refine j_icmp_ge hK 64 dX11_fitting_23 (by decide) (fun hc => ?_) (fun hc => ?_)
    · replace hf := if_1 hc hf
      refine j_sub [0, 1, 2, 3] rfl ?_
      exact he _ _ hf
    · replace hf := if_2 hc hf
      refine j_iload_n hK dX11_fitting_26 3 rfl rfl ?_
      refine j_if_eq hK 56 dX11_fitting_27 (by decide) (fun hc => ?_) (fun hc => ?_)
      · replace hf := if_1 hc hf
        refine j_sub [0, 1, 2, 4] rfl ?_
        exact t_X11_fitting_56 hK hA hk he hf
      · replace hf := if_2 hc hf
        refine j_aload_n hK dX11_fitting_30 0 rfl rfl ?_
        refine j_iload_n hK dX11_fitting_31 2 rfl rfl ?_
        refine j_aload_n hK dX11_fitting_32 0 rfl rfl ?_
        refine j_getR hK fl_X11_92 dX11_fitting_33 zo_122 zf_11_40 zr_122_40 ?_
        refine j_iload hK dX11_fitting_36 4 rfl ?_
        obtain ⟨hi2, hf⟩ := gd hf
        refine k_iald hK dX11_fitting_38 zb_146 hi2 rfl ?_
        refine j_aload_n hK dX11_fitting_39 0 rfl rfl ?_
        refine j_pc (pc' := 40) rfl ?_
        refine j_getR hK fl_X11_95 dX11_fitting_40 zo_122 zf_11_41 zr_122_41 ?_
        refine j_iload hK dX11_fitting_43 4 rfl ?_
        obtain ⟨hi3, hf⟩ := gd hf
        refine k_iald hK dX11_fitting_45 zb_147 hi3 rfl ?_
        obtain ⟨r4, S5, h6, hf⟩ := bd_J hf
        refine k_callVi hK (c_X11_isSo h6) dX11_fitting_46 zclX11 zo_122 ml_X11_411 mi_X11_isSo mx_X11_isSo in_X11 mc_X11_isSo hy_X11_isSo ⟨by decide, by decide⟩ rfl (Nat.le_of_ble_eq_true rfl) ?_
        refine j_if_eq hK 56 dX11_fitting_49 (by decide) (fun hc => ?_) (fun hc => ?_)
        · replace hf := if_1 hc hf
          refine j_sub [0, 1, 2, 4] rfl ?_
          exact t_X11_fitting_56 hK hA hk he hf
        · replace hf := if_2 hc hf
          refine j_iconst hK (1 : Int32) dX11_fitting_52 ic_1 ?_
          refine j_goto hK 57 dX11_fitting_53 (by decide) ?_
          refine j_sub [0, 1, 2, 4] rfl ?_
          exact t_X11_fitting_57 hK hA hk he hf)
def f_X11_fitting_4b (e : Int32 × Int32 → St → Option (Int32 × St)) (k : Int32 × Int32 → St → Option (Int32 × St)) (v : Int32 × Int32) (S : St) : Option (Int32 × St) := (if (gI S 122 3) ≤ v.2 then e (v.1, v.2) S else lp (f_X11_fitting_17b v.1 v.2 (fun v7 S8 => (if v7.1 = 0 then f_X11_fitting_76 v.2 v.1 (0 : Int32) k e S8 else f_X11_fitting_76 v.2 v.1 ((1 : Int32) <<< (v.2 &&& 31)) k e S8))) FU ((1 : Int32), (0 : Int32)) S)
theorem t_X11_fitting_4 {K : CT} (hK : KO K cX11_fitting RX11 5 3 (some .int)) {r : Int32} {S' : St} (hA : zans K (some (.int r), S')) {e : Int32 × Int32 → St → Option (Int32 × St)} (he : ∀ (v : Int32 × Int32) (S : St), e v S = some (r, S') → J K 84 [(1, .int v.1)] [] S) : ∀ (n : Nat) (v : Int32 × Int32) (S : St), lp (f_X11_fitting_4b  e) n v S = some (r, S') → J K 4 [(0, .ref 122), (1, .int v.1), (2, .int v.2)] [] S :=
  lp_J (P := fun (v : Int32 × Int32) (S : St) => J K 4 [(0, .ref 122), (1, .int v.1), (2, .int v.2)] [] S) (fun k hk v S hf => by
    unfold f_X11_fitting_4b at hf
    refine j_iload_n hK dX11_fitting_4 2 rfl rfl ?_
    refine j_aload_n hK dX11_fitting_5 0 rfl rfl ?_
    refine j_getI hK fl_X11_128 dX11_fitting_6 zo_122 zf_11_3 ?_
    refine j_icmp_ge hK 84 dX11_fitting_9 (by decide) (fun hc => ?_) (fun hc => ?_)
    · replace hf := if_1 hc hf
      refine j_sub [1] rfl ?_
      exact he _ _ hf
    · replace hf := if_2 hc hf
      refine j_iconst hK (1 : Int32) dX11_fitting_12 ic_1 ?_
      refine j_istore_n hK (L' := [(3, .int (1 : Int32)), (0, .ref 122), (1, .int v.1), (2, .int v.2)]) dX11_fitting_13 rfl (by decide) rfl ?_
      refine j_iconst hK (0 : Int32) dX11_fitting_14 ic_0 ?_
      refine j_istore hK (L' := [(4, .int (0 : Int32)), (3, .int (1 : Int32)), (0, .ref 122), (1, .int v.1), (2, .int v.2)]) dX11_fitting_15 (by decide) rfl ?_
      refine j_sub [2, 3, 4, 1, 0] rfl ?_
      refine t_X11_fitting_17 hK hA  (fun v7 S8 hf => ?_) _ _ _ hf
      refine j_iload_n hK dX11_fitting_64 1 rfl rfl ?_
      refine j_iload_n hK dX11_fitting_65 3 rfl rfl ?_
      refine j_if_eq hK 75 dX11_fitting_66 (by decide) (fun hc => ?_) (fun hc => ?_)
      · replace hf := if_1 hc hf
        refine j_iconst hK (0 : Int32) dX11_fitting_75 ic_0 ?_
        refine j_sub [0, 2] rfl ?_
        exact t_X11_fitting_76 hK hA hk he hf
      · replace hf := if_2 hc hf
        refine j_iconst hK (1 : Int32) dX11_fitting_69 ic_1 ?_
        refine j_iload_n hK dX11_fitting_70 2 rfl rfl ?_
        refine j_ishl hK dX11_fitting_71 ?_
        refine j_goto hK 76 dX11_fitting_72 (by decide) ?_
        refine j_sub [0, 2] rfl ?_
        exact t_X11_fitting_76 hK hA hk he hf)
def f_X11_fitting (S : St) : Option (Int32 × St) := lp (f_X11_fitting_4b  (fun v9 S10 => some (v9.1, S10))) FU ((0 : Int32), (0 : Int32)) S
theorem c_X11_fitting {S : St} {r : Int32} {S' : St} (hf : f_X11_fitting S = some (r, S')) : zM yX11_fitting cX11_fitting 5 3 (some .int) [.ref 122] S (some (.int r)) S' := by
  refine zM_of (zpl (by decide)) (Nat.le_of_ble_eq_true rfl) rfl (fun K hK hA => ?_)
  unfold f_X11_fitting at hf
  refine j_iconst hK (0 : Int32) dX11_fitting_0 ic_0 ?_
  refine j_istore_n hK (L' := [(1, .int (0 : Int32)), (0, .ref 122)]) dX11_fitting_1 rfl (by decide) rfl ?_
  refine j_iconst hK (0 : Int32) dX11_fitting_2 ic_0 ?_
  refine j_istore_n hK (L' := [(2, .int (0 : Int32)), (1, .int (0 : Int32)), (0, .ref 122)]) dX11_fitting_3 rfl (by decide) rfl ?_
  refine j_sub [2, 1, 0] rfl ?_
  refine t_X11_fitting_4 hK hA  (fun v9 S10 hf => ?_) _ _ _ hf
  refine j_iload_n hK dX11_fitting_84 0 rfl rfl ?_
  exact j_iret hK dX11_fitting_85 rfl (rt_I hA hf)
def f_X11_fits (S : St) : Option (Int32 × St) := lt (sI S 122 0 (0 : Int32)) (fun S1 => bd (f_X11_fitting S1) (fun r2 S3 => lt (sI S3 122 1 (0 : Int32)) (fun S5 => bd (f_J6_bitCount_0f7a4 r2 S5) (fun r6 S7 => bd (f_X11_enters r6.toInt64 S7) (fun r9 S10 => some (r2, S10))))))
theorem c_X11_fits {S : St} {r : Int32} {S' : St} (hf : f_X11_fits S = some (r, S')) : zM yX11_fits cX11_fits 2 4 (some .int) [.ref 122] S (some (.int r)) S' := by
  refine zM_of (zpl (by decide)) (Nat.le_of_ble_eq_true rfl) rfl (fun K hK hA => ?_)
  unfold f_X11_fits at hf
  refine j_aload_n hK dX11_fits_0 0 rfl rfl ?_
  refine j_iconst hK (0 : Int32) dX11_fits_1 ic_0 ?_
  refine j_putI hK fl_X11_3 dX11_fits_2 zo_122 zf_11_0 ?_
  refine lt_S hf (fun S1 hf => ?_)
  refine j_aload_n hK dX11_fits_5 0 rfl rfl ?_
  obtain ⟨r2, S3, h4, hf⟩ := bd_J hf
  refine k_callVi hK (c_X11_fitting h4) dX11_fits_6 zclX11 zo_122 ml_X11_415 mi_X11_fitting mx_X11_fitting in_X11 mc_X11_fitting hy_X11_fitting ⟨by decide, by decide⟩ rfl (Nat.le_of_ble_eq_true rfl) ?_
  refine j_istore_n hK (L' := [(1, .int r2), (0, .ref 122)]) dX11_fits_9 rfl (by decide) rfl ?_
  refine j_aload_n hK dX11_fits_10 1 rfl rfl ?_
  refine j_iconst hK (0 : Int32) dX11_fits_11 ic_0 ?_
  refine j_pc (pc' := 12) rfl ?_
  refine j_putI hK fl_X11_15 dX11_fits_12 zo_122 zf_11_1 ?_
  refine lt_S hf (fun S5 hf => ?_)
  refine j_aload_n hK dX11_fits_15 1 rfl rfl ?_
  refine j_iload_n hK dX11_fits_16 0 rfl rfl ?_
  obtain ⟨r6, S7, h8, hf⟩ := bd_J hf
  refine k_callSi hK (c_J6_bitCount_0f7a4 h8) dX11_fits_17 ml_X11_355 ms_J6_bitCount_0f7a4 in_J6 mc_J6_bitCount_0f7a4 hy_J6_bitCount_0f7a4 ⟨by decide, by decide⟩ rfl (Nat.le_of_ble_eq_true rfl) ?_
  refine j_i2l hK dX11_fits_20 ?_
  obtain ⟨r9, S10, h11, hf⟩ := bd_J hf
  refine k_callVv hK (c_X11_enters h11) dX11_fits_21 zclX11 zo_122 ml_X11_340 mi_X11_enters mx_X11_enters in_X11 mc_X11_enters hy_X11_enters ⟨by decide, by decide⟩ rfl (Nat.le_of_ble_eq_true rfl) ?_
  refine j_iload_n hK dX11_fits_24 0 rfl rfl ?_
  exact j_iret hK dX11_fits_25 rfl (rt_I hA hf)
def f_X11_next_113 (x1 : Int32) (x3 : Int32) (x4 : Int32) (x6 : Int32) (s0 : Int32) (k e : Int32 × Int32 × Int32 → St → Option (Int32 × St)) (S : St) : Option (Int32 × St) := lt (mnI x3 x6) (fun y1 => k (s0, y1, (x4 + (1 : Int32))) S)
theorem t_X11_next_113 {K : CT} (hK : KO K cX11_next RX11 7 4 (some .int)) {r : Int32} {S' : St} (hA : zans K (some (.int r), S')) {x1 : Int32} {x3 : Int32} {x4 : Int32} {x6 : Int32} {s0 : Int32} {k e : Int32 × Int32 × Int32 → St → Option (Int32 × St)} (hk : ∀ (v : Int32 × Int32 × Int32) (S : St), k v S = some (r, S') → J K 26 [(0, .ref 122), (1, .int x1), (2, .int v.1), (3, .int v.2.1), (4, .int v.2.2)] [] S) (he : ∀ (v : Int32 × Int32 × Int32) (S : St), e v S = some (r, S') → J K 127 [(0, .ref 122), (2, .int v.1), (3, .int v.2.1)] [] S) {S : St} (hf : f_X11_next_113 x1 x3 x4 x6 s0 k e S = some (r, S')) : J K 113 [(0, .ref 122), (1, .int x1), (3, .int x3), (4, .int x4), (6, .int x6)] [.int s0] S := by
  unfold f_X11_next_113 at hf
  refine j_istore_n hK (L' := [(2, .int s0), (0, .ref 122), (1, .int x1), (3, .int x3), (4, .int x4), (6, .int x6)]) dX11_next_113 rfl (by decide) rfl ?_
  refine j_iload_n hK dX11_next_114 3 rfl rfl ?_
  refine j_iload hK dX11_next_115 5 rfl ?_
  refine j_min hK ml_X11_146 dX11_next_117 (by decide) (Nat.le_of_ble_eq_true rfl) ?_
  refine lt_I hf (fun y1 hf => ?_)
  refine j_istore_n hK (L' := [(3, .int y1), (2, .int s0), (0, .ref 122), (1, .int x1), (4, .int x4), (6, .int x6)]) dX11_next_120 rfl (by decide) rfl ?_
  refine j_iinc hK (L' := [(4, .int (x4 + (1 : Int32))), (3, .int y1), (2, .int s0), (0, .ref 122), (1, .int x1), (6, .int x6)]) dX11_next_121 4 rfl (congrArg (fun y => x4 + y) ic_1) (by decide) rfl ?_
  refine j_goto hK 26 dX11_next_124 (by decide) ?_
  refine j_sub [3, 4, 2, 1, 0] rfl ?_
  exact hk _ _ hf
def f_X11_next_75 (x1 : Int32) (x2 : Int32) (x3 : Int32) (x4 : Int32) (x6 : Int32) (s0 : Int32) (s1 : Int32) (k e : Int32 × Int32 → St → Option (Int32 × St)) (S : St) : Option (Int32 × St) := bd (f_X11_flag s1 S) (fun r2 S3 => lt (s0 + r2) (fun y5 => k (y5, (x6 + (1 : Int32))) S3))
theorem t_X11_next_75 {K : CT} (hK : KO K cX11_next RX11 7 4 (some .int)) {r : Int32} {S' : St} (hA : zans K (some (.int r), S')) {x1 : Int32} {x2 : Int32} {x3 : Int32} {x4 : Int32} {x6 : Int32} {s0 : Int32} {s1 : Int32} {k e : Int32 × Int32 → St → Option (Int32 × St)} (hk : ∀ (v : Int32 × Int32) (S : St), k v S = some (r, S') → J K 39 [(0, .ref 122), (1, .int x1), (2, .int x2), (3, .int x3), (4, .int x4), (5, .int v.1), (6, .int v.2)] [] S) (he : ∀ (v : Int32 × Int32) (S : St), e v S = some (r, S') → J K 87 [(0, .ref 122), (1, .int x1), (2, .int x2), (3, .int x3), (4, .int x4), (5, .int v.1)] [] S) {S : St} (hf : f_X11_next_75 x1 x2 x3 x4 x6 s0 s1 k e S = some (r, S')) : J K 75 [(0, .ref 122), (1, .int x1), (2, .int x2), (3, .int x3), (4, .int x4), (6, .int x6)] [.int s1, .int s0] S := by
  unfold f_X11_next_75 at hf
  obtain ⟨r2, S3, h4, hf⟩ := bd_J hf
  refine k_callSi hK (c_X11_flag h4) dX11_next_75 ml_X11_155 ms_X11_flag in_X11 mc_X11_flag hy_X11_flag ⟨by decide, by decide⟩ rfl (Nat.le_of_ble_eq_true rfl) ?_
  refine j_iadd hK dX11_next_78 ?_
  refine lt_I hf (fun y5 hf => ?_)
  refine j_istore hK (L' := [(5, .int y5), (0, .ref 122), (1, .int x1), (2, .int x2), (3, .int x3), (4, .int x4), (6, .int x6)]) dX11_next_79 (by decide) rfl ?_
  refine j_iinc hK (L' := [(6, .int (x6 + (1 : Int32))), (5, .int y5), (0, .ref 122), (1, .int x1), (2, .int x2), (3, .int x3), (4, .int x4)]) dX11_next_81 6 rfl (congrArg (fun y => x6 + y) ic_1) (by decide) rfl ?_
  refine j_goto hK 39 dX11_next_84 (by decide) ?_
  refine j_sub [2, 3, 4, 5, 6, 1, 0] rfl ?_
  exact hk _ _ hf
def f_X11_next_74 (x1 : Int32) (x2 : Int32) (x3 : Int32) (x4 : Int32) (x6 : Int32) (s0 : Int32) (k e : Int32 × Int32 → St → Option (Int32 × St)) (S : St) : Option (Int32 × St) := f_X11_next_75 x1 x2 x3 x4 x6 s0 (0 : Int32) k e S
theorem t_X11_next_74 {K : CT} (hK : KO K cX11_next RX11 7 4 (some .int)) {r : Int32} {S' : St} (hA : zans K (some (.int r), S')) {x1 : Int32} {x2 : Int32} {x3 : Int32} {x4 : Int32} {x6 : Int32} {s0 : Int32} {k e : Int32 × Int32 → St → Option (Int32 × St)} (hk : ∀ (v : Int32 × Int32) (S : St), k v S = some (r, S') → J K 39 [(0, .ref 122), (1, .int x1), (2, .int x2), (3, .int x3), (4, .int x4), (5, .int v.1), (6, .int v.2)] [] S) (he : ∀ (v : Int32 × Int32) (S : St), e v S = some (r, S') → J K 87 [(0, .ref 122), (1, .int x1), (2, .int x2), (3, .int x3), (4, .int x4), (5, .int v.1)] [] S) {S : St} (hf : f_X11_next_74 x1 x2 x3 x4 x6 s0 k e S = some (r, S')) : J K 74 [(0, .ref 122), (1, .int x1), (2, .int x2), (3, .int x3), (4, .int x4), (6, .int x6)] [.int s0] S := by
  unfold f_X11_next_74 at hf
  refine j_iconst hK (0 : Int32) dX11_next_74 ic_0 ?_
  exact t_X11_next_75 hK hA hk he hf
def f_X11_next_39b (x1 : Int32) (x2 : Int32) (x3 : Int32) (x4 : Int32) (e : Int32 × Int32 → St → Option (Int32 × St)) (k : Int32 × Int32 → St → Option (Int32 × St)) (v : Int32 × Int32) (S : St) : Option (Int32 × St) := (if (gI S 122 3) ≤ v.2 then e (v.1, v.2) S else bd (f_X11_has x1 v.2 S) (fun r6 S7 => (if r6 = 0 then f_X11_next_74 x1 x2 x3 x4 v.2 v.1 k e S7 else bd (f_X11_isEnd v.2 x4 S7) (fun r9 S10 => (if r9 = 0 then f_X11_next_74 x1 x2 x3 x4 v.2 v.1 k e S10 else f_X11_next_75 x1 x2 x3 x4 v.2 v.1 (1 : Int32) k e S10)))))
theorem t_X11_next_39 {K : CT} (hK : KO K cX11_next RX11 7 4 (some .int)) {r : Int32} {S' : St} (hA : zans K (some (.int r), S')) {x1 : Int32} {x2 : Int32} {x3 : Int32} {x4 : Int32} {e : Int32 × Int32 → St → Option (Int32 × St)} (he : ∀ (v : Int32 × Int32) (S : St), e v S = some (r, S') → J K 87 [(0, .ref 122), (1, .int x1), (2, .int x2), (3, .int x3), (4, .int x4), (5, .int v.1)] [] S) : ∀ (n : Nat) (v : Int32 × Int32) (S : St), lp (f_X11_next_39b x1 x2 x3 x4 e) n v S = some (r, S') → J K 39 [(0, .ref 122), (1, .int x1), (2, .int x2), (3, .int x3), (4, .int x4), (5, .int v.1), (6, .int v.2)] [] S :=
  lp_J (P := fun (v : Int32 × Int32) (S : St) => J K 39 [(0, .ref 122), (1, .int x1), (2, .int x2), (3, .int x3), (4, .int x4), (5, .int v.1), (6, .int v.2)] [] S) (fun k hk v S hf => by
    unfold f_X11_next_39b at hf
    refine j_iload hK dX11_next_39 6 rfl ?_
    refine j_aload_n hK dX11_next_41 0 rfl rfl ?_
    refine j_getI hK fl_X11_128 dX11_next_42 zo_122 zf_11_3 ?_
    refine j_icmp_ge hK 87 dX11_next_45 (by decide) (fun hc => ?_) (fun hc => ?_)
    · replace hf := if_1 hc hf
      refine j_sub [0, 1, 2, 3, 4, 5] rfl ?_
      exact he _ _ hf
    · replace hf := if_2 hc hf
      refine j_iload hK dX11_next_48 5 rfl ?_
      refine j_iload_n hK dX11_next_50 1 rfl rfl ?_
      refine j_iload hK dX11_next_51 6 rfl ?_
      obtain ⟨r6, S7, h8, hf⟩ := bd_J hf
      refine k_callSi hK (c_X11_has h8) dX11_next_53 ml_X11_262 ms_X11_has in_X11 mc_X11_has hy_X11_has ⟨by decide, by decide⟩ rfl (Nat.le_of_ble_eq_true rfl) ?_
      refine j_if_eq hK 74 dX11_next_56 (by decide) (fun hc => ?_) (fun hc => ?_)
      · replace hf := if_1 hc hf
        refine j_sub [0, 1, 2, 3, 4, 6] rfl ?_
        exact t_X11_next_74 hK hA hk he hf
      · replace hf := if_2 hc hf
        refine j_aload_n hK dX11_next_59 0 rfl rfl ?_
        refine j_iload hK dX11_next_60 6 rfl ?_
        refine j_iload hK dX11_next_62 4 rfl ?_
        obtain ⟨r9, S10, h11, hf⟩ := bd_J hf
        refine k_callVi hK (c_X11_isEnd h11) dX11_next_64 zclX11 zo_122 ml_X11_266 mi_X11_isEnd mx_X11_isEnd in_X11 mc_X11_isEnd hy_X11_isEnd ⟨by decide, by decide⟩ rfl (Nat.le_of_ble_eq_true rfl) ?_
        refine j_if_eq hK 74 dX11_next_67 (by decide) (fun hc => ?_) (fun hc => ?_)
        · replace hf := if_1 hc hf
          refine j_sub [0, 1, 2, 3, 4, 6] rfl ?_
          exact t_X11_next_74 hK hA hk he hf
        · replace hf := if_2 hc hf
          refine j_iconst hK (1 : Int32) dX11_next_70 ic_1 ?_
          refine j_goto hK 75 dX11_next_71 (by decide) ?_
          refine j_sub [0, 1, 2, 3, 4, 6] rfl ?_
          exact t_X11_next_75 hK hA hk he hf)
def f_X11_next_26b (x1 : Int32) (e : Int32 × Int32 × Int32 → St → Option (Int32 × St)) (k : Int32 × Int32 × Int32 → St → Option (Int32 × St)) (v : Int32 × Int32 × Int32) (S : St) : Option (Int32 × St) := (if (8 : Int32) ≤ v.2.2 then e (v.1, v.2.1, v.2.2) S else lp (f_X11_next_39b x1 v.1 v.2.1 v.2.2 (fun v12 S13 => bd (f_J6_bitCount_0f7a4 x1 S13) (fun r14 S15 => lt (mxI v12.1 (r14 - v12.1)) (fun y17 => (if v.2.1 ≤ y17 then f_X11_next_113 x1 v.2.1 v.2.2 y17 v.1 k e S15 else f_X11_next_113 x1 v.2.1 v.2.2 y17 v.2.2 k e S15))))) FU ((0 : Int32), (0 : Int32)) S)
theorem t_X11_next_26 {K : CT} (hK : KO K cX11_next RX11 7 4 (some .int)) {r : Int32} {S' : St} (hA : zans K (some (.int r), S')) {x1 : Int32} {e : Int32 × Int32 × Int32 → St → Option (Int32 × St)} (he : ∀ (v : Int32 × Int32 × Int32) (S : St), e v S = some (r, S') → J K 127 [(0, .ref 122), (2, .int v.1), (3, .int v.2.1)] [] S) : ∀ (n : Nat) (v : Int32 × Int32 × Int32) (S : St), lp (f_X11_next_26b x1 e) n v S = some (r, S') → J K 26 [(0, .ref 122), (1, .int x1), (2, .int v.1), (3, .int v.2.1), (4, .int v.2.2)] [] S :=
  lp_J (P := fun (v : Int32 × Int32 × Int32) (S : St) => J K 26 [(0, .ref 122), (1, .int x1), (2, .int v.1), (3, .int v.2.1), (4, .int v.2.2)] [] S) (fun k hk v S hf => by
    unfold f_X11_next_26b at hf
    refine j_iload hK dX11_next_26 4 rfl ?_
    refine j_bipush hK (8 : Int32) dX11_next_28 bi_8 ?_
    refine j_icmp_ge hK 127 dX11_next_30 (by decide) (fun hc => ?_) (fun hc => ?_)
    · replace hf := if_1 hc hf
      refine j_sub [0, 2, 3] rfl ?_
      exact he _ _ hf
    · replace hf := if_2 hc hf
      refine j_iconst hK (0 : Int32) dX11_next_33 ic_0 ?_
      refine j_istore hK (L' := [(5, .int (0 : Int32)), (0, .ref 122), (1, .int x1), (2, .int v.1), (3, .int v.2.1), (4, .int v.2.2)]) dX11_next_34 (by decide) rfl ?_
      refine j_iconst hK (0 : Int32) dX11_next_36 ic_0 ?_
      refine j_istore hK (L' := [(6, .int (0 : Int32)), (5, .int (0 : Int32)), (0, .ref 122), (1, .int x1), (2, .int v.1), (3, .int v.2.1), (4, .int v.2.2)]) dX11_next_37 (by decide) rfl ?_
      refine j_sub [2, 3, 4, 5, 6, 1, 0] rfl ?_
      refine t_X11_next_39 hK hA  (fun v12 S13 hf => ?_) _ _ _ hf
      refine j_iload hK dX11_next_87 5 rfl ?_
      refine j_iload_n hK dX11_next_89 1 rfl rfl ?_
      obtain ⟨r14, S15, h16, hf⟩ := bd_J hf
      refine k_callSi hK (c_J6_bitCount_0f7a4 h16) dX11_next_90 ml_X11_355 ms_J6_bitCount_0f7a4 in_J6 mc_J6_bitCount_0f7a4 hy_J6_bitCount_0f7a4 ⟨by decide, by decide⟩ rfl (Nat.le_of_ble_eq_true rfl) ?_
      refine j_iload hK dX11_next_93 5 rfl ?_
      refine j_isub hK dX11_next_95 ?_
      refine j_max hK ml_X11_297 dX11_next_96 (by decide) (Nat.le_of_ble_eq_true rfl) ?_
      refine lt_I hf (fun y17 hf => ?_)
      refine j_istore hK (L' := [(6, .int y17), (0, .ref 122), (1, .int x1), (2, .int v.1), (3, .int v.2.1), (4, .int v.2.2), (5, .int v12.1)]) dX11_next_99 (by decide) rfl ?_
      refine j_pc (pc' := 101) rfl ?_
      refine j_iload hK dX11_next_101 0 rfl ?_
      refine j_iload_n hK dX11_next_103 4 rfl rfl ?_
      refine j_icmp_ge hK 112 dX11_next_104 (by decide) (fun hc => ?_) (fun hc => ?_)
      · replace hf := if_1 hc hf
        refine j_iload_n hK dX11_next_112 3 rfl rfl ?_
        refine j_sub [1, 2, 4, 5, 0] rfl ?_
        exact t_X11_next_113 hK hA hk he hf
      · replace hf := if_2 hc hf
        refine j_iload hK dX11_next_107 5 rfl ?_
        refine j_goto hK 113 dX11_next_109 (by decide) ?_
        refine j_sub [1, 2, 4, 5, 0] rfl ?_
        exact t_X11_next_113 hK hA hk he hf)
def f_X11_next (S : St) : Option (Int32 × St) := lt (sI S 122 0 (0 : Int32)) (fun S18 => bd (f_X11_fitting S18) (fun r19 S20 => (if r19 = 0 then some ((-2 : Int32), S20) else lp (f_X11_next_26b r19 (fun v22 S23 => lt (sI S23 122 1 (0 : Int32)) (fun S24 => bd (f_X11_enters v22.2.1.toInt64 S24) (fun r25 S26 => some (v22.1, S26))))) FU ((-1 : Int32), (1000000 : Int32), (0 : Int32)) S20)))
theorem c_X11_next {S : St} {r : Int32} {S' : St} (hf : f_X11_next S = some (r, S')) : zM yX11_next cX11_next 7 4 (some .int) [.ref 122] S (some (.int r)) S' := by
  refine zM_of (zpl (by decide)) (Nat.le_of_ble_eq_true rfl) rfl (fun K hK hA => ?_)
  unfold f_X11_next at hf
  refine j_aload_n hK dX11_next_0 0 rfl rfl ?_
  refine j_iconst hK (0 : Int32) dX11_next_1 ic_0 ?_
  refine j_putI hK fl_X11_3 dX11_next_2 zo_122 zf_11_0 ?_
  refine lt_S hf (fun S18 hf => ?_)
  refine j_aload_n hK dX11_next_5 0 rfl rfl ?_
  obtain ⟨r19, S20, h21, hf⟩ := bd_J hf
  refine k_callVi hK (c_X11_fitting h21) dX11_next_6 zclX11 zo_122 ml_X11_415 mi_X11_fitting mx_X11_fitting in_X11 mc_X11_fitting hy_X11_fitting ⟨by decide, by decide⟩ rfl (Nat.le_of_ble_eq_true rfl) ?_
  refine j_istore_n hK (L' := [(1, .int r19), (0, .ref 122)]) dX11_next_9 rfl (by decide) rfl ?_
  refine j_iload_n hK dX11_next_10 0 rfl rfl ?_
  refine j_if_ne hK 17 dX11_next_11 (by decide) (fun hc => ?_) (fun hc => ?_)
  · replace hf := if_2 hc hf
    refine j_iconst hK (-1 : Int32) dX11_next_17 ic_m1 ?_
    refine j_istore_n hK (L' := [(2, .int (-1 : Int32)), (1, .int r19), (0, .ref 122)]) dX11_next_18 rfl (by decide) rfl ?_
    refine j_ldcw hK (v := (1000000 : Int32)) cn_X11_290 dX11_next_19 ?_
    refine j_istore_n hK (L' := [(3, .int (1000000 : Int32)), (2, .int (-1 : Int32)), (1, .int r19), (0, .ref 122)]) dX11_next_22 rfl (by decide) rfl ?_
    refine j_iconst hK (0 : Int32) dX11_next_23 ic_0 ?_
    refine j_istore hK (L' := [(4, .int (0 : Int32)), (3, .int (1000000 : Int32)), (2, .int (-1 : Int32)), (1, .int r19), (0, .ref 122)]) dX11_next_24 (by decide) rfl ?_
    refine j_sub [4, 3, 2, 1, 0] rfl ?_
    refine t_X11_next_26 hK hA  (fun v22 S23 hf => ?_) _ _ _ hf
    refine j_aload_n hK dX11_next_127 0 rfl rfl ?_
    refine j_iconst hK (0 : Int32) dX11_next_128 ic_0 ?_
    refine j_putI hK fl_X11_15 dX11_next_129 zo_122 zf_11_1 ?_
    refine lt_S hf (fun S24 hf => ?_)
    refine j_aload_n hK dX11_next_132 0 rfl rfl ?_
    refine j_iload_n hK dX11_next_133 2 rfl rfl ?_
    refine j_i2l hK dX11_next_134 ?_
    obtain ⟨r25, S26, h27, hf⟩ := bd_J hf
    refine k_callVv hK (c_X11_enters h27) dX11_next_135 zclX11 zo_122 ml_X11_340 mi_X11_enters mx_X11_enters in_X11 mc_X11_enters hy_X11_enters ⟨by decide, by decide⟩ rfl (Nat.le_of_ble_eq_true rfl) ?_
    refine j_pc (pc' := 138) rfl ?_
    refine j_iload_n hK dX11_next_138 1 rfl rfl ?_
    exact j_iret hK dX11_next_139 rfl (rt_I hA hf)
  · replace hf := if_1 hc hf
    refine j_bipush hK (-2 : Int32) dX11_next_14 bi_m2 ?_
    exact j_iret hK dX11_next_16 rfl (rt_I hA hf)
def f_X11_heard (p1 : Int32) (p2 : Int32) (p3 : Int32) (S : St) : Option (Int32 × St) := lt (sI S 122 0 (0 : Int32)) (fun S1 => bd (f_X11_in p1.toInt64 (0 : Int64) (7 : Int64) S1) (fun r2 S3 => (if r2 = 0 then some ((-1 : Int32), S3) else bd (f_X11_in p2.toInt64 (0 : Int64) (9 : Int64) S3) (fun r5 S6 => (if r5 = 0 then some ((-1 : Int32), S6) else bd (f_X11_in p3.toInt64 (0 : Int64) (7 : Int64) S6) (fun r8 S9 => (if r8 = 0 then some ((-1 : Int32), S9) else (if (gI S9 122 42) = (10 : Int32) then some ((-1 : Int32), S9) else if inb (gI S9 122 42) 10 then lt (sI S9 148 (gI S9 122 42).toNatClampNeg p1) (fun S12 => if inb (gI S12 122 42) 10 then lt (sI S12 149 (gI S12 122 42).toNatClampNeg p2) (fun S14 => if inb (gI S14 122 42) 10 then lt (sI S14 150 (gI S14 122 42).toNatClampNeg p3) (fun S16 => lt (sI S16 122 42 ((gI S16 122 42) + (1 : Int32))) (fun S17 => some ((gI S17 122 42), S17))) else none) else none) else none))))))))
theorem c_X11_heard {p1 : Int32} {p2 : Int32} {p3 : Int32} {S : St} {r : Int32} {S' : St} (hf : f_X11_heard p1 p2 p3 S = some (r, S')) : zM yX11_heard cX11_heard 4 2 (some .int) [.ref 122, .int p1, .int p2, .int p3] S (some (.int r)) S' := by
  refine zM_of (zpl (by decide)) (Nat.le_of_ble_eq_true rfl) rfl (fun K hK hA => ?_)
  unfold f_X11_heard at hf
  refine j_aload_n hK dX11_heard_0 0 rfl rfl ?_
  refine j_iconst hK (0 : Int32) dX11_heard_1 ic_0 ?_
  refine j_putI hK fl_X11_3 dX11_heard_2 zo_122 zf_11_0 ?_
  refine lt_S hf (fun S1 hf => ?_)
  refine j_iload_n hK dX11_heard_5 1 rfl rfl ?_
  refine j_i2l hK dX11_heard_6 ?_
  refine j_lconst hK (0 : Int64) dX11_heard_7 lc_0 ?_
  refine j_ldc2 hK (v := (7 : Int64)) cl_X11_135 dX11_heard_8 ?_
  obtain ⟨r2, S3, h4, hf⟩ := bd_J hf
  refine k_callSi hK (c_X11_in h4) dX11_heard_11 ml_X11_131 ms_X11_in in_X11 mc_X11_in hy_X11_in ⟨by decide, by decide⟩ rfl (Nat.le_of_ble_eq_true rfl) ?_
  refine j_pc (pc' := 14) rfl ?_
  refine j_if_eq hK 50 dX11_heard_14 (by decide) (fun hc => ?_) (fun hc => ?_)
  · replace hf := if_1 hc hf
    refine j_iconst hK (-1 : Int32) dX11_heard_50 ic_m1 ?_
    exact j_iret hK dX11_heard_51 rfl (rt_I hA hf)
  · replace hf := if_2 hc hf
    refine j_iload_n hK dX11_heard_17 2 rfl rfl ?_
    refine j_i2l hK dX11_heard_18 ?_
    refine j_lconst hK (0 : Int64) dX11_heard_19 lc_0 ?_
    refine j_ldc2 hK (v := (9 : Int64)) cl_X11_360 dX11_heard_20 ?_
    obtain ⟨r5, S6, h7, hf⟩ := bd_J hf
    refine k_callSi hK (c_X11_in h7) dX11_heard_23 ml_X11_131 ms_X11_in in_X11 mc_X11_in hy_X11_in ⟨by decide, by decide⟩ rfl (Nat.le_of_ble_eq_true rfl) ?_
    refine j_if_eq hK 50 dX11_heard_26 (by decide) (fun hc => ?_) (fun hc => ?_)
    · replace hf := if_1 hc hf
      refine j_iconst hK (-1 : Int32) dX11_heard_50 ic_m1 ?_
      exact j_iret hK dX11_heard_51 rfl (rt_I hA hf)
    · replace hf := if_2 hc hf
      refine j_iload_n hK dX11_heard_29 3 rfl rfl ?_
      refine j_i2l hK dX11_heard_30 ?_
      refine j_lconst hK (0 : Int64) dX11_heard_31 lc_0 ?_
      refine j_ldc2 hK (v := (7 : Int64)) cl_X11_135 dX11_heard_32 ?_
      obtain ⟨r8, S9, h10, hf⟩ := bd_J hf
      refine k_callSi hK (c_X11_in h10) dX11_heard_35 ml_X11_131 ms_X11_in in_X11 mc_X11_in hy_X11_in ⟨by decide, by decide⟩ rfl (Nat.le_of_ble_eq_true rfl) ?_
      refine j_if_eq hK 50 dX11_heard_38 (by decide) (fun hc => ?_) (fun hc => ?_)
      · replace hf := if_1 hc hf
        refine j_iconst hK (-1 : Int32) dX11_heard_50 ic_m1 ?_
        exact j_iret hK dX11_heard_51 rfl (rt_I hA hf)
      · replace hf := if_2 hc hf
        refine j_aload_n hK dX11_heard_41 0 rfl rfl ?_
        refine j_getI hK fl_X11_418 dX11_heard_42 zo_122 zf_11_42 ?_
        refine j_bipush hK (10 : Int32) dX11_heard_45 bi_10 ?_
        refine j_icmp_ne hK 52 dX11_heard_47 (by decide) (fun hc => ?_) (fun hc => ?_)
        · replace hf := if_2 hc hf
          refine j_aload_n hK dX11_heard_52 0 rfl rfl ?_
          refine j_getR hK fl_X11_98 dX11_heard_53 zo_122 zf_11_43 zr_122_43 ?_
          refine j_aload_n hK dX11_heard_56 0 rfl rfl ?_
          refine j_getI hK fl_X11_418 dX11_heard_57 zo_122 zf_11_42 ?_
          refine j_iload_n hK dX11_heard_60 1 rfl rfl ?_
          obtain ⟨hi11, hf⟩ := gd hf
          refine k_iast hK dX11_heard_61 zb_148 hi11 rfl ?_
          refine lt_S hf (fun S12 hf => ?_)
          refine j_aload_n hK dX11_heard_62 0 rfl rfl ?_
          refine j_pc (pc' := 63) rfl ?_
          refine j_getR hK fl_X11_101 dX11_heard_63 zo_122 zf_11_44 zr_122_44 ?_
          refine j_aload_n hK dX11_heard_66 0 rfl rfl ?_
          refine j_getI hK fl_X11_418 dX11_heard_67 zo_122 zf_11_42 ?_
          refine j_iload_n hK dX11_heard_70 2 rfl rfl ?_
          obtain ⟨hi13, hf⟩ := gd hf
          refine k_iast hK dX11_heard_71 zb_149 hi13 rfl ?_
          refine lt_S hf (fun S14 hf => ?_)
          refine j_aload_n hK dX11_heard_72 0 rfl rfl ?_
          refine j_getR hK fl_X11_104 dX11_heard_73 zo_122 zf_11_45 zr_122_45 ?_
          refine j_aload_n hK dX11_heard_76 0 rfl rfl ?_
          refine j_pc (pc' := 77) rfl ?_
          refine j_getI hK fl_X11_418 dX11_heard_77 zo_122 zf_11_42 ?_
          refine j_iload_n hK dX11_heard_80 3 rfl rfl ?_
          obtain ⟨hi15, hf⟩ := gd hf
          refine k_iast hK dX11_heard_81 zb_150 hi15 rfl ?_
          refine lt_S hf (fun S16 hf => ?_)
          refine j_aload_n hK dX11_heard_82 0 rfl rfl ?_
          refine j_dup hK dX11_heard_83 rfl ?_
          refine j_getI hK fl_X11_418 dX11_heard_84 zo_122 zf_11_42 ?_
          refine j_iconst hK (1 : Int32) dX11_heard_87 ic_1 ?_
          refine j_iadd hK dX11_heard_88 ?_
          refine j_pc (pc' := 89) rfl ?_
          refine j_putI hK fl_X11_418 dX11_heard_89 zo_122 zf_11_42 ?_
          refine lt_S hf (fun S17 hf => ?_)
          refine j_aload_n hK dX11_heard_92 0 rfl rfl ?_
          refine j_getI hK fl_X11_418 dX11_heard_93 zo_122 zf_11_42 ?_
          exact j_iret hK dX11_heard_96 rfl (rt_I hA hf)
        · replace hf := if_1 hc hf
          refine j_iconst hK (-1 : Int32) dX11_heard_50 ic_m1 ?_
          exact j_iret hK dX11_heard_51 rfl (rt_I hA hf)
def f_X11_denied (S : St) : Option (Int32 × St) := lt (sI S 122 0 (0 : Int32)) (fun S1 => lt (gI S1 122 42) (fun y2 => lt (sI S1 122 42 (0 : Int32)) (fun S3 => some (y2, S3))))
theorem c_X11_denied {S : St} {r : Int32} {S' : St} (hf : f_X11_denied S = some (r, S')) : zM yX11_denied cX11_denied 2 1 (some .int) [.ref 122] S (some (.int r)) S' := by
  refine zM_of (zpl (by decide)) (Nat.le_of_ble_eq_true rfl) rfl (fun K hK hA => ?_)
  unfold f_X11_denied at hf
  refine j_aload_n hK dX11_denied_0 0 rfl rfl ?_
  refine j_iconst hK (0 : Int32) dX11_denied_1 ic_0 ?_
  refine j_putI hK fl_X11_3 dX11_denied_2 zo_122 zf_11_0 ?_
  refine lt_S hf (fun S1 hf => ?_)
  refine j_aload_n hK dX11_denied_5 0 rfl rfl ?_
  refine j_getI hK fl_X11_418 dX11_denied_6 zo_122 zf_11_42 ?_
  refine lt_I hf (fun y2 hf => ?_)
  refine j_istore_n hK (L' := [(1, .int y2), (0, .ref 122)]) dX11_denied_9 rfl (by decide) rfl ?_
  refine j_aload_n hK dX11_denied_10 1 rfl rfl ?_
  refine j_iconst hK (0 : Int32) dX11_denied_11 ic_0 ?_
  refine j_pc (pc' := 12) rfl ?_
  refine j_putI hK fl_X11_418 dX11_denied_12 zo_122 zf_11_42 ?_
  refine lt_S hf (fun S3 hf => ?_)
  refine j_iload_n hK dX11_denied_15 0 rfl rfl ?_
  exact j_iret hK dX11_denied_16 rfl (rt_I hA hf)
def f_X11_lawOf (p0 : Int32) (p1 : Int32) (p2 : Int32) (S : St) : Option (Int32 × St) := lt (((p0 / (8 : Int32)) * p1) + ((p0 - p0 / (8 : Int32) * (8 : Int32)) * p2)) (fun y1 => some ((y1 - y1 / (8 : Int32) * (8 : Int32)), S))
theorem c_X11_lawOf {p0 : Int32} {p1 : Int32} {p2 : Int32} {S : St} {r : Int32} {S' : St} (hf : f_X11_lawOf p0 p1 p2 S = some (r, S')) : zM yX11_lawOf cX11_lawOf 3 1 (some .int) [.int p0, .int p1, .int p2] S (some (.int r)) S' := by
  refine zM_of (zpl (by decide)) (Nat.le_of_ble_eq_true rfl) rfl (fun K hK hA => ?_)
  unfold f_X11_lawOf at hf
  refine j_iload_n hK dX11_lawOf_0 0 rfl rfl ?_
  refine j_bipush hK (8 : Int32) dX11_lawOf_1 bi_8 ?_
  refine j_idiv hK dX11_lawOf_3 (by decide) ?_
  refine j_iload_n hK dX11_lawOf_4 1 rfl rfl ?_
  refine j_imul hK dX11_lawOf_5 ?_
  refine j_iload_n hK dX11_lawOf_6 0 rfl rfl ?_
  refine j_bipush hK (8 : Int32) dX11_lawOf_7 bi_8 ?_
  refine j_irem hK dX11_lawOf_9 (by decide) ?_
  refine j_pc (pc' := 10) rfl ?_
  refine j_iload_n hK dX11_lawOf_10 2 rfl rfl ?_
  refine j_imul hK dX11_lawOf_11 ?_
  refine j_iadd hK dX11_lawOf_12 ?_
  refine lt_I hf (fun y1 hf => ?_)
  refine j_bipush hK (8 : Int32) dX11_lawOf_13 bi_8 ?_
  refine j_irem hK dX11_lawOf_15 (by decide) ?_
  exact j_iret hK dX11_lawOf_16 rfl (rt_I hA hf)
def f_X11_isLaw_46 (x1 : Int32) (x3 : Int32) (s0 : Int32) (k e : Int32 × Int32 → St → Option (Int32 × St)) (S : St) : Option (Int32 × St) := k (s0, (x3 + (1 : Int32))) S
theorem t_X11_isLaw_46 {K : CT} (hK : KO K cX11_isLaw RX11 4 2 (some .boolean)) {r : Int32} {S' : St} (hA : zans K (some (.int r), S')) {x1 : Int32} {x3 : Int32} {s0 : Int32} {k e : Int32 × Int32 → St → Option (Int32 × St)} (hk : ∀ (v : Int32 × Int32) (S : St), k v S = some (r, S') → J K 4 [(0, .ref 122), (1, .int x1), (2, .int v.1), (3, .int v.2)] [] S) (he : ∀ (v : Int32 × Int32) (S : St), e v S = some (r, S') → J K 53 [(2, .int v.1)] [] S) {S : St} (hf : f_X11_isLaw_46 x1 x3 s0 k e S = some (r, S')) : J K 46 [(0, .ref 122), (1, .int x1), (3, .int x3)] [.int s0] S := by
  unfold f_X11_isLaw_46 at hf
  refine j_istore_n hK (L' := [(2, .int s0), (0, .ref 122), (1, .int x1), (3, .int x3)]) dX11_isLaw_46 rfl (by decide) rfl ?_
  refine j_iinc hK (L' := [(3, .int (x3 + (1 : Int32))), (2, .int s0), (0, .ref 122), (1, .int x1)]) dX11_isLaw_47 3 rfl (congrArg (fun y => x3 + y) ic_1) (by decide) rfl ?_
  refine j_goto hK 4 dX11_isLaw_50 (by decide) ?_
  refine j_sub [2, 3, 1, 0] rfl ?_
  exact hk _ _ hf
def f_X11_isLaw_45 (x1 : Int32) (x3 : Int32) (k e : Int32 × Int32 → St → Option (Int32 × St)) (S : St) : Option (Int32 × St) := f_X11_isLaw_46 x1 x3 (0 : Int32) k e S
theorem t_X11_isLaw_45 {K : CT} (hK : KO K cX11_isLaw RX11 4 2 (some .boolean)) {r : Int32} {S' : St} (hA : zans K (some (.int r), S')) {x1 : Int32} {x3 : Int32} {k e : Int32 × Int32 → St → Option (Int32 × St)} (hk : ∀ (v : Int32 × Int32) (S : St), k v S = some (r, S') → J K 4 [(0, .ref 122), (1, .int x1), (2, .int v.1), (3, .int v.2)] [] S) (he : ∀ (v : Int32 × Int32) (S : St), e v S = some (r, S') → J K 53 [(2, .int v.1)] [] S) {S : St} (hf : f_X11_isLaw_45 x1 x3 k e S = some (r, S')) : J K 45 [(0, .ref 122), (1, .int x1), (3, .int x3)] [] S := by
  unfold f_X11_isLaw_45 at hf
  refine j_iconst hK (0 : Int32) dX11_isLaw_45 ic_0 ?_
  exact t_X11_isLaw_46 hK hA hk he hf
def f_X11_isLaw_4b (x1 : Int32) (e : Int32 × Int32 → St → Option (Int32 × St)) (k : Int32 × Int32 → St → Option (Int32 × St)) (v : Int32 × Int32) (S : St) : Option (Int32 × St) := (if (gI S 122 42) ≤ v.2 then e (v.1, v.2) S else (if v.1 = 0 then f_X11_isLaw_45 x1 v.2 k e S else if inb v.2 10 then if inb v.2 10 then bd (f_X11_lawOf x1 (gI S 148 v.2.toNatClampNeg) (gI S 149 v.2.toNatClampNeg) S) (fun r3 S4 => if inb v.2 10 then (if r3 = (gI S4 150 v.2.toNatClampNeg) then f_X11_isLaw_46 x1 v.2 (1 : Int32) k e S4 else f_X11_isLaw_45 x1 v.2 k e S4) else none) else none else none))
theorem t_X11_isLaw_4 {K : CT} (hK : KO K cX11_isLaw RX11 4 2 (some .boolean)) {r : Int32} {S' : St} (hA : zans K (some (.int r), S')) {x1 : Int32} {e : Int32 × Int32 → St → Option (Int32 × St)} (he : ∀ (v : Int32 × Int32) (S : St), e v S = some (r, S') → J K 53 [(2, .int v.1)] [] S) : ∀ (n : Nat) (v : Int32 × Int32) (S : St), lp (f_X11_isLaw_4b x1 e) n v S = some (r, S') → J K 4 [(0, .ref 122), (1, .int x1), (2, .int v.1), (3, .int v.2)] [] S :=
  lp_J (P := fun (v : Int32 × Int32) (S : St) => J K 4 [(0, .ref 122), (1, .int x1), (2, .int v.1), (3, .int v.2)] [] S) (fun k hk v S hf => by
    unfold f_X11_isLaw_4b at hf
    refine j_iload_n hK dX11_isLaw_4 3 rfl rfl ?_
    refine j_aload_n hK dX11_isLaw_5 0 rfl rfl ?_
    refine j_getI hK fl_X11_418 dX11_isLaw_6 zo_122 zf_11_42 ?_
    refine j_icmp_ge hK 53 dX11_isLaw_9 (by decide) (fun hc => ?_) (fun hc => ?_)
    · replace hf := if_1 hc hf
      refine j_sub [2] rfl ?_
      exact he _ _ hf
    · replace hf := if_2 hc hf
      refine j_iload_n hK dX11_isLaw_12 2 rfl rfl ?_
      refine j_if_eq hK 45 dX11_isLaw_13 (by decide) (fun hc => ?_) (fun hc => ?_)
      · replace hf := if_1 hc hf
        refine j_sub [0, 1, 3] rfl ?_
        exact t_X11_isLaw_45 hK hA hk he hf
      · replace hf := if_2 hc hf
        refine j_iload_n hK dX11_isLaw_16 1 rfl rfl ?_
        refine j_aload_n hK dX11_isLaw_17 0 rfl rfl ?_
        refine j_getR hK fl_X11_98 dX11_isLaw_18 zo_122 zf_11_43 zr_122_43 ?_
        refine j_iload_n hK dX11_isLaw_21 3 rfl rfl ?_
        obtain ⟨hi1, hf⟩ := gd hf
        refine k_iald hK dX11_isLaw_22 zb_148 hi1 rfl ?_
        refine j_aload_n hK dX11_isLaw_23 0 rfl rfl ?_
        refine j_getR hK fl_X11_101 dX11_isLaw_24 zo_122 zf_11_44 zr_122_44 ?_
        refine j_pc (pc' := 27) rfl ?_
        refine j_iload_n hK dX11_isLaw_27 3 rfl rfl ?_
        obtain ⟨hi2, hf⟩ := gd hf
        refine k_iald hK dX11_isLaw_28 zb_149 hi2 rfl ?_
        obtain ⟨r3, S4, h5, hf⟩ := bd_J hf
        refine k_callSi hK (c_X11_lawOf h5) dX11_isLaw_29 ml_X11_421 ms_X11_lawOf in_X11 mc_X11_lawOf hy_X11_lawOf ⟨by decide, by decide⟩ rfl (Nat.le_of_ble_eq_true rfl) ?_
        refine j_aload_n hK dX11_isLaw_32 0 rfl rfl ?_
        refine j_getR hK fl_X11_104 dX11_isLaw_33 zo_122 zf_11_45 zr_122_45 ?_
        refine j_iload_n hK dX11_isLaw_36 3 rfl rfl ?_
        obtain ⟨hi6, hf⟩ := gd hf
        refine k_iald hK dX11_isLaw_37 zb_150 hi6 rfl ?_
        refine j_icmp_ne hK 45 dX11_isLaw_38 (by decide) (fun hc => ?_) (fun hc => ?_)
        · replace hf := if_2 hc hf
          refine j_sub [0, 1, 3] rfl ?_
          exact t_X11_isLaw_45 hK hA hk he hf
        · replace hf := if_1 hc hf
          refine j_iconst hK (1 : Int32) dX11_isLaw_41 ic_1 ?_
          refine j_goto hK 46 dX11_isLaw_42 (by decide) ?_
          refine j_sub [0, 1, 3] rfl ?_
          exact t_X11_isLaw_46 hK hA hk he hf)
def f_X11_isLaw (p1 : Int32) (S : St) : Option (Int32 × St) := lp (f_X11_isLaw_4b p1 (fun v7 S8 => if v7.1 = 0 ∨ v7.1 = 1 then some (v7.1, S8) else none)) FU ((1 : Int32), (0 : Int32)) S
theorem c_X11_isLaw {p1 : Int32} {S : St} {r : Int32} {S' : St} (hf : f_X11_isLaw p1 S = some (r, S')) : zM yX11_isLaw cX11_isLaw 4 2 (some .boolean) [.ref 122, .int p1] S (some (.int r)) S' := by
  refine zM_of (zpl (by decide)) (Nat.le_of_ble_eq_true rfl) rfl (fun K hK hA => ?_)
  unfold f_X11_isLaw at hf
  refine j_iconst hK (1 : Int32) dX11_isLaw_0 ic_1 ?_
  refine j_istore_n hK (L' := [(2, .int (1 : Int32)), (0, .ref 122), (1, .int p1)]) dX11_isLaw_1 rfl (by decide) rfl ?_
  refine j_iconst hK (0 : Int32) dX11_isLaw_2 ic_0 ?_
  refine j_istore_n hK (L' := [(3, .int (0 : Int32)), (2, .int (1 : Int32)), (0, .ref 122), (1, .int p1)]) dX11_isLaw_3 rfl (by decide) rfl ?_
  refine j_sub [2, 3, 1, 0] rfl ?_
  refine t_X11_isLaw_4 hK hA  (fun v7 S8 hf => ?_) _ _ _ hf
  refine j_iload_n hK dX11_isLaw_53 0 rfl rfl ?_
  obtain ⟨hz, hf⟩ := gd hf
  exact j_zret hK dX11_isLaw_54 rfl (nz hz) (rt_I hA hf)
def f_X11_laws_52 (x1 : Int32) (x2 : Int32) (x3 : Int32) (k e : Int32 × Int32 → St → Option (Int32 × St)) (S : St) : Option (Int32 × St) := bd (f_X11_flag x3 S) (fun r1 S2 => lt (x1 + r1) (fun y4 => k (y4, (x2 + (1 : Int32))) S2))
theorem t_X11_laws_52 {K : CT} (hK : KO K cX11_laws RX11 4 3 (some .int)) {r : Int32} {S' : St} (hA : zans K (some (.int r), S')) {x1 : Int32} {x2 : Int32} {x3 : Int32} {k e : Int32 × Int32 → St → Option (Int32 × St)} (hk : ∀ (v : Int32 × Int32) (S : St), k v S = some (r, S') → J K 14 [(0, .ref 122), (1, .int v.1), (2, .int v.2)] [] S) (he : ∀ (v : Int32 × Int32) (S : St), e v S = some (r, S') → J K 65 [(1, .int v.1)] [] S) {S : St} (hf : f_X11_laws_52 x1 x2 x3 k e S = some (r, S')) : J K 52 [(0, .ref 122), (1, .int x1), (2, .int x2), (3, .int x3)] [] S := by
  unfold f_X11_laws_52 at hf
  refine j_iload_n hK dX11_laws_52 1 rfl rfl ?_
  refine j_iload_n hK dX11_laws_53 3 rfl rfl ?_
  obtain ⟨r1, S2, h3, hf⟩ := bd_J hf
  refine k_callSi hK (c_X11_flag h3) dX11_laws_54 ml_X11_155 ms_X11_flag in_X11 mc_X11_flag hy_X11_flag ⟨by decide, by decide⟩ rfl (Nat.le_of_ble_eq_true rfl) ?_
  refine j_iadd hK dX11_laws_57 ?_
  refine lt_I hf (fun y4 hf => ?_)
  refine j_istore_n hK (L' := [(1, .int y4), (0, .ref 122), (2, .int x2), (3, .int x3)]) dX11_laws_58 rfl (by decide) rfl ?_
  refine j_iinc hK (L' := [(2, .int (x2 + (1 : Int32))), (1, .int y4), (0, .ref 122), (3, .int x3)]) dX11_laws_59 2 rfl (congrArg (fun y => x2 + y) ic_1) (by decide) rfl ?_
  refine j_goto hK 14 dX11_laws_62 (by decide) ?_
  refine j_sub [2, 1, 0] rfl ?_
  exact hk _ _ hf
def f_X11_laws_14b (e : Int32 × Int32 → St → Option (Int32 × St)) (k : Int32 × Int32 → St → Option (Int32 × St)) (v : Int32 × Int32) (S : St) : Option (Int32 × St) := (if (64 : Int32) ≤ v.2 then e (v.1, v.2) S else bd (f_X11_isLaw v.2 S) (fun r5 S6 => (if r5 = 0 then f_X11_laws_52 v.1 v.2 r5 k e S6 else (if v.1 = 0 then bd (f_X11_enters (v.2 / (8 : Int32)).toInt64 S6) (fun r8 S9 => bd (f_X11_enters (v.2 - v.2 / (8 : Int32) * (8 : Int32)).toInt64 S9) (fun r11 S12 => f_X11_laws_52 v.1 v.2 r5 k e S12)) else f_X11_laws_52 v.1 v.2 r5 k e S6))))
theorem t_X11_laws_14 {K : CT} (hK : KO K cX11_laws RX11 4 3 (some .int)) {r : Int32} {S' : St} (hA : zans K (some (.int r), S')) {e : Int32 × Int32 → St → Option (Int32 × St)} (he : ∀ (v : Int32 × Int32) (S : St), e v S = some (r, S') → J K 65 [(1, .int v.1)] [] S) : ∀ (n : Nat) (v : Int32 × Int32) (S : St), lp (f_X11_laws_14b  e) n v S = some (r, S') → J K 14 [(0, .ref 122), (1, .int v.1), (2, .int v.2)] [] S :=
  lp_J (P := fun (v : Int32 × Int32) (S : St) => J K 14 [(0, .ref 122), (1, .int v.1), (2, .int v.2)] [] S) (fun k hk v S hf => by
    unfold f_X11_laws_14b at hf
    refine j_iload_n hK dX11_laws_14 2 rfl rfl ?_
    refine j_bipush hK (64 : Int32) dX11_laws_15 bi_64 ?_
    refine j_icmp_ge hK 65 dX11_laws_17 (by decide) (fun hc => ?_) (fun hc => ?_)
    · replace hf := if_1 hc hf
      refine j_sub [1] rfl ?_
      exact he _ _ hf
    · replace hf := if_2 hc hf
      refine j_aload_n hK dX11_laws_20 0 rfl rfl ?_
      refine j_iload_n hK dX11_laws_21 2 rfl rfl ?_
      obtain ⟨r5, S6, h7, hf⟩ := bd_J hf
      refine k_callVi hK (c_X11_isLaw h7) dX11_laws_22 zclX11 zo_122 ml_X11_424 mi_X11_isLaw mx_X11_isLaw in_X11 mc_X11_isLaw hy_X11_isLaw ⟨by decide, by decide⟩ rfl (Nat.le_of_ble_eq_true rfl) ?_
      refine j_istore_n hK (L' := [(3, .int r5), (0, .ref 122), (1, .int v.1), (2, .int v.2)]) dX11_laws_25 rfl (by decide) rfl ?_
      refine j_iload_n hK dX11_laws_26 0 rfl rfl ?_
      refine j_if_eq hK 52 dX11_laws_27 (by decide) (fun hc => ?_) (fun hc => ?_)
      · replace hf := if_1 hc hf
        refine j_sub [1, 2, 3, 0] rfl ?_
        exact t_X11_laws_52 hK hA hk he hf
      · replace hf := if_2 hc hf
        refine j_iload_n hK dX11_laws_30 2 rfl rfl ?_
        refine j_if_ne hK 52 dX11_laws_31 (by decide) (fun hc => ?_) (fun hc => ?_)
        · replace hf := if_2 hc hf
          refine j_sub [1, 2, 3, 0] rfl ?_
          exact t_X11_laws_52 hK hA hk he hf
        · replace hf := if_1 hc hf
          refine j_aload_n hK dX11_laws_34 1 rfl rfl ?_
          refine j_iload_n hK dX11_laws_35 3 rfl rfl ?_
          refine j_bipush hK (8 : Int32) dX11_laws_36 bi_8 ?_
          refine j_idiv hK dX11_laws_38 (by decide) ?_
          refine j_i2l hK dX11_laws_39 ?_
          obtain ⟨r8, S9, h10, hf⟩ := bd_J hf
          refine k_callVv hK (c_X11_enters h10) dX11_laws_40 zclX11 zo_122 ml_X11_340 mi_X11_enters mx_X11_enters in_X11 mc_X11_enters hy_X11_enters ⟨by decide, by decide⟩ rfl (Nat.le_of_ble_eq_true rfl) ?_
          refine j_aload_n hK dX11_laws_43 1 rfl rfl ?_
          refine j_pc (pc' := 44) rfl ?_
          refine j_iload_n hK dX11_laws_44 3 rfl rfl ?_
          refine j_bipush hK (8 : Int32) dX11_laws_45 bi_8 ?_
          refine j_irem hK dX11_laws_47 (by decide) ?_
          refine j_i2l hK dX11_laws_48 ?_
          obtain ⟨r11, S12, h13, hf⟩ := bd_J hf
          refine k_callVv hK (c_X11_enters h13) dX11_laws_49 zclX11 zo_122 ml_X11_340 mi_X11_enters mx_X11_enters in_X11 mc_X11_enters hy_X11_enters ⟨by decide, by decide⟩ rfl (Nat.le_of_ble_eq_true rfl) ?_
          refine j_sub [1, 2, 3, 0] rfl ?_
          exact t_X11_laws_52 hK hA hk he hf)
def f_X11_laws (S : St) : Option (Int32 × St) := lt (sI S 122 0 (0 : Int32)) (fun S14 => lt (sI S14 122 1 (0 : Int32)) (fun S15 => lp (f_X11_laws_14b  (fun v16 S17 => some (v16.1, S17))) FU ((0 : Int32), (0 : Int32)) S15))
theorem c_X11_laws {S : St} {r : Int32} {S' : St} (hf : f_X11_laws S = some (r, S')) : zM yX11_laws cX11_laws 4 3 (some .int) [.ref 122] S (some (.int r)) S' := by
  refine zM_of (zpl (by decide)) (Nat.le_of_ble_eq_true rfl) rfl (fun K hK hA => ?_)
  unfold f_X11_laws at hf
  refine j_aload_n hK dX11_laws_0 0 rfl rfl ?_
  refine j_iconst hK (0 : Int32) dX11_laws_1 ic_0 ?_
  refine j_putI hK fl_X11_3 dX11_laws_2 zo_122 zf_11_0 ?_
  refine lt_S hf (fun S14 hf => ?_)
  refine j_iconst hK (0 : Int32) dX11_laws_5 ic_0 ?_
  refine j_istore_n hK (L' := [(1, .int (0 : Int32)), (0, .ref 122)]) dX11_laws_6 rfl (by decide) rfl ?_
  refine j_aload_n hK dX11_laws_7 1 rfl rfl ?_
  refine j_iconst hK (0 : Int32) dX11_laws_8 ic_0 ?_
  refine j_putI hK fl_X11_15 dX11_laws_9 zo_122 zf_11_1 ?_
  refine lt_S hf (fun S15 hf => ?_)
  refine j_pc (pc' := 12) rfl ?_
  refine j_iconst hK (0 : Int32) dX11_laws_12 ic_0 ?_
  refine j_istore_n hK (L' := [(2, .int (0 : Int32)), (1, .int (0 : Int32)), (0, .ref 122)]) dX11_laws_13 rfl (by decide) rfl ?_
  refine j_sub [2, 1, 0] rfl ?_
  refine t_X11_laws_14 hK hA  (fun v16 S17 hf => ?_) _ _ _ hf
  refine j_iload_n hK dX11_laws_65 0 rfl rfl ?_
  exact j_iret hK dX11_laws_66 rfl (rt_I hA hf)
def f_X11_listens_144 (x1 : Int32) (x3 : Int32) (s0 : Int32) (k e : Int32 × Int32 × Int32 → St → Option (Int32 × St)) (S : St) : Option (Int32 × St) := k (x1, s0, (x3 + (1 : Int32))) S
theorem t_X11_listens_144 {K : CT} (hK : KO K cX11_listens RX11 7 3 (some .int)) {r : Int32} {S' : St} (hA : zans K (some (.int r), S')) {x1 : Int32} {x3 : Int32} {s0 : Int32} {k e : Int32 × Int32 × Int32 → St → Option (Int32 × St)} (hk : ∀ (v : Int32 × Int32 × Int32) (S : St), k v S = some (r, S') → J K 14 [(0, .ref 122), (1, .int v.1), (2, .int v.2.1), (3, .int v.2.2)] [] S) (he : ∀ (v : Int32 × Int32 × Int32) (S : St), e v S = some (r, S') → J K 151 [(0, .ref 122), (1, .int v.1), (2, .int v.2.1)] [] S) {S : St} (hf : f_X11_listens_144 x1 x3 s0 k e S = some (r, S')) : J K 144 [(0, .ref 122), (1, .int x1), (3, .int x3)] [.int s0] S := by
  unfold f_X11_listens_144 at hf
  refine j_istore_n hK (L' := [(2, .int s0), (0, .ref 122), (1, .int x1), (3, .int x3)]) dX11_listens_144 rfl (by decide) rfl ?_
  refine j_iinc hK (L' := [(3, .int (x3 + (1 : Int32))), (2, .int s0), (0, .ref 122), (1, .int x1)]) dX11_listens_145 3 rfl (congrArg (fun y => x3 + y) ic_1) (by decide) rfl ?_
  refine j_goto hK 14 dX11_listens_148 (by decide) ?_
  refine j_sub [2, 3, 1, 0] rfl ?_
  exact hk _ _ hf
def f_X11_listens_128 (x2 : Int32) (x3 : Int32) (x4 : Int32) (s0 : Int32) (k e : Int32 × Int32 × Int32 → St → Option (Int32 × St)) (S : St) : Option (Int32 × St) := (if x4 ≤ 0 then f_X11_listens_144 s0 x3 x2 k e S else f_X11_listens_144 s0 x3 (mnI x2 x4) k e S)
theorem t_X11_listens_128 {K : CT} (hK : KO K cX11_listens RX11 7 3 (some .int)) {r : Int32} {S' : St} (hA : zans K (some (.int r), S')) {x2 : Int32} {x3 : Int32} {x4 : Int32} {s0 : Int32} {k e : Int32 × Int32 × Int32 → St → Option (Int32 × St)} (hk : ∀ (v : Int32 × Int32 × Int32) (S : St), k v S = some (r, S') → J K 14 [(0, .ref 122), (1, .int v.1), (2, .int v.2.1), (3, .int v.2.2)] [] S) (he : ∀ (v : Int32 × Int32 × Int32) (S : St), e v S = some (r, S') → J K 151 [(0, .ref 122), (1, .int v.1), (2, .int v.2.1)] [] S) {S : St} (hf : f_X11_listens_128 x2 x3 x4 s0 k e S = some (r, S')) : J K 128 [(0, .ref 122), (2, .int x2), (3, .int x3), (4, .int x4)] [.int s0] S := by
  unfold f_X11_listens_128 at hf
  refine j_istore_n hK (L' := [(1, .int s0), (0, .ref 122), (2, .int x2), (3, .int x3), (4, .int x4)]) dX11_listens_128 rfl (by decide) rfl ?_
  refine j_iload hK dX11_listens_129 4 rfl ?_
  refine j_if_le hK 143 dX11_listens_131 (by decide) (fun hc => ?_) (fun hc => ?_)
  · replace hf := if_1 hc hf
    refine j_iload_n hK dX11_listens_143 2 rfl rfl ?_
    refine j_sub [1, 0, 3] rfl ?_
    exact t_X11_listens_144 hK hA hk he hf
  · replace hf := if_2 hc hf
    refine j_iload_n hK dX11_listens_134 2 rfl rfl ?_
    refine j_iload hK dX11_listens_135 4 rfl ?_
    refine j_min hK ml_X11_146 dX11_listens_137 (by decide) (Nat.le_of_ble_eq_true rfl) ?_
    refine j_goto hK 144 dX11_listens_140 (by decide) ?_
    refine j_sub [1, 0, 3] rfl ?_
    exact t_X11_listens_144 hK hA hk he hf
def f_X11_listens_127 (x1 : Int32) (x2 : Int32) (x3 : Int32) (x4 : Int32) (k e : Int32 × Int32 × Int32 → St → Option (Int32 × St)) (S : St) : Option (Int32 × St) := f_X11_listens_128 x2 x3 x4 x1 k e S
theorem t_X11_listens_127 {K : CT} (hK : KO K cX11_listens RX11 7 3 (some .int)) {r : Int32} {S' : St} (hA : zans K (some (.int r), S')) {x1 : Int32} {x2 : Int32} {x3 : Int32} {x4 : Int32} {k e : Int32 × Int32 × Int32 → St → Option (Int32 × St)} (hk : ∀ (v : Int32 × Int32 × Int32) (S : St), k v S = some (r, S') → J K 14 [(0, .ref 122), (1, .int v.1), (2, .int v.2.1), (3, .int v.2.2)] [] S) (he : ∀ (v : Int32 × Int32 × Int32) (S : St), e v S = some (r, S') → J K 151 [(0, .ref 122), (1, .int v.1), (2, .int v.2.1)] [] S) {S : St} (hf : f_X11_listens_127 x1 x2 x3 x4 k e S = some (r, S')) : J K 127 [(0, .ref 122), (1, .int x1), (2, .int x2), (3, .int x3), (4, .int x4)] [] S := by
  unfold f_X11_listens_127 at hf
  refine j_iload_n hK dX11_listens_127 1 rfl rfl ?_
  refine j_sub [0, 2, 3, 4] rfl ?_
  exact t_X11_listens_128 hK hA hk he hf
def f_X11_listens_106 (x1 : Int32) (x2 : Int32) (x3 : Int32) (x4 : Int32) (x5 : Int32) (k e : Int32 × Int32 → St → Option (Int32 × St)) (S : St) : Option (Int32 × St) := k (x4, (x5 + (1 : Int32))) S
theorem t_X11_listens_106 {K : CT} (hK : KO K cX11_listens RX11 7 3 (some .int)) {r : Int32} {S' : St} (hA : zans K (some (.int r), S')) {x1 : Int32} {x2 : Int32} {x3 : Int32} {x4 : Int32} {x5 : Int32} {k e : Int32 × Int32 → St → Option (Int32 × St)} (hk : ∀ (v : Int32 × Int32) (S : St), k v S = some (r, S') → J K 50 [(0, .ref 122), (1, .int x1), (2, .int x2), (3, .int x3), (4, .int v.1), (5, .int v.2)] [] S) (he : ∀ (v : Int32 × Int32) (S : St), e v S = some (r, S') → J K 112 [(0, .ref 122), (1, .int x1), (2, .int x2), (3, .int x3), (4, .int v.1)] [] S) {S : St} (hf : f_X11_listens_106 x1 x2 x3 x4 x5 k e S = some (r, S')) : J K 106 [(0, .ref 122), (1, .int x1), (2, .int x2), (3, .int x3), (4, .int x4), (5, .int x5)] [] S := by
  unfold f_X11_listens_106 at hf
  refine j_iinc hK (L' := [(5, .int (x5 + (1 : Int32))), (0, .ref 122), (1, .int x1), (2, .int x2), (3, .int x3), (4, .int x4)]) dX11_listens_106 5 rfl (congrArg (fun y => x5 + y) ic_1) (by decide) rfl ?_
  refine j_goto hK 50 dX11_listens_109 (by decide) ?_
  refine j_sub [1, 2, 3, 4, 5, 0] rfl ?_
  exact hk _ _ hf
def f_X11_listens_50b (x1 : Int32) (x2 : Int32) (x3 : Int32) (e : Int32 × Int32 → St → Option (Int32 × St)) (k : Int32 × Int32 → St → Option (Int32 × St)) (v : Int32 × Int32) (S : St) : Option (Int32 × St) := (if (64 : Int32) ≤ v.2 then e (v.1, v.2) S else bd (f_X11_isLaw v.2 S) (fun r1 S2 => (if r1 = 0 then f_X11_listens_106 x1 x2 x3 v.1 v.2 k e S2 else bd (f_X11_lawOf v.2 (x3 / (10 : Int32)) (x3 - x3 / (10 : Int32) * (10 : Int32)) S2) (fun r4 S5 => if inb r4 8 then if inb r4 8 then lt (sI S5 144 r4.toNatClampNeg ((gI S5 144 r4.toNatClampNeg) + (1 : Int32))) (fun S9 => if inb r4 8 then lt (mxI v.1 (gI S9 144 r4.toNatClampNeg)) (fun y11 => f_X11_listens_106 x1 x2 x3 y11 v.2 k e S9) else none) else none else none))))
theorem t_X11_listens_50 {K : CT} (hK : KO K cX11_listens RX11 7 3 (some .int)) {r : Int32} {S' : St} (hA : zans K (some (.int r), S')) {x1 : Int32} {x2 : Int32} {x3 : Int32} {e : Int32 × Int32 → St → Option (Int32 × St)} (he : ∀ (v : Int32 × Int32) (S : St), e v S = some (r, S') → J K 112 [(0, .ref 122), (1, .int x1), (2, .int x2), (3, .int x3), (4, .int v.1)] [] S) : ∀ (n : Nat) (v : Int32 × Int32) (S : St), lp (f_X11_listens_50b x1 x2 x3 e) n v S = some (r, S') → J K 50 [(0, .ref 122), (1, .int x1), (2, .int x2), (3, .int x3), (4, .int v.1), (5, .int v.2)] [] S :=
  lp_J (P := fun (v : Int32 × Int32) (S : St) => J K 50 [(0, .ref 122), (1, .int x1), (2, .int x2), (3, .int x3), (4, .int v.1), (5, .int v.2)] [] S) (fun k hk v S hf => by
    unfold f_X11_listens_50b at hf
    refine j_iload hK dX11_listens_50 5 rfl ?_
    refine j_bipush hK (64 : Int32) dX11_listens_52 bi_64 ?_
    refine j_icmp_ge hK 112 dX11_listens_54 (by decide) (fun hc => ?_) (fun hc => ?_)
    · replace hf := if_1 hc hf
      refine j_sub [0, 1, 2, 3, 4] rfl ?_
      exact he _ _ hf
    · replace hf := if_2 hc hf
      refine j_aload_n hK dX11_listens_57 0 rfl rfl ?_
      refine j_iload hK dX11_listens_58 5 rfl ?_
      obtain ⟨r1, S2, h3, hf⟩ := bd_J hf
      refine k_callVi hK (c_X11_isLaw h3) dX11_listens_60 zclX11 zo_122 ml_X11_424 mi_X11_isLaw mx_X11_isLaw in_X11 mc_X11_isLaw hy_X11_isLaw ⟨by decide, by decide⟩ rfl (Nat.le_of_ble_eq_true rfl) ?_
      refine j_if_eq hK 106 dX11_listens_63 (by decide) (fun hc => ?_) (fun hc => ?_)
      · replace hf := if_1 hc hf
        exact t_X11_listens_106 hK hA hk he hf
      · replace hf := if_2 hc hf
        refine j_iload hK dX11_listens_66 5 rfl ?_
        refine j_iload_n hK dX11_listens_68 3 rfl rfl ?_
        refine j_bipush hK (10 : Int32) dX11_listens_69 bi_10 ?_
        refine j_idiv hK dX11_listens_71 (by decide) ?_
        refine j_iload_n hK dX11_listens_72 3 rfl rfl ?_
        refine j_bipush hK (10 : Int32) dX11_listens_73 bi_10 ?_
        refine j_irem hK dX11_listens_75 (by decide) ?_
        refine j_pc (pc' := 76) rfl ?_
        obtain ⟨r4, S5, h6, hf⟩ := bd_J hf
        refine k_callSi hK (c_X11_lawOf h6) dX11_listens_76 ml_X11_421 ms_X11_lawOf in_X11 mc_X11_lawOf hy_X11_lawOf ⟨by decide, by decide⟩ rfl (Nat.le_of_ble_eq_true rfl) ?_
        refine j_istore hK (L' := [(6, .int r4), (0, .ref 122), (1, .int x1), (2, .int x2), (3, .int x3), (4, .int v.1), (5, .int v.2)]) dX11_listens_79 (by decide) rfl ?_
        refine j_aload_n hK dX11_listens_81 1 rfl rfl ?_
        refine j_getR hK fl_X11_86 dX11_listens_82 zo_122 zf_11_37 zr_122_37 ?_
        refine j_iload hK dX11_listens_85 0 rfl ?_
        refine j_dup2 hK dX11_listens_87 rfl rfl ?_
        obtain ⟨hi7, hf⟩ := gd hf
        refine k_iald hK dX11_listens_88 zb_144 hi7 rfl ?_
        refine j_iconst hK (1 : Int32) dX11_listens_89 ic_1 ?_
        refine j_pc (pc' := 90) rfl ?_
        refine j_iadd hK dX11_listens_90 ?_
        obtain ⟨hi8, hf⟩ := gd hf
        refine k_iast hK dX11_listens_91 zb_144 hi8 rfl ?_
        refine lt_S hf (fun S9 hf => ?_)
        refine j_iload hK dX11_listens_92 5 rfl ?_
        refine j_aload_n hK dX11_listens_94 1 rfl rfl ?_
        refine j_getR hK fl_X11_86 dX11_listens_95 zo_122 zf_11_37 zr_122_37 ?_
        refine j_iload hK dX11_listens_98 0 rfl ?_
        obtain ⟨hi10, hf⟩ := gd hf
        refine k_iald hK dX11_listens_100 zb_144 hi10 rfl ?_
        refine j_max hK ml_X11_297 dX11_listens_101 (by decide) (Nat.le_of_ble_eq_true rfl) ?_
        refine j_pc (pc' := 104) rfl ?_
        refine lt_I hf (fun y11 hf => ?_)
        refine j_istore hK (L' := [(4, .int y11), (6, .int r4), (0, .ref 122), (1, .int x1), (2, .int x2), (3, .int x3), (5, .int v.2)]) dX11_listens_104 (by decide) rfl ?_
        refine j_sub [2, 3, 4, 5, 0, 6] rfl ?_
        exact t_X11_listens_106 hK hA hk he hf)
def f_X11_listens_26b (x1 : Int32) (x2 : Int32) (x3 : Int32) (x4 : Int32) (e : Int32 → St → Option (Int32 × St)) (k : Int32 → St → Option (Int32 × St)) (v : Int32) (S : St) : Option (Int32 × St) := (if (8 : Int32) ≤ v then e v S else if inb v 8 then lt (sI S 144 v.toNatClampNeg (0 : Int32)) (fun S13 => k (v + (1 : Int32)) S13) else none)
theorem t_X11_listens_26 {K : CT} (hK : KO K cX11_listens RX11 7 3 (some .int)) {r : Int32} {S' : St} (hA : zans K (some (.int r), S')) {x1 : Int32} {x2 : Int32} {x3 : Int32} {x4 : Int32} {e : Int32 → St → Option (Int32 × St)} (he : ∀ (v : Int32) (S : St), e v S = some (r, S') → J K 47 [(0, .ref 122), (1, .int x1), (2, .int x2), (3, .int x3), (4, .int x4)] [] S) : ∀ (n : Nat) (v : Int32) (S : St), lp (f_X11_listens_26b x1 x2 x3 x4 e) n v S = some (r, S') → J K 26 [(0, .ref 122), (1, .int x1), (2, .int x2), (3, .int x3), (4, .int x4), (5, .int v)] [] S :=
  lp_J (P := fun (v : Int32) (S : St) => J K 26 [(0, .ref 122), (1, .int x1), (2, .int x2), (3, .int x3), (4, .int x4), (5, .int v)] [] S) (fun k hk v S hf => by
    unfold f_X11_listens_26b at hf
    refine j_iload hK dX11_listens_26 5 rfl ?_
    refine j_bipush hK (8 : Int32) dX11_listens_28 bi_8 ?_
    refine j_icmp_ge hK 47 dX11_listens_30 (by decide) (fun hc => ?_) (fun hc => ?_)
    · replace hf := if_1 hc hf
      refine j_sub [0, 1, 2, 3, 4] rfl ?_
      exact he _ _ hf
    · replace hf := if_2 hc hf
      refine j_aload_n hK dX11_listens_33 0 rfl rfl ?_
      refine j_getR hK fl_X11_86 dX11_listens_34 zo_122 zf_11_37 zr_122_37 ?_
      refine j_iload hK dX11_listens_37 5 rfl ?_
      refine j_iconst hK (0 : Int32) dX11_listens_39 ic_0 ?_
      obtain ⟨hi12, hf⟩ := gd hf
      refine k_iast hK dX11_listens_40 zb_144 hi12 rfl ?_
      refine lt_S hf (fun S13 hf => ?_)
      refine j_iinc hK (L' := [(5, .int (v + (1 : Int32))), (0, .ref 122), (1, .int x1), (2, .int x2), (3, .int x3), (4, .int x4)]) dX11_listens_41 5 rfl (congrArg (fun y => v + y) ic_1) (by decide) rfl ?_
      refine j_goto hK 26 dX11_listens_44 (by decide) ?_
      refine j_sub [1, 2, 3, 4, 5, 0] rfl ?_
      exact hk _ _ hf)
def f_X11_listens_14b (e : Int32 × Int32 × Int32 → St → Option (Int32 × St)) (k : Int32 × Int32 × Int32 → St → Option (Int32 × St)) (v : Int32 × Int32 × Int32) (S : St) : Option (Int32 × St) := (if (80 : Int32) ≤ v.2.2 then e (v.1, v.2.1, v.2.2) S else lp (f_X11_listens_26b v.1 v.2.1 v.2.2 (0 : Int32) (fun v14 S15 => lp (f_X11_listens_50b v.1 v.2.1 v.2.2 (fun v16 S17 => (if v16.1 ≤ 0 then f_X11_listens_127 v.1 v.2.1 v.2.2 v16.1 k e S17 else (if v.2.1 ≤ v16.1 then f_X11_listens_127 v.1 v.2.1 v.2.2 v16.1 k e S17 else f_X11_listens_128 v.2.1 v.2.2 v16.1 v.2.2 k e S17)))) FU ((0 : Int32), (0 : Int32)) S15)) FU (0 : Int32) S)
theorem t_X11_listens_14 {K : CT} (hK : KO K cX11_listens RX11 7 3 (some .int)) {r : Int32} {S' : St} (hA : zans K (some (.int r), S')) {e : Int32 × Int32 × Int32 → St → Option (Int32 × St)} (he : ∀ (v : Int32 × Int32 × Int32) (S : St), e v S = some (r, S') → J K 151 [(0, .ref 122), (1, .int v.1), (2, .int v.2.1)] [] S) : ∀ (n : Nat) (v : Int32 × Int32 × Int32) (S : St), lp (f_X11_listens_14b  e) n v S = some (r, S') → J K 14 [(0, .ref 122), (1, .int v.1), (2, .int v.2.1), (3, .int v.2.2)] [] S :=
  lp_J (P := fun (v : Int32 × Int32 × Int32) (S : St) => J K 14 [(0, .ref 122), (1, .int v.1), (2, .int v.2.1), (3, .int v.2.2)] [] S) (fun k hk v S hf => by
    unfold f_X11_listens_14b at hf
    refine j_iload_n hK dX11_listens_14 3 rfl rfl ?_
    refine j_bipush hK (80 : Int32) dX11_listens_15 bi_80 ?_
    refine j_icmp_ge hK 151 dX11_listens_17 (by decide) (fun hc => ?_) (fun hc => ?_)
    · replace hf := if_1 hc hf
      refine j_sub [0, 1, 2] rfl ?_
      exact he _ _ hf
    · replace hf := if_2 hc hf
      refine j_iconst hK (0 : Int32) dX11_listens_20 ic_0 ?_
      refine j_istore hK (L' := [(4, .int (0 : Int32)), (0, .ref 122), (1, .int v.1), (2, .int v.2.1), (3, .int v.2.2)]) dX11_listens_21 (by decide) rfl ?_
      refine j_iconst hK (0 : Int32) dX11_listens_23 ic_0 ?_
      refine j_istore hK (L' := [(5, .int (0 : Int32)), (4, .int (0 : Int32)), (0, .ref 122), (1, .int v.1), (2, .int v.2.1), (3, .int v.2.2)]) dX11_listens_24 (by decide) rfl ?_
      refine j_sub [2, 3, 4, 5, 1, 0] rfl ?_
      refine t_X11_listens_26 hK hA  (fun v14 S15 hf => ?_) _ _ _ hf
      refine j_iconst hK (0 : Int32) dX11_listens_47 ic_0 ?_
      refine j_istore hK (L' := [(5, .int (0 : Int32)), (0, .ref 122), (1, .int v.1), (2, .int v.2.1), (3, .int v.2.2), (4, .int (0 : Int32))]) dX11_listens_48 (by decide) rfl ?_
      refine j_sub [1, 2, 3, 4, 5, 0] rfl ?_
      refine t_X11_listens_50 hK hA  (fun v16 S17 hf => ?_) _ _ _ hf
      refine j_iload hK dX11_listens_112 4 rfl ?_
      refine j_if_le hK 127 dX11_listens_114 (by decide) (fun hc => ?_) (fun hc => ?_)
      · replace hf := if_1 hc hf
        exact t_X11_listens_127 hK hA hk he hf
      · replace hf := if_2 hc hf
        refine j_iload hK dX11_listens_117 4 rfl ?_
        refine j_iload_n hK dX11_listens_119 2 rfl rfl ?_
        refine j_icmp_ge hK 127 dX11_listens_120 (by decide) (fun hc => ?_) (fun hc => ?_)
        · replace hf := if_1 hc hf
          exact t_X11_listens_127 hK hA hk he hf
        · replace hf := if_2 hc hf
          refine j_iload_n hK dX11_listens_123 3 rfl rfl ?_
          refine j_goto hK 128 dX11_listens_124 (by decide) ?_
          refine j_sub [0, 2, 3, 4] rfl ?_
          exact t_X11_listens_128 hK hA hk he hf)
def f_X11_listens (S : St) : Option (Int32 × St) := lt (sI S 122 0 (0 : Int32)) (fun S18 => lp (f_X11_listens_14b  (fun v19 S20 => (if v19.1 < 0 then some (v19.1, S20) else lt (sI S20 122 1 (0 : Int32)) (fun S21 => bd (f_X11_enters v19.2.1.toInt64 S21) (fun r22 S23 => some (v19.1, S23)))))) FU ((-2 : Int32), (1000000 : Int32), (0 : Int32)) S18)
theorem c_X11_listens {S : St} {r : Int32} {S' : St} (hf : f_X11_listens S = some (r, S')) : zM yX11_listens cX11_listens 7 3 (some .int) [.ref 122] S (some (.int r)) S' := by
  refine zM_of (zpl (by decide)) (Nat.le_of_ble_eq_true rfl) rfl (fun K hK hA => ?_)
  unfold f_X11_listens at hf
  refine j_aload_n hK dX11_listens_0 0 rfl rfl ?_
  refine j_iconst hK (0 : Int32) dX11_listens_1 ic_0 ?_
  refine j_putI hK fl_X11_3 dX11_listens_2 zo_122 zf_11_0 ?_
  refine lt_S hf (fun S18 hf => ?_)
  refine j_bipush hK (-2 : Int32) dX11_listens_5 bi_m2 ?_
  refine j_istore_n hK (L' := [(1, .int (-2 : Int32)), (0, .ref 122)]) dX11_listens_7 rfl (by decide) rfl ?_
  refine j_ldcw hK (v := (1000000 : Int32)) cn_X11_290 dX11_listens_8 ?_
  refine j_istore_n hK (L' := [(2, .int (1000000 : Int32)), (1, .int (-2 : Int32)), (0, .ref 122)]) dX11_listens_11 rfl (by decide) rfl ?_
  refine j_iconst hK (0 : Int32) dX11_listens_12 ic_0 ?_
  refine j_pc (pc' := 13) rfl ?_
  refine j_istore_n hK (L' := [(3, .int (0 : Int32)), (2, .int (1000000 : Int32)), (1, .int (-2 : Int32)), (0, .ref 122)]) dX11_listens_13 rfl (by decide) rfl ?_
  refine j_sub [3, 2, 1, 0] rfl ?_
  refine t_X11_listens_14 hK hA  (fun v19 S20 hf => ?_) _ _ _ hf
  refine j_iload_n hK dX11_listens_151 1 rfl rfl ?_
  refine j_if_lt hK 166 dX11_listens_152 (by decide) (fun hc => ?_) (fun hc => ?_)
  · replace hf := if_1 hc hf
    refine j_iload_n hK dX11_listens_166 1 rfl rfl ?_
    exact j_iret hK dX11_listens_167 rfl (rt_I hA hf)
  · replace hf := if_2 hc hf
    refine j_aload_n hK dX11_listens_155 0 rfl rfl ?_
    refine j_iconst hK (0 : Int32) dX11_listens_156 ic_0 ?_
    refine j_putI hK fl_X11_15 dX11_listens_157 zo_122 zf_11_1 ?_
    refine lt_S hf (fun S21 hf => ?_)
    refine j_aload_n hK dX11_listens_160 0 rfl rfl ?_
    refine j_iload_n hK dX11_listens_161 2 rfl rfl ?_
    refine j_i2l hK dX11_listens_162 ?_
    obtain ⟨r22, S23, h24, hf⟩ := bd_J hf
    refine k_callVv hK (c_X11_enters h24) dX11_listens_163 zclX11 zo_122 ml_X11_340 mi_X11_enters mx_X11_enters in_X11 mc_X11_enters hy_X11_enters ⟨by decide, by decide⟩ rfl (Nat.le_of_ble_eq_true rfl) ?_
    refine j_pc (pc' := 166) rfl ?_
    refine j_iload_n hK dX11_listens_166 1 rfl rfl ?_
    exact j_iret hK dX11_listens_167 rfl (rt_I hA hf)
def f_X11_hints_221b (x4 : Int32) (x5 : Int32) (x6 : Int64) (x8 : Int32) (e : Int32 → St → Option (Int32 × St)) (k : Int32 → St → Option (Int32 × St)) (v : Int32) (S : St) : Option (Int32 × St) := (if (8 : Int32) ≤ v then e v S else if inb v 8 then if inb v 8 then lt (sL S 151 v.toNatClampNeg (gL S 152 v.toNatClampNeg)) (fun S3 => k (v + (1 : Int32)) S3) else none else none)
theorem t_X11_hints_221 {K : CT} (hK : KO K cX11_hints RX11 10 141 (some .int)) {r : Int32} {S' : St} (hA : zans K (some (.int r), S')) {x4 : Int32} {x5 : Int32} {x6 : Int64} {x8 : Int32} {e : Int32 → St → Option (Int32 × St)} (he : ∀ (v : Int32) (S : St), e v S = some (r, S') → J K 248 [(0, .ref 122), (4, .int x4), (5, .int x5), (6, .long x6), (8, .int x8)] [] S) : ∀ (n : Nat) (v : Int32) (S : St), lp (f_X11_hints_221b x4 x5 x6 x8 e) n v S = some (r, S') → J K 221 [(0, .ref 122), (4, .int x4), (5, .int x5), (6, .long x6), (8, .int x8), (9, .int v)] [] S :=
  lp_J (P := fun (v : Int32) (S : St) => J K 221 [(0, .ref 122), (4, .int x4), (5, .int x5), (6, .long x6), (8, .int x8), (9, .int v)] [] S) (fun k hk v S hf => by
    unfold f_X11_hints_221b at hf
    refine j_iload hK dX11_hints_221 5 rfl ?_
    refine j_bipush hK (8 : Int32) dX11_hints_223 bi_8 ?_
    refine j_icmp_ge hK 248 dX11_hints_225 (by decide) (fun hc => ?_) (fun hc => ?_)
    · replace hf := if_1 hc hf
      refine j_sub [0, 1, 2, 3, 4] rfl ?_
      exact he _ _ hf
    · replace hf := if_2 hc hf
      refine j_aload_n hK dX11_hints_228 0 rfl rfl ?_
      refine j_getR hK fl_X11_107 dX11_hints_229 zo_122 zf_11_46 zr_122_46 ?_
      refine j_iload hK dX11_hints_232 5 rfl ?_
      refine j_aload_n hK dX11_hints_234 0 rfl rfl ?_
      refine j_getR hK fl_X11_110 dX11_hints_235 zo_122 zf_11_47 zr_122_47 ?_
      refine j_iload hK dX11_hints_238 5 rfl ?_
      obtain ⟨hi1, hf⟩ := gd hf
      refine k_lald hK dX11_hints_240 zb_152 hi1 rfl ?_
      refine j_pc (pc' := 241) rfl ?_
      obtain ⟨hi2, hf⟩ := gd hf
      refine k_last hK dX11_hints_241 zb_151 hi2 rfl ?_
      refine lt_S hf (fun S3 hf => ?_)
      refine j_iinc hK (L' := [(9, .int (v + (1 : Int32))), (0, .ref 122), (4, .int x4), (5, .int x5), (6, .long x6), (8, .int x8)]) dX11_hints_242 5 rfl (congrArg (fun y => v + y) ic_1) (by decide) rfl ?_
      refine j_goto hK 221 dX11_hints_245 (by decide) ?_
      refine j_sub [1, 2, 3, 4, 5, 0] rfl ?_
      exact hk _ _ hf)
def f_X11_hints_158b (x4 : Int32) (x5 : Int32) (x6 : Int64) (x8 : Int32) (e : Int32 → St → Option (Int32 × St)) (k : Int32 → St → Option (Int32 × St)) (v : Int32) (S : St) : Option (Int32 × St) := (if (8 : Int32) ≤ v then e v S else if inb x8 12 then if inb x8 12 then bd (f_X11_becomesBy 126 (gI S 134 x8.toNatClampNeg) (gI S 135 x8.toNatClampNeg) v (0 : Int32) S) (fun r6 S7 => if inb r6 8 then if inb v 8 then lt ((gL S7 152 r6.toNatClampNeg) + ((gL S7 151 v.toNatClampNeg) * ((10 : Int32) - x5).toInt64)) (fun y11 => if inb r6 8 then lt (sL S7 152 r6.toNatClampNeg y11) (fun S13 => k (v + (1 : Int32)) S13) else none) else none else none) else none else none)
theorem t_X11_hints_158 {K : CT} (hK : KO K cX11_hints RX11 10 141 (some .int)) {r : Int32} {S' : St} (hA : zans K (some (.int r), S')) {x4 : Int32} {x5 : Int32} {x6 : Int64} {x8 : Int32} {e : Int32 → St → Option (Int32 × St)} (he : ∀ (v : Int32) (S : St), e v S = some (r, S') → J K 218 [(0, .ref 122), (4, .int x4), (5, .int x5), (6, .long x6), (8, .int x8)] [] S) : ∀ (n : Nat) (v : Int32) (S : St), lp (f_X11_hints_158b x4 x5 x6 x8 e) n v S = some (r, S') → J K 158 [(0, .ref 122), (4, .int x4), (5, .int x5), (6, .long x6), (8, .int x8), (9, .int v)] [] S :=
  lp_J (P := fun (v : Int32) (S : St) => J K 158 [(0, .ref 122), (4, .int x4), (5, .int x5), (6, .long x6), (8, .int x8), (9, .int v)] [] S) (fun k hk v S hf => by
    unfold f_X11_hints_158b at hf
    refine j_iload hK dX11_hints_158 5 rfl ?_
    refine j_bipush hK (8 : Int32) dX11_hints_160 bi_8 ?_
    refine j_icmp_ge hK 218 dX11_hints_162 (by decide) (fun hc => ?_) (fun hc => ?_)
    · replace hf := if_1 hc hf
      refine j_sub [0, 1, 2, 3, 4] rfl ?_
      exact he _ _ hf
    · replace hf := if_2 hc hf
      refine j_aload_n hK dX11_hints_165 0 rfl rfl ?_
      refine j_getR hK fl_X11_110 dX11_hints_166 zo_122 zf_11_47 zr_122_47 ?_
      refine j_aload_n hK dX11_hints_169 0 rfl rfl ?_
      refine j_aload_n hK dX11_hints_170 0 rfl rfl ?_
      refine j_getR hK fl_X11_31 dX11_hints_171 zo_122 zf_11_7 zr_122_7 ?_
      refine j_aload_n hK dX11_hints_174 0 rfl rfl ?_
      refine j_getR hK fl_X11_55 dX11_hints_175 zo_122 zf_11_22 zr_122_22 ?_
      refine j_pc (pc' := 178) rfl ?_
      refine j_iload hK dX11_hints_178 4 rfl ?_
      obtain ⟨hi4, hf⟩ := gd hf
      refine k_iald hK dX11_hints_180 zb_134 hi4 rfl ?_
      refine j_aload_n hK dX11_hints_181 0 rfl rfl ?_
      refine j_getR hK fl_X11_58 dX11_hints_182 zo_122 zf_11_23 zr_122_23 ?_
      refine j_iload hK dX11_hints_185 4 rfl ?_
      obtain ⟨hi5, hf⟩ := gd hf
      refine k_zald hK dX11_hints_187 zb_135 hi5 rfl ?_
      refine j_iload hK dX11_hints_188 5 rfl ?_
      refine j_iconst hK (0 : Int32) dX11_hints_190 ic_0 ?_
      refine j_pc (pc' := 191) rfl ?_
      obtain ⟨r6, S7, h8, hf⟩ := bd_J hf
      refine k_callVi hK (c_X11_becomesBy zb_126 h8) dX11_hints_191 zclX11 zo_122 ml_X11_281 mi_X11_becomesBy mx_X11_becomesBy in_X11 mc_X11_becomesBy hy_X11_becomesBy ⟨by decide, by decide⟩ rfl (Nat.le_of_ble_eq_true rfl) ?_
      refine j_dup2 hK dX11_hints_194 rfl rfl ?_
      obtain ⟨hi9, hf⟩ := gd hf
      refine k_lald hK dX11_hints_195 zb_152 hi9 rfl ?_
      refine j_aload_n hK dX11_hints_196 0 rfl rfl ?_
      refine j_getR hK fl_X11_107 dX11_hints_197 zo_122 zf_11_46 zr_122_46 ?_
      refine j_iload hK dX11_hints_200 5 rfl ?_
      obtain ⟨hi10, hf⟩ := gd hf
      refine k_lald hK dX11_hints_202 zb_151 hi10 rfl ?_
      refine j_bipush hK (10 : Int32) dX11_hints_203 bi_10 ?_
      refine j_pc (pc' := 205) rfl ?_
      refine j_iload hK dX11_hints_205 2 rfl ?_
      refine j_isub hK dX11_hints_207 ?_
      refine j_i2l hK dX11_hints_208 ?_
      refine j_lmul hK dX11_hints_209 ?_
      refine j_ladd hK dX11_hints_210 ?_
      refine lt_L hf (fun y11 hf => ?_)
      obtain ⟨hi12, hf⟩ := gd hf
      refine k_last hK dX11_hints_211 zb_152 hi12 rfl ?_
      refine lt_S hf (fun S13 hf => ?_)
      refine j_iinc hK (L' := [(9, .int (v + (1 : Int32))), (0, .ref 122), (4, .int x4), (5, .int x5), (6, .long x6), (8, .int x8)]) dX11_hints_212 5 rfl (congrArg (fun y => v + y) ic_1) (by decide) rfl ?_
      refine j_goto hK 158 dX11_hints_215 (by decide) ?_
      refine j_sub [1, 2, 3, 4, 5, 0] rfl ?_
      exact hk _ _ hf)
def f_X11_hints_124b (x4 : Int32) (x5 : Int32) (x6 : Int64) (x8 : Int32) (e : Int32 → St → Option (Int32 × St)) (k : Int32 → St → Option (Int32 × St)) (v : Int32) (S : St) : Option (Int32 × St) := (if (8 : Int32) ≤ v then e v S else if inb v 8 then if inb v 8 then lt (sL S 152 v.toNatClampNeg ((gL S 151 v.toNatClampNeg) * x5.toInt64)) (fun S16 => k (v + (1 : Int32)) S16) else none else none)
theorem t_X11_hints_124 {K : CT} (hK : KO K cX11_hints RX11 10 141 (some .int)) {r : Int32} {S' : St} (hA : zans K (some (.int r), S')) {x4 : Int32} {x5 : Int32} {x6 : Int64} {x8 : Int32} {e : Int32 → St → Option (Int32 × St)} (he : ∀ (v : Int32) (S : St), e v S = some (r, S') → J K 155 [(0, .ref 122), (4, .int x4), (5, .int x5), (6, .long x6), (8, .int x8)] [] S) : ∀ (n : Nat) (v : Int32) (S : St), lp (f_X11_hints_124b x4 x5 x6 x8 e) n v S = some (r, S') → J K 124 [(0, .ref 122), (4, .int x4), (5, .int x5), (6, .long x6), (8, .int x8), (9, .int v)] [] S :=
  lp_J (P := fun (v : Int32) (S : St) => J K 124 [(0, .ref 122), (4, .int x4), (5, .int x5), (6, .long x6), (8, .int x8), (9, .int v)] [] S) (fun k hk v S hf => by
    unfold f_X11_hints_124b at hf
    refine j_iload hK dX11_hints_124 5 rfl ?_
    refine j_bipush hK (8 : Int32) dX11_hints_126 bi_8 ?_
    refine j_icmp_ge hK 155 dX11_hints_128 (by decide) (fun hc => ?_) (fun hc => ?_)
    · replace hf := if_1 hc hf
      refine j_sub [0, 1, 2, 3, 4] rfl ?_
      exact he _ _ hf
    · replace hf := if_2 hc hf
      refine j_aload_n hK dX11_hints_131 0 rfl rfl ?_
      refine j_getR hK fl_X11_110 dX11_hints_132 zo_122 zf_11_47 zr_122_47 ?_
      refine j_iload hK dX11_hints_135 5 rfl ?_
      refine j_aload_n hK dX11_hints_137 0 rfl rfl ?_
      refine j_getR hK fl_X11_107 dX11_hints_138 zo_122 zf_11_46 zr_122_46 ?_
      refine j_iload hK dX11_hints_141 5 rfl ?_
      obtain ⟨hi14, hf⟩ := gd hf
      refine k_lald hK dX11_hints_143 zb_151 hi14 rfl ?_
      refine j_pc (pc' := 144) rfl ?_
      refine j_iload hK dX11_hints_144 2 rfl ?_
      refine j_i2l hK dX11_hints_146 ?_
      refine j_lmul hK dX11_hints_147 ?_
      obtain ⟨hi15, hf⟩ := gd hf
      refine k_last hK dX11_hints_148 zb_152 hi15 rfl ?_
      refine lt_S hf (fun S16 hf => ?_)
      refine j_iinc hK (L' := [(9, .int (v + (1 : Int32))), (0, .ref 122), (4, .int x4), (5, .int x5), (6, .long x6), (8, .int x8)]) dX11_hints_149 5 rfl (congrArg (fun y => v + y) ic_1) (by decide) rfl ?_
      refine j_goto hK 124 dX11_hints_152 (by decide) ?_
      refine j_sub [1, 2, 3, 4, 5, 0] rfl ?_
      exact hk _ _ hf)
def f_X11_hints_112b (x4 : Int32) (x5 : Int32) (e : Int64 × Int32 → St → Option (Int32 × St)) (k : Int64 × Int32 → St → Option (Int32 × St)) (v : Int64 × Int32) (S : St) : Option (Int32 × St) := (if (gI S 122 24) ≤ v.2 then e (v.1, v.2) S else lp (f_X11_hints_124b x4 x5 v.1 v.2 (fun v17 S18 => lp (f_X11_hints_158b x4 x5 v.1 v.2 (fun v19 S20 => lp (f_X11_hints_221b x4 x5 v.1 v.2 (fun v21 S22 => lt (v.1 * (10 : Int64)) (fun y23 => k (y23, (v.2 + (1 : Int32))) S22))) FU (0 : Int32) S20)) FU (0 : Int32) S18)) FU (0 : Int32) S)
theorem t_X11_hints_112 {K : CT} (hK : KO K cX11_hints RX11 10 141 (some .int)) {r : Int32} {S' : St} (hA : zans K (some (.int r), S')) {x4 : Int32} {x5 : Int32} {e : Int64 × Int32 → St → Option (Int32 × St)} (he : ∀ (v : Int64 × Int32) (S : St), e v S = some (r, S') → J K 262 [(0, .ref 122), (4, .int x4), (6, .long v.1)] [] S) : ∀ (n : Nat) (v : Int64 × Int32) (S : St), lp (f_X11_hints_112b x4 x5 e) n v S = some (r, S') → J K 112 [(0, .ref 122), (4, .int x4), (5, .int x5), (6, .long v.1), (8, .int v.2)] [] S :=
  lp_J (P := fun (v : Int64 × Int32) (S : St) => J K 112 [(0, .ref 122), (4, .int x4), (5, .int x5), (6, .long v.1), (8, .int v.2)] [] S) (fun k hk v S hf => by
    unfold f_X11_hints_112b at hf
    refine j_iload hK dX11_hints_112 4 rfl ?_
    refine j_aload_n hK dX11_hints_114 0 rfl rfl ?_
    refine j_getI hK fl_X11_269 dX11_hints_115 zo_122 zf_11_24 ?_
    refine j_icmp_ge hK 262 dX11_hints_118 (by decide) (fun hc => ?_) (fun hc => ?_)
    · replace hf := if_1 hc hf
      refine j_sub [0, 1, 3] rfl ?_
      exact he _ _ hf
    · replace hf := if_2 hc hf
      refine j_iconst hK (0 : Int32) dX11_hints_121 ic_0 ?_
      refine j_istore hK (L' := [(9, .int (0 : Int32)), (0, .ref 122), (4, .int x4), (5, .int x5), (6, .long v.1), (8, .int v.2)]) dX11_hints_122 (by decide) rfl ?_
      refine j_sub [1, 2, 3, 4, 5, 0] rfl ?_
      refine t_X11_hints_124 hK hA  (fun v17 S18 hf => ?_) _ _ _ hf
      refine j_iconst hK (0 : Int32) dX11_hints_155 ic_0 ?_
      refine j_istore hK (L' := [(9, .int (0 : Int32)), (0, .ref 122), (4, .int x4), (5, .int x5), (6, .long v.1), (8, .int v.2)]) dX11_hints_156 (by decide) rfl ?_
      refine j_sub [1, 2, 3, 4, 5, 0] rfl ?_
      refine t_X11_hints_158 hK hA  (fun v19 S20 hf => ?_) _ _ _ hf
      refine j_iconst hK (0 : Int32) dX11_hints_218 ic_0 ?_
      refine j_istore hK (L' := [(9, .int (0 : Int32)), (0, .ref 122), (4, .int x4), (5, .int x5), (6, .long v.1), (8, .int v.2)]) dX11_hints_219 (by decide) rfl ?_
      refine j_sub [1, 2, 3, 4, 5, 0] rfl ?_
      refine t_X11_hints_221 hK hA  (fun v21 S22 hf => ?_) _ _ _ hf
      refine j_lload hK dX11_hints_248 3 rfl ?_
      refine j_ldc2 hK (v := (10 : Int64)) cl_X11_427 dX11_hints_250 ?_
      refine j_lmul hK dX11_hints_253 ?_
      refine lt_L hf (fun y23 hf => ?_)
      refine j_lstore hK (L' := [(6, .long y23), (0, .ref 122), (4, .int x4), (5, .int x5), (8, .int v.2)]) dX11_hints_254 (by decide) rfl ?_
      refine j_iinc hK (L' := [(8, .int (v.2 + (1 : Int32))), (6, .long y23), (0, .ref 122), (4, .int x4), (5, .int x5)]) dX11_hints_256 4 rfl (congrArg (fun y => v.2 + y) ic_1) (by decide) rfl ?_
      refine j_goto hK 112 dX11_hints_259 (by decide) ?_
      refine j_sub [2, 3, 4, 1, 0] rfl ?_
      exact hk _ _ hf)
def f_X11_hints_98 (x3 : Int32) (x4 : Int32) (x5 : Int32) (x6 : Int64) (x8 : Int32) (s1 : Int32) (s2 : Int32) (k e : Int32 → St → Option (Int32 × St)) (S : St) : Option (Int32 × St) := bd (f_X11_flag s2 S) (fun r24 S25 => if inb s1 8 then lt (sL S25 151 s1.toNatClampNeg r24.toInt64) (fun S28 => k (x8 + (1 : Int32)) S28) else none)
theorem t_X11_hints_98 {K : CT} (hK : KO K cX11_hints RX11 10 141 (some .int)) {r : Int32} {S' : St} (hA : zans K (some (.int r), S')) {x3 : Int32} {x4 : Int32} {x5 : Int32} {x6 : Int64} {x8 : Int32} {s1 : Int32} {s2 : Int32} {k e : Int32 → St → Option (Int32 × St)} (hk : ∀ (v : Int32) (S : St), k v S = some (r, S') → J K 74 [(0, .ref 122), (3, .int x3), (4, .int x4), (5, .int x5), (6, .long x6), (8, .int v)] [] S) (he : ∀ (v : Int32) (S : St), e v S = some (r, S') → J K 109 [(0, .ref 122), (4, .int x4), (5, .int x5), (6, .long x6)] [] S) {S : St} (hf : f_X11_hints_98 x3 x4 x5 x6 x8 s1 s2 k e S = some (r, S')) : J K 98 [(0, .ref 122), (3, .int x3), (4, .int x4), (5, .int x5), (6, .long x6), (8, .int x8)] [.int s2, .int s1, .ref 151] S := by
  unfold f_X11_hints_98 at hf
  obtain ⟨r24, S25, h26, hf⟩ := bd_J hf
  refine k_callSi hK (c_X11_flag h26) dX11_hints_98 ml_X11_155 ms_X11_flag in_X11 mc_X11_flag hy_X11_flag ⟨by decide, by decide⟩ rfl (Nat.le_of_ble_eq_true rfl) ?_
  refine j_i2l hK dX11_hints_101 ?_
  obtain ⟨hi27, hf⟩ := gd hf
  refine k_last hK dX11_hints_102 zb_151 hi27 rfl ?_
  refine lt_S hf (fun S28 hf => ?_)
  refine j_iinc hK (L' := [(8, .int (x8 + (1 : Int32))), (0, .ref 122), (3, .int x3), (4, .int x4), (5, .int x5), (6, .long x6)]) dX11_hints_103 5 rfl (congrArg (fun y => x8 + y) ic_1) (by decide) rfl ?_
  refine j_goto hK 74 dX11_hints_106 (by decide) ?_
  refine j_sub [1, 2, 3, 4, 5, 0] rfl ?_
  exact hk _ _ hf
def f_X11_hints_74b (x3 : Int32) (x4 : Int32) (x5 : Int32) (x6 : Int64) (e : Int32 → St → Option (Int32 × St)) (k : Int32 → St → Option (Int32 × St)) (v : Int32) (S : St) : Option (Int32 × St) := (if (8 : Int32) ≤ v then e v S else (if v = x3 then f_X11_hints_98 x3 x4 x5 x6 v v (1 : Int32) k e S else f_X11_hints_98 x3 x4 x5 x6 v v (0 : Int32) k e S))
theorem t_X11_hints_74 {K : CT} (hK : KO K cX11_hints RX11 10 141 (some .int)) {r : Int32} {S' : St} (hA : zans K (some (.int r), S')) {x3 : Int32} {x4 : Int32} {x5 : Int32} {x6 : Int64} {e : Int32 → St → Option (Int32 × St)} (he : ∀ (v : Int32) (S : St), e v S = some (r, S') → J K 109 [(0, .ref 122), (4, .int x4), (5, .int x5), (6, .long x6)] [] S) : ∀ (n : Nat) (v : Int32) (S : St), lp (f_X11_hints_74b x3 x4 x5 x6 e) n v S = some (r, S') → J K 74 [(0, .ref 122), (3, .int x3), (4, .int x4), (5, .int x5), (6, .long x6), (8, .int v)] [] S :=
  lp_J (P := fun (v : Int32) (S : St) => J K 74 [(0, .ref 122), (3, .int x3), (4, .int x4), (5, .int x5), (6, .long x6), (8, .int v)] [] S) (fun k hk v S hf => by
    unfold f_X11_hints_74b at hf
    refine j_iload hK dX11_hints_74 5 rfl ?_
    refine j_bipush hK (8 : Int32) dX11_hints_76 bi_8 ?_
    refine j_icmp_ge hK 109 dX11_hints_78 (by decide) (fun hc => ?_) (fun hc => ?_)
    · replace hf := if_1 hc hf
      refine j_sub [0, 2, 3, 4] rfl ?_
      exact he _ _ hf
    · replace hf := if_2 hc hf
      refine j_aload_n hK dX11_hints_81 0 rfl rfl ?_
      refine j_getR hK fl_X11_107 dX11_hints_82 zo_122 zf_11_46 zr_122_46 ?_
      refine j_iload hK dX11_hints_85 5 rfl ?_
      refine j_iload hK dX11_hints_87 5 rfl ?_
      refine j_iload_n hK dX11_hints_89 1 rfl rfl ?_
      refine j_icmp_ne hK 97 dX11_hints_90 (by decide) (fun hc => ?_) (fun hc => ?_)
      · replace hf := if_2 hc hf
        refine j_iconst hK (0 : Int32) dX11_hints_97 ic_0 ?_
        exact t_X11_hints_98 hK hA hk he hf
      · replace hf := if_1 hc hf
        refine j_iconst hK (1 : Int32) dX11_hints_93 ic_1 ?_
        refine j_goto hK 98 dX11_hints_94 (by decide) ?_
        exact t_X11_hints_98 hK hA hk he hf)
def f_X11_hints (p1 : Int32) (p2 : Int32) (p3 : Int32) (p4 : Int32) (p5 : Int32) (S : St) : Option (Int32 × St) := lt (sI S 122 0 (0 : Int32)) (fun S29 => bd (f_X11_isEcho 126 p1 p2 S29) (fun r30 S31 => (if r30 = 0 then some ((-1 : Int32), S31) else bd (f_X11_in p3.toInt64 (0 : Int64) (7 : Int64) S31) (fun r33 S34 => (if r33 = 0 then some ((-1 : Int32), S34) else bd (f_X11_in p4.toInt64 (0 : Int64) (7 : Int64) S34) (fun r36 S37 => (if r36 = 0 then some ((-1 : Int32), S37) else bd (f_X11_in p5.toInt64 (0 : Int64) (10 : Int64) S37) (fun r39 S40 => (if r39 = 0 then some ((-1 : Int32), S40) else bd (f_X11_laysEcho 126 p1 p2 S40) (fun r42 S43 => lp (f_X11_hints_74b p3 p4 p5 (1 : Int64) (fun v45 S46 => lp (f_X11_hints_112b p4 p5 (fun v47 S48 => if inb p4 8 then bd (F_X11_common 100 (gL S48 151 p4.toNatClampNeg) v47.1 S48) (fun r50 S51 => lt (sI S51 122 1 (0 : Int32)) (fun S53 => if inb p4 8 then if ¬ r50 = 0 then bd (f_X11_enters ((gL S53 151 p4.toNatClampNeg) / r50) S53) (fun r56 S57 => if ¬ r50 = 0 then bd (f_X11_enters (v47.1 / r50) S57) (fun r60 S61 => some ((0 : Int32), S61)) else none) else none else none)) else none)) FU ((1 : Int64), (0 : Int32)) S46)) FU (0 : Int32) S43))))))))))
theorem c_X11_hints {p1 : Int32} {p2 : Int32} {p3 : Int32} {p4 : Int32} {p5 : Int32} {S : St} {r : Int32} {S' : St} (hf : f_X11_hints p1 p2 p3 p4 p5 S = some (r, S')) : zM yX11_hints cX11_hints 10 141 (some .int) [.ref 122, .int p1, .int p2, .int p3, .int p4, .int p5] S (some (.int r)) S' := by
  refine zM_of (zpl (by decide)) (Nat.le_of_ble_eq_true rfl) rfl (fun K hK hA => ?_)
  unfold f_X11_hints at hf
  refine j_aload_n hK dX11_hints_0 0 rfl rfl ?_
  refine j_iconst hK (0 : Int32) dX11_hints_1 ic_0 ?_
  refine j_putI hK fl_X11_3 dX11_hints_2 zo_122 zf_11_0 ?_
  refine lt_S hf (fun S29 hf => ?_)
  refine j_aload_n hK dX11_hints_5 0 rfl rfl ?_
  refine j_aload_n hK dX11_hints_6 0 rfl rfl ?_
  refine j_getR hK fl_X11_31 dX11_hints_7 zo_122 zf_11_7 zr_122_7 ?_
  refine j_iload_n hK dX11_hints_10 1 rfl rfl ?_
  refine j_iload_n hK dX11_hints_11 2 rfl rfl ?_
  refine j_pc (pc' := 12) rfl ?_
  obtain ⟨r30, S31, h32, hf⟩ := bd_J hf
  refine k_callVi hK (c_X11_isEcho zb_126 h32) dX11_hints_12 zclX11 zo_122 ml_X11_326 mi_X11_isEcho mx_X11_isEcho in_X11 mc_X11_isEcho hy_X11_isEcho ⟨by decide, by decide⟩ rfl (Nat.le_of_ble_eq_true rfl) ?_
  refine j_if_eq hK 56 dX11_hints_15 (by decide) (fun hc => ?_) (fun hc => ?_)
  · replace hf := if_1 hc hf
    refine j_iconst hK (-1 : Int32) dX11_hints_56 ic_m1 ?_
    exact j_iret hK dX11_hints_57 rfl (rt_I hA hf)
  · replace hf := if_2 hc hf
    refine j_iload_n hK dX11_hints_18 3 rfl rfl ?_
    refine j_i2l hK dX11_hints_19 ?_
    refine j_lconst hK (0 : Int64) dX11_hints_20 lc_0 ?_
    refine j_ldc2 hK (v := (7 : Int64)) cl_X11_135 dX11_hints_21 ?_
    obtain ⟨r33, S34, h35, hf⟩ := bd_J hf
    refine k_callSi hK (c_X11_in h35) dX11_hints_24 ml_X11_131 ms_X11_in in_X11 mc_X11_in hy_X11_in ⟨by decide, by decide⟩ rfl (Nat.le_of_ble_eq_true rfl) ?_
    refine j_if_eq hK 56 dX11_hints_27 (by decide) (fun hc => ?_) (fun hc => ?_)
    · replace hf := if_1 hc hf
      refine j_iconst hK (-1 : Int32) dX11_hints_56 ic_m1 ?_
      exact j_iret hK dX11_hints_57 rfl (rt_I hA hf)
    · replace hf := if_2 hc hf
      refine j_iload hK dX11_hints_30 4 rfl ?_
      refine j_i2l hK dX11_hints_32 ?_
      refine j_lconst hK (0 : Int64) dX11_hints_33 lc_0 ?_
      refine j_ldc2 hK (v := (7 : Int64)) cl_X11_135 dX11_hints_34 ?_
      obtain ⟨r36, S37, h38, hf⟩ := bd_J hf
      refine k_callSi hK (c_X11_in h38) dX11_hints_37 ml_X11_131 ms_X11_in in_X11 mc_X11_in hy_X11_in ⟨by decide, by decide⟩ rfl (Nat.le_of_ble_eq_true rfl) ?_
      refine j_if_eq hK 56 dX11_hints_40 (by decide) (fun hc => ?_) (fun hc => ?_)
      · replace hf := if_1 hc hf
        refine j_iconst hK (-1 : Int32) dX11_hints_56 ic_m1 ?_
        exact j_iret hK dX11_hints_57 rfl (rt_I hA hf)
      · replace hf := if_2 hc hf
        refine j_iload hK dX11_hints_43 5 rfl ?_
        refine j_i2l hK dX11_hints_45 ?_
        refine j_lconst hK (0 : Int64) dX11_hints_46 lc_0 ?_
        refine j_ldc2 hK (v := (10 : Int64)) cl_X11_427 dX11_hints_47 ?_
        obtain ⟨r39, S40, h41, hf⟩ := bd_J hf
        refine k_callSi hK (c_X11_in h41) dX11_hints_50 ml_X11_131 ms_X11_in in_X11 mc_X11_in hy_X11_in ⟨by decide, by decide⟩ rfl (Nat.le_of_ble_eq_true rfl) ?_
        refine j_if_ne hK 58 dX11_hints_53 (by decide) (fun hc => ?_) (fun hc => ?_)
        · replace hf := if_2 hc hf
          refine j_aload_n hK dX11_hints_58 0 rfl rfl ?_
          refine j_aload_n hK dX11_hints_59 0 rfl rfl ?_
          refine j_getR hK fl_X11_31 dX11_hints_60 zo_122 zf_11_7 zr_122_7 ?_
          refine j_iload_n hK dX11_hints_63 1 rfl rfl ?_
          refine j_iload_n hK dX11_hints_64 2 rfl rfl ?_
          obtain ⟨r42, S43, h44, hf⟩ := bd_J hf
          refine k_callVv hK (c_X11_laysEcho zb_126 h44) dX11_hints_65 zclX11 zo_122 ml_X11_336 mi_X11_laysEcho mx_X11_laysEcho in_X11 mc_X11_laysEcho hy_X11_laysEcho ⟨by decide, by decide⟩ rfl (Nat.le_of_ble_eq_true rfl) ?_
          refine j_lconst hK (1 : Int64) dX11_hints_68 lc_1 ?_
          refine j_pc (pc' := 69) rfl ?_
          refine j_lstore hK (L' := [(6, .long (1 : Int64)), (0, .ref 122), (1, .int p1), (2, .int p2), (3, .int p3), (4, .int p4), (5, .int p5)]) dX11_hints_69 (by decide) rfl ?_
          refine j_iconst hK (0 : Int32) dX11_hints_71 ic_0 ?_
          refine j_istore hK (L' := [(8, .int (0 : Int32)), (6, .long (1 : Int64)), (0, .ref 122), (1, .int p1), (2, .int p2), (3, .int p3), (4, .int p4), (5, .int p5)]) dX11_hints_72 (by decide) rfl ?_
          refine j_sub [2, 5, 6, 7, 1, 0] rfl ?_
          refine t_X11_hints_74 hK hA  (fun v45 S46 hf => ?_) _ _ _ hf
          refine j_iconst hK (0 : Int32) dX11_hints_109 ic_0 ?_
          refine j_istore hK (L' := [(8, .int (0 : Int32)), (0, .ref 122), (4, .int p4), (5, .int p5), (6, .long (1 : Int64))]) dX11_hints_110 (by decide) rfl ?_
          refine j_sub [1, 2, 3, 4, 0] rfl ?_
          refine t_X11_hints_112 hK hA  (fun v47 S48 hf => ?_) _ _ _ hf
          refine j_aload_n hK dX11_hints_262 0 rfl rfl ?_
          refine j_getR hK fl_X11_107 dX11_hints_263 zo_122 zf_11_46 zr_122_46 ?_
          refine j_iload hK dX11_hints_266 1 rfl ?_
          obtain ⟨hi49, hf⟩ := gd hf
          refine k_lald hK dX11_hints_268 zb_151 hi49 rfl ?_
          refine j_lload hK dX11_hints_269 2 rfl ?_
          obtain ⟨r50, S51, h52, hf⟩ := bd_J hf
          refine k_callSl hK (C_X11_common 100 h52) dX11_hints_271 ml_X11_7 ms_X11_common in_X11 mc_X11_common hy_X11_common ⟨by decide, by decide⟩ rfl (Nat.le_of_ble_eq_true rfl) ?_
          refine j_lstore hK (L' := [(8, .long r50), (0, .ref 122), (4, .int p4), (6, .long v47.1)]) dX11_hints_274 (by decide) rfl ?_
          refine j_pc (pc' := 276) rfl ?_
          refine j_aload_n hK dX11_hints_276 1 rfl rfl ?_
          refine j_iconst hK (0 : Int32) dX11_hints_277 ic_0 ?_
          refine j_putI hK fl_X11_15 dX11_hints_278 zo_122 zf_11_1 ?_
          refine lt_S hf (fun S53 hf => ?_)
          refine j_aload_n hK dX11_hints_281 1 rfl rfl ?_
          refine j_aload_n hK dX11_hints_282 1 rfl rfl ?_
          refine j_getR hK fl_X11_107 dX11_hints_283 zo_122 zf_11_46 zr_122_46 ?_
          refine j_iload hK dX11_hints_286 2 rfl ?_
          obtain ⟨hi54, hf⟩ := gd hf
          refine k_lald hK dX11_hints_288 zb_151 hi54 rfl ?_
          refine j_pc (pc' := 289) rfl ?_
          refine j_lload hK dX11_hints_289 0 rfl ?_
          obtain ⟨hn55, hf⟩ := gd hf
          refine j_ldiv hK dX11_hints_291 hn55 ?_
          obtain ⟨r56, S57, h58, hf⟩ := bd_J hf
          refine k_callVv hK (c_X11_enters h58) dX11_hints_292 zclX11 zo_122 ml_X11_340 mi_X11_enters mx_X11_enters in_X11 mc_X11_enters hy_X11_enters ⟨by decide, by decide⟩ rfl (Nat.le_of_ble_eq_true rfl) ?_
          refine j_aload_n hK dX11_hints_295 1 rfl rfl ?_
          refine j_lload hK dX11_hints_296 3 rfl ?_
          refine j_lload hK dX11_hints_298 0 rfl ?_
          obtain ⟨hn59, hf⟩ := gd hf
          refine j_ldiv hK dX11_hints_300 hn59 ?_
          obtain ⟨r60, S61, h62, hf⟩ := bd_J hf
          refine k_callVv hK (c_X11_enters h62) dX11_hints_301 zclX11 zo_122 ml_X11_340 mi_X11_enters mx_X11_enters in_X11 mc_X11_enters hy_X11_enters ⟨by decide, by decide⟩ rfl (Nat.le_of_ble_eq_true rfl) ?_
          refine j_pc (pc' := 304) rfl ?_
          refine j_iconst hK (0 : Int32) dX11_hints_304 ic_0 ?_
          exact j_iret hK dX11_hints_305 rfl (rt_I hA hf)
        · replace hf := if_1 hc hf
          refine j_iconst hK (-1 : Int32) dX11_hints_56 ic_m1 ?_
          exact j_iret hK dX11_hints_57 rfl (rt_I hA hf)
