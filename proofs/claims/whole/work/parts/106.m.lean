def f_X1_add_31 (x1 : Int32) (x2 : Int32) (x3 : Int32) (s0 : Int32) (S : St) : Option (Int32 × St) := (if x1 < 0 then some ((0 : Int32), S) else (if (4 : Int32) < x1 then some ((0 : Int32), S) else (if x2 < x3 then some ((0 : Int32), S) else (if s0 < x2 then some ((0 : Int32), S) else (if (gI S 101 3) < (12 : Int32) then if inb (gI S 101 3) 12 then lt (sI S 102 (gI S 101 3).toNatClampNeg x1) (fun S2 => if inb (gI S2 101 3) 12 then lt (sI S2 103 (gI S2 101 3).toNatClampNeg x2) (fun S4 => lt (sI S4 101 3 ((gI S4 101 3) + (1 : Int32))) (fun S5 => some ((1 : Int32), S5))) else none) else none else some ((0 : Int32), S))))))
theorem t_X1_add_31 {K : CT} (hK : KO K cX1_add RX1 5 1 (some .boolean)) {r : Int32} {S' : St} (hA : zans K = (some (.int r), S')) {x1 : Int32} {x2 : Int32} {x3 : Int32} {s0 : Int32} {S : St} (hf : f_X1_add_31 x1 x2 x3 s0 S = some (r, S')) : J K 31 [(0, .ref 101), (1, .int x1), (2, .int x2), (3, .int x3)] [.int s0] S := by
  unfold f_X1_add_31 at hf
  refine j_istore hK (L' := [(4, .int s0), (0, .ref 101), (1, .int x1), (2, .int x2), (3, .int x3)]) dX1_add_31 (by decide) rfl ?_
  refine j_iload_n hK dX1_add_33 2 rfl rfl ?_
  refine j_if_lt hK 62 dX1_add_34 (by decide) (fun hc => ?_) (fun hc => ?_)
  · replace hf := if_1 hc hf
    refine j_iconst hK (0 : Int32) dX1_add_62 ic_0 ?_
    exact j_zret hK dX1_add_63 rfl rfl (rt_I hA hf)
  · replace hf := if_2 hc hf
    refine j_iload_n hK dX1_add_37 2 rfl rfl ?_
    refine j_iconst hK (4 : Int32) dX1_add_38 ic_4 ?_
    refine j_icmp_gt hK 62 dX1_add_39 (by decide) (fun hc => ?_) (fun hc => ?_)
    · replace hf := if_1 hc hf
      refine j_iconst hK (0 : Int32) dX1_add_62 ic_0 ?_
      exact j_zret hK dX1_add_63 rfl rfl (rt_I hA hf)
    · replace hf := if_2 hc hf
      refine j_iload_n hK dX1_add_42 3 rfl rfl ?_
      refine j_iload_n hK dX1_add_43 4 rfl rfl ?_
      refine j_icmp_lt hK 62 dX1_add_44 (by decide) (fun hc => ?_) (fun hc => ?_)
      · replace hf := if_1 hc hf
        refine j_iconst hK (0 : Int32) dX1_add_62 ic_0 ?_
        exact j_zret hK dX1_add_63 rfl rfl (rt_I hA hf)
      · replace hf := if_2 hc hf
        refine j_iload_n hK dX1_add_47 3 rfl rfl ?_
        refine j_iload hK dX1_add_48 0 rfl ?_
        refine j_icmp_gt hK 62 dX1_add_50 (by decide) (fun hc => ?_) (fun hc => ?_)
        · replace hf := if_1 hc hf
          refine j_iconst hK (0 : Int32) dX1_add_62 ic_0 ?_
          exact j_zret hK dX1_add_63 rfl rfl (rt_I hA hf)
        · replace hf := if_2 hc hf
          refine j_aload_n hK dX1_add_53 1 rfl rfl ?_
          refine j_getI hK fl_X1_22 dX1_add_54 zo_101 zf_1_3 ?_
          refine j_bipush hK (12 : Int32) dX1_add_57 bi_12 ?_
          refine j_icmp_lt hK 64 dX1_add_59 (by decide) (fun hc => ?_) (fun hc => ?_)
          · replace hf := if_1 hc hf
            refine j_aload_n hK dX1_add_64 1 rfl rfl ?_
            refine j_getR hK fl_X1_15 dX1_add_65 zo_101 zf_1_1 zr_101_1 ?_
            refine j_aload_n hK dX1_add_68 1 rfl rfl ?_
            refine j_getI hK fl_X1_22 dX1_add_69 zo_101 zf_1_3 ?_
            refine j_iload_n hK dX1_add_72 2 rfl rfl ?_
            obtain ⟨hi1, hf⟩ := gd hf
            refine k_iast hK dX1_add_73 zb_102 hi1 rfl ?_
            refine lt_S hf (fun S2 hf => ?_)
            refine j_aload_n hK dX1_add_74 1 rfl rfl ?_
            refine j_pc (pc' := 75) rfl ?_
            refine j_getR hK fl_X1_19 dX1_add_75 zo_101 zf_1_2 zr_101_2 ?_
            refine j_aload_n hK dX1_add_78 1 rfl rfl ?_
            refine j_getI hK fl_X1_22 dX1_add_79 zo_101 zf_1_3 ?_
            refine j_iload_n hK dX1_add_82 3 rfl rfl ?_
            obtain ⟨hi3, hf⟩ := gd hf
            refine k_iast hK dX1_add_83 zb_103 hi3 rfl ?_
            refine lt_S hf (fun S4 hf => ?_)
            refine j_aload_n hK dX1_add_84 1 rfl rfl ?_
            refine j_dup hK dX1_add_85 rfl ?_
            refine j_getI hK fl_X1_22 dX1_add_86 zo_101 zf_1_3 ?_
            refine j_pc (pc' := 89) rfl ?_
            refine j_iconst hK (1 : Int32) dX1_add_89 ic_1 ?_
            refine j_iadd hK dX1_add_90 ?_
            refine j_putI hK fl_X1_22 dX1_add_91 zo_101 zf_1_3 ?_
            refine lt_S hf (fun S5 hf => ?_)
            refine j_iconst hK (1 : Int32) dX1_add_94 ic_1 ?_
            exact j_zret hK dX1_add_95 rfl rfl (rt_I hA hf)
          · replace hf := if_2 hc hf
            refine j_iconst hK (0 : Int32) dX1_add_62 ic_0 ?_
            exact j_zret hK dX1_add_63 rfl rfl (rt_I hA hf)
def f_X1_add_9 (x1 : Int32) (x2 : Int32) (s0 : Int32) (S : St) : Option (Int32 × St) := (if x1 = (1 : Int32) then f_X1_add_31 x1 x2 s0 (7 : Int32) S else (if x1 = (3 : Int32) then f_X1_add_31 x1 x2 s0 (1 : Int32) S else f_X1_add_31 x1 x2 s0 (9 : Int32) S))
theorem t_X1_add_9 {K : CT} (hK : KO K cX1_add RX1 5 1 (some .boolean)) {r : Int32} {S' : St} (hA : zans K = (some (.int r), S')) {x1 : Int32} {x2 : Int32} {s0 : Int32} {S : St} (hf : f_X1_add_9 x1 x2 s0 S = some (r, S')) : J K 9 [(0, .ref 101), (1, .int x1), (2, .int x2)] [.int s0] S := by
  unfold f_X1_add_9 at hf
  refine j_istore_n hK (L' := [(3, .int s0), (0, .ref 101), (1, .int x1), (2, .int x2)]) dX1_add_9 rfl (by decide) rfl ?_
  refine j_iload_n hK dX1_add_10 2 rfl rfl ?_
  refine j_iconst hK (1 : Int32) dX1_add_11 ic_1 ?_
  refine j_icmp_ne hK 20 dX1_add_12 (by decide) (fun hc => ?_) (fun hc => ?_)
  · replace hf := if_2 hc hf
    refine j_iload_n hK dX1_add_20 2 rfl rfl ?_
    refine j_iconst hK (3 : Int32) dX1_add_21 ic_3 ?_
    refine j_icmp_ne hK 29 dX1_add_22 (by decide) (fun hc => ?_) (fun hc => ?_)
    · replace hf := if_2 hc hf
      refine j_bipush hK (9 : Int32) dX1_add_29 bi_9 ?_
      refine j_sub [1, 2, 3, 0] rfl ?_
      exact t_X1_add_31 hK hA  hf
    · replace hf := if_1 hc hf
      refine j_iconst hK (1 : Int32) dX1_add_25 ic_1 ?_
      refine j_goto hK 31 dX1_add_26 (by decide) ?_
      refine j_sub [1, 2, 3, 0] rfl ?_
      exact t_X1_add_31 hK hA  hf
  · replace hf := if_1 hc hf
    refine j_bipush hK (7 : Int32) dX1_add_15 bi_7 ?_
    refine j_goto hK 31 dX1_add_17 (by decide) ?_
    refine j_sub [1, 2, 3, 0] rfl ?_
    exact t_X1_add_31 hK hA  hf
def f_X1_add (p1 : Int32) (p2 : Int32) (S : St) : Option (Int32 × St) := (if p1 = 0 then f_X1_add_9 p1 p2 (1 : Int32) S else f_X1_add_9 p1 p2 (0 : Int32) S)
theorem c_X1_add {p1 : Int32} {p2 : Int32} {S : St} {r : Int32} {S' : St} (hf : f_X1_add p1 p2 S = some (r, S')) : zM yX1_add cX1_add 5 1 (some .boolean) [.ref 101, .int p1, .int p2] S (some (.int r)) S' := by
  refine zM_of (zpl (by decide)) (Nat.le_of_ble_eq_true rfl) rfl (fun K hK hA => ?_)
  unfold f_X1_add at hf
  refine j_iload_n hK dX1_add_0 1 rfl rfl ?_
  refine j_if_ne hK 8 dX1_add_1 (by decide) (fun hc => ?_) (fun hc => ?_)
  · replace hf := if_2 hc hf
    refine j_iconst hK (0 : Int32) dX1_add_8 ic_0 ?_
    exact t_X1_add_9 hK hA  hf
  · replace hf := if_1 hc hf
    refine j_iconst hK (1 : Int32) dX1_add_4 ic_1 ?_
    refine j_goto hK 9 dX1_add_5 (by decide) ?_
    exact t_X1_add_9 hK hA  hf
def f_X10_told (p1 : Int32) (p2 : Int32) (S : St) : Option (Int32 × St) := bd (f_X1_add p1 p2 S) (fun r1 S2 => (if r1 = 0 then some ((-1 : Int32), S2) else some ((gI S2 101 3), S2)))
theorem c_X10_told {p1 : Int32} {p2 : Int32} {S : St} {r : Int32} {S' : St} (hf : f_X10_told p1 p2 S = some (r, S')) : zM yX10_told cX10_told 3 2 (some .int) [.ref 0, .int p1, .int p2] S (some (.int r)) S' := by
  refine zM_of (zpl (by decide)) (Nat.le_of_ble_eq_true rfl) rfl (fun K hK hA => ?_)
  unfold f_X10_told at hf
  refine j_aload_n hK dX10_told_0 0 rfl rfl ?_
  refine j_getR hK fl_X10_56 dX10_told_1 zo_0 zf_10_6 zr_0_6 ?_
  refine j_iload_n hK dX10_told_4 1 rfl rfl ?_
  refine j_iload_n hK dX10_told_5 2 rfl rfl ?_
  obtain ⟨r1, S2, h3, hf⟩ := bd_J hf
  refine k_callVi hK (c_X1_add h3) dX10_told_6 zclX1 zo_101 ml_X10_340 mi_X1_add mx_X1_add in_X1 mc_X1_add hy_X1_add ⟨by decide, by decide⟩ rfl (Nat.le_of_ble_eq_true rfl) ?_
  refine j_if_eq hK 22 dX10_told_9 (by decide) (fun hc => ?_) (fun hc => ?_)
  · replace hf := if_1 hc hf
    refine j_iconst hK (-1 : Int32) dX10_told_22 ic_m1 ?_
    exact j_iret hK dX10_told_23 rfl (rt_I hA hf)
  · replace hf := if_2 hc hf
    refine j_aload_n hK dX10_told_12 0 rfl rfl ?_
    refine j_getR hK fl_X10_56 dX10_told_13 zo_0 zf_10_6 zr_0_6 ?_
    refine j_getI hK fl_X10_342 dX10_told_16 zo_101 zf_1_3 ?_
    refine j_goto hK 23 dX10_told_19 (by decide) ?_
    exact j_iret hK dX10_told_23 rfl (rt_I hA hf)
def f_X10_forget (S : St) : Option (Int32 × St) := lt (gI S 101 3) (fun y1 => lt (sI S 101 3 (0 : Int32)) (fun S2 => some (y1, S2)))
theorem c_X10_forget {S : St} {r : Int32} {S' : St} (hf : f_X10_forget S = some (r, S')) : zM yX10_forget cX10_forget 2 1 (some .int) [.ref 0] S (some (.int r)) S' := by
  refine zM_of (zpl (by decide)) (Nat.le_of_ble_eq_true rfl) rfl (fun K hK hA => ?_)
  unfold f_X10_forget at hf
  refine j_aload_n hK dX10_forget_0 0 rfl rfl ?_
  refine j_getR hK fl_X10_56 dX10_forget_1 zo_0 zf_10_6 zr_0_6 ?_
  refine j_getI hK fl_X10_342 dX10_forget_4 zo_101 zf_1_3 ?_
  refine lt_I hf (fun y1 hf => ?_)
  refine j_istore_n hK (L' := [(1, .int y1), (0, .ref 0)]) dX10_forget_7 rfl (by decide) rfl ?_
  refine j_aload_n hK dX10_forget_8 1 rfl rfl ?_
  refine j_getR hK fl_X10_56 dX10_forget_9 zo_0 zf_10_6 zr_0_6 ?_
  refine j_iconst hK (0 : Int32) dX10_forget_12 ic_0 ?_
  refine j_putI hK fl_X10_342 dX10_forget_13 zo_101 zf_1_3 ?_
  refine lt_S hf (fun S2 hf => ?_)
  refine j_pc (pc' := 16) rfl ?_
  refine j_iload_n hK dX10_forget_16 0 rfl rfl ?_
  exact j_iret hK dX10_forget_17 rfl (rt_I hA hf)
def f_X1_agrees_104 (s0 : Int32) (s1 : Int32) (S : St) : Option (Int32 × St) := (if s0 = s1 then some ((1 : Int32), S) else some ((0 : Int32), S))
theorem t_X1_agrees_104 {K : CT} (hK : KO K cX1_agrees RX1 4 2 (some .boolean)) {r : Int32} {S' : St} (hA : zans K = (some (.int r), S')) {s0 : Int32} {s1 : Int32} {S : St} (hf : f_X1_agrees_104 s0 s1 S = some (r, S')) : J K 104 [] [.int s1, .int s0] S := by
  unfold f_X1_agrees_104 at hf
  refine j_icmp_ne hK 111 dX1_agrees_104 (by decide) (fun hc => ?_) (fun hc => ?_)
  · replace hf := if_2 hc hf
    refine j_iconst hK (0 : Int32) dX1_agrees_111 ic_0 ?_
    exact j_zret hK dX1_agrees_112 rfl rfl (rt_I hA hf)
  · replace hf := if_1 hc hf
    refine j_iconst hK (1 : Int32) dX1_agrees_107 ic_1 ?_
    refine j_goto hK 112 dX1_agrees_108 (by decide) ?_
    exact j_zret hK dX1_agrees_112 rfl rfl (rt_I hA hf)
def f_X1_agrees (p1 : Int32) (p2 : Int32) (p3 : Int32) (S : St) : Option (Int32 × St) := (if p2 = (0 : Int32) then if inb p1 12 then (if (gI S 7 p1.toNatClampNeg) < p3 then some ((0 : Int32), S) else some ((1 : Int32), S)) else none else (if p2 = (1 : Int32) then bd (f_X0_isEnd p3 p1 S) (fun r4 S5 => if r4 = 0 ∨ r4 = 1 then some (r4, S5) else none) else (if p2 = (2 : Int32) then if inb p1 12 then (if (gI S 8 p1.toNatClampNeg) = p3 then some ((1 : Int32), S) else some ((0 : Int32), S)) else none else (if p2 = (3 : Int32) then bd (f_X0_isOpen p1 S) (fun r10 S11 => (if p3 = (1 : Int32) then f_X1_agrees_104 r10 (1 : Int32) S11 else f_X1_agrees_104 r10 (0 : Int32) S11)) else if inb p1 12 then (if p3 < (gI S 9 p1.toNatClampNeg) then some ((0 : Int32), S) else some ((1 : Int32), S)) else none))))
theorem c_X1_agrees {p1 : Int32} {p2 : Int32} {p3 : Int32} {S : St} {r : Int32} {S' : St} (hf : f_X1_agrees p1 p2 p3 S = some (r, S')) : zM yX1_agrees cX1_agrees 4 2 (some .boolean) [.ref 101, .int p1, .int p2, .int p3] S (some (.int r)) S' := by
  refine zM_of (zpl (by decide)) (Nat.le_of_ble_eq_true rfl) rfl (fun K hK hA => ?_)
  unfold f_X1_agrees at hf
  refine j_iload_n hK dX1_agrees_0 2 rfl rfl ?_
  by_cases hs1 : p2 = (0 : Int32)
  · replace hf := if_1 hs1 hf
    refine j_tabC hK (0 : Int32) 32 dX1_agrees_1 hs1 (by decide) rfl (by decide) ?_
    refine j_aload_n hK dX1_agrees_32 0 rfl rfl ?_
    refine j_getR hK fl_X1_9 dX1_agrees_33 zo_101 zf_1_0 zr_101_0 ?_
    refine j_getR hK fl_X1_37 dX1_agrees_36 zo_3 zf_0_3 zr_3_3 ?_
    refine j_getR hK fl_X1_41 dX1_agrees_39 zo_6 zf_7_0 zr_6_0 ?_
    refine j_iload_n hK dX1_agrees_42 1 rfl rfl ?_
    obtain ⟨hi2, hf⟩ := gd hf
    refine k_iald hK dX1_agrees_43 zb_7 hi2 rfl ?_
    refine j_iload_n hK dX1_agrees_44 3 rfl rfl ?_
    refine j_pc (pc' := 45) rfl ?_
    refine j_icmp_lt hK 52 dX1_agrees_45 (by decide) (fun hc => ?_) (fun hc => ?_)
    · replace hf := if_1 hc hf
      refine j_iconst hK (0 : Int32) dX1_agrees_52 ic_0 ?_
      exact j_zret hK dX1_agrees_53 rfl rfl (rt_I hA hf)
    · replace hf := if_2 hc hf
      refine j_iconst hK (1 : Int32) dX1_agrees_48 ic_1 ?_
      refine j_goto hK 53 dX1_agrees_49 (by decide) ?_
      exact j_zret hK dX1_agrees_53 rfl rfl (rt_I hA hf)
  · replace hf := if_2 hs1 hf
    by_cases hs3 : p2 = (1 : Int32)
    · replace hf := if_1 hs3 hf
      refine j_tabC hK (1 : Int32) 54 dX1_agrees_1 hs3 (by decide) rfl (by decide) ?_
      refine j_aload_n hK dX1_agrees_54 0 rfl rfl ?_
      refine j_getR hK fl_X1_9 dX1_agrees_55 zo_101 zf_1_0 zr_101_0 ?_
      refine j_iload_n hK dX1_agrees_58 3 rfl rfl ?_
      refine j_iload_n hK dX1_agrees_59 1 rfl rfl ?_
      obtain ⟨r4, S5, h6, hf⟩ := bd_J hf
      refine k_callVi hK (c_X0_isEnd h6) dX1_agrees_60 zclX0 zo_3 ml_X1_46 mi_X0_isEnd mx_X0_isEnd in_X0 mc_X0_isEnd hy_X0_isEnd ⟨by decide, by decide⟩ rfl (Nat.le_of_ble_eq_true rfl) ?_
      obtain ⟨hz, hf⟩ := gd hf
      exact j_zret hK dX1_agrees_63 rfl (nz hz) (rt_I hA hf)
    · replace hf := if_2 hs3 hf
      by_cases hs7 : p2 = (2 : Int32)
      · replace hf := if_1 hs7 hf
        refine j_tabC hK (2 : Int32) 64 dX1_agrees_1 hs7 (by decide) rfl (by decide) ?_
        refine j_aload_n hK dX1_agrees_64 0 rfl rfl ?_
        refine j_getR hK fl_X1_9 dX1_agrees_65 zo_101 zf_1_0 zr_101_0 ?_
        refine j_getR hK fl_X1_37 dX1_agrees_68 zo_3 zf_0_3 zr_3_3 ?_
        refine j_getR hK fl_X1_50 dX1_agrees_71 zo_6 zf_7_1 zr_6_1 ?_
        refine j_iload_n hK dX1_agrees_74 1 rfl rfl ?_
        obtain ⟨hi8, hf⟩ := gd hf
        refine k_iald hK dX1_agrees_75 zb_8 hi8 rfl ?_
        refine j_iload_n hK dX1_agrees_76 3 rfl rfl ?_
        refine j_pc (pc' := 77) rfl ?_
        refine j_icmp_ne hK 84 dX1_agrees_77 (by decide) (fun hc => ?_) (fun hc => ?_)
        · replace hf := if_2 hc hf
          refine j_iconst hK (0 : Int32) dX1_agrees_84 ic_0 ?_
          exact j_zret hK dX1_agrees_85 rfl rfl (rt_I hA hf)
        · replace hf := if_1 hc hf
          refine j_iconst hK (1 : Int32) dX1_agrees_80 ic_1 ?_
          refine j_goto hK 85 dX1_agrees_81 (by decide) ?_
          exact j_zret hK dX1_agrees_85 rfl rfl (rt_I hA hf)
      · replace hf := if_2 hs7 hf
        by_cases hs9 : p2 = (3 : Int32)
        · replace hf := if_1 hs9 hf
          refine j_tabC hK (3 : Int32) 86 dX1_agrees_1 hs9 (by decide) rfl (by decide) ?_
          refine j_aload_n hK dX1_agrees_86 0 rfl rfl ?_
          refine j_getR hK fl_X1_9 dX1_agrees_87 zo_101 zf_1_0 zr_101_0 ?_
          refine j_iload_n hK dX1_agrees_90 1 rfl rfl ?_
          obtain ⟨r10, S11, h12, hf⟩ := bd_J hf
          refine k_callVi hK (c_X0_isOpen h12) dX1_agrees_91 zclX0 zo_3 ml_X1_53 mi_X0_isOpen mx_X0_isOpen in_X0 mc_X0_isOpen hy_X0_isOpen ⟨by decide, by decide⟩ rfl (Nat.le_of_ble_eq_true rfl) ?_
          refine j_iload_n hK dX1_agrees_94 3 rfl rfl ?_
          refine j_iconst hK (1 : Int32) dX1_agrees_95 ic_1 ?_
          refine j_icmp_ne hK 103 dX1_agrees_96 (by decide) (fun hc => ?_) (fun hc => ?_)
          · replace hf := if_2 hc hf
            refine j_iconst hK (0 : Int32) dX1_agrees_103 ic_0 ?_
            refine j_sub [] rfl ?_
            exact t_X1_agrees_104 hK hA  hf
          · replace hf := if_1 hc hf
            refine j_iconst hK (1 : Int32) dX1_agrees_99 ic_1 ?_
            refine j_goto hK 104 dX1_agrees_100 (by decide) ?_
            refine j_sub [] rfl ?_
            exact t_X1_agrees_104 hK hA  hf
        · replace hf := if_2 hs9 hf
          refine j_tabOut hK 113 dX1_agrees_1 (by have q := And.intro (ne_toInt 0 (by decide) hs1) (And.intro (ne_toInt 1 (by decide) hs3) (And.intro (ne_toInt 2 (by decide) hs7) (And.intro (ne_toInt 3 (by decide) hs9) trivial))); omega) (by decide) ?_
          refine j_aload_n hK dX1_agrees_113 0 rfl rfl ?_
          refine j_getR hK fl_X1_9 dX1_agrees_114 zo_101 zf_1_0 zr_101_0 ?_
          refine j_getR hK fl_X1_37 dX1_agrees_117 zo_3 zf_0_3 zr_3_3 ?_
          refine j_getR hK fl_X1_56 dX1_agrees_120 zo_6 zf_7_2 zr_6_2 ?_
          refine j_iload_n hK dX1_agrees_123 1 rfl rfl ?_
          obtain ⟨hi13, hf⟩ := gd hf
          refine k_iald hK dX1_agrees_124 zb_9 hi13 rfl ?_
          refine j_iload_n hK dX1_agrees_125 3 rfl rfl ?_
          refine j_pc (pc' := 126) rfl ?_
          refine j_icmp_gt hK 133 dX1_agrees_126 (by decide) (fun hc => ?_) (fun hc => ?_)
          · replace hf := if_1 hc hf
            refine j_iconst hK (0 : Int32) dX1_agrees_133 ic_0 ?_
            exact j_zret hK dX1_agrees_134 rfl rfl (rt_I hA hf)
          · replace hf := if_2 hc hf
            refine j_iconst hK (1 : Int32) dX1_agrees_129 ic_1 ?_
            refine j_goto hK 134 dX1_agrees_130 (by decide) ?_
            exact j_zret hK dX1_agrees_134 rfl rfl (rt_I hA hf)
def f_X1_fitsAll_2b (x1 : Int32) (e : Int32 → St → Option (Int32 × St)) (k : Int32 → St → Option (Int32 × St)) (v : Int32) (S : St) : Option (Int32 × St) := (if (gI S 101 3) ≤ v then e v S else if inb v 12 then if inb v 12 then bd (f_X1_agrees x1 (gI S 102 v.toNatClampNeg) (gI S 103 v.toNatClampNeg) S) (fun r3 S4 => (if r3 = 0 then some ((0 : Int32), S4) else k (v + (1 : Int32)) S4)) else none else none)
theorem t_X1_fitsAll_2 {K : CT} (hK : KO K cX1_fitsAll RX1 3 3 (some .boolean)) {r : Int32} {S' : St} (hA : zans K = (some (.int r), S')) {x1 : Int32} {e : Int32 → St → Option (Int32 × St)} (he : ∀ (v : Int32) (S : St), e v S = some (r, S') → J K 38 [] [] S) : ∀ (n : Nat) (v : Int32) (S : St), lp (f_X1_fitsAll_2b x1 e) n v S = some (r, S') → J K 2 [(0, .ref 101), (1, .int x1), (2, .int v)] [] S :=
  lp_J (P := fun (v : Int32) (S : St) => J K 2 [(0, .ref 101), (1, .int x1), (2, .int v)] [] S) (fun k hk v S hf => by
    unfold f_X1_fitsAll_2b at hf
    refine j_iload_n hK dX1_fitsAll_2 2 rfl rfl ?_
    refine j_aload_n hK dX1_fitsAll_3 0 rfl rfl ?_
    refine j_getI hK fl_X1_22 dX1_fitsAll_4 zo_101 zf_1_3 ?_
    refine j_icmp_ge hK 38 dX1_fitsAll_7 (by decide) (fun hc => ?_) (fun hc => ?_)
    · replace hf := if_1 hc hf
      refine j_sub [] rfl ?_
      exact he _ _ hf
    · replace hf := if_2 hc hf
      refine j_aload_n hK dX1_fitsAll_10 0 rfl rfl ?_
      refine j_iload_n hK dX1_fitsAll_11 1 rfl rfl ?_
      refine j_aload_n hK dX1_fitsAll_12 0 rfl rfl ?_
      refine j_getR hK fl_X1_15 dX1_fitsAll_13 zo_101 zf_1_1 zr_101_1 ?_
      refine j_iload_n hK dX1_fitsAll_16 2 rfl rfl ?_
      obtain ⟨hi1, hf⟩ := gd hf
      refine k_iald hK dX1_fitsAll_17 zb_102 hi1 rfl ?_
      refine j_aload_n hK dX1_fitsAll_18 0 rfl rfl ?_
      refine j_pc (pc' := 19) rfl ?_
      refine j_getR hK fl_X1_19 dX1_fitsAll_19 zo_101 zf_1_2 zr_101_2 ?_
      refine j_iload_n hK dX1_fitsAll_22 2 rfl rfl ?_
      obtain ⟨hi2, hf⟩ := gd hf
      refine k_iald hK dX1_fitsAll_23 zb_103 hi2 rfl ?_
      obtain ⟨r3, S4, h5, hf⟩ := bd_J hf
      refine k_callVi hK (c_X1_agrees h5) dX1_fitsAll_24 zclX1 zo_101 ml_X1_33 mi_X1_agrees mx_X1_agrees in_X1 mc_X1_agrees hy_X1_agrees ⟨by decide, by decide⟩ rfl (Nat.le_of_ble_eq_true rfl) ?_
      refine j_if_ne hK 32 dX1_fitsAll_27 (by decide) (fun hc => ?_) (fun hc => ?_)
      · replace hf := if_2 hc hf
        refine j_iinc hK (L' := [(2, .int (v + (1 : Int32))), (0, .ref 101), (1, .int x1)]) dX1_fitsAll_32 2 rfl (congrArg (fun y => v + y) ic_1) (by decide) rfl ?_
        refine j_goto hK 2 dX1_fitsAll_35 (by decide) ?_
        refine j_sub [1, 2, 0] rfl ?_
        exact hk _ _ hf
      · replace hf := if_1 hc hf
        refine j_iconst hK (0 : Int32) dX1_fitsAll_30 ic_0 ?_
        exact j_zret hK dX1_fitsAll_31 rfl rfl (rt_I hA hf))
def f_X1_fitsAll (p1 : Int32) (S : St) : Option (Int32 × St) := lp (f_X1_fitsAll_2b p1 (fun v6 S7 => some ((1 : Int32), S7))) FU (0 : Int32) S
theorem c_X1_fitsAll {p1 : Int32} {S : St} {r : Int32} {S' : St} (hf : f_X1_fitsAll p1 S = some (r, S')) : zM yX1_fitsAll cX1_fitsAll 3 3 (some .boolean) [.ref 101, .int p1] S (some (.int r)) S' := by
  refine zM_of (zpl (by decide)) (Nat.le_of_ble_eq_true rfl) rfl (fun K hK hA => ?_)
  unfold f_X1_fitsAll at hf
  refine j_iconst hK (0 : Int32) dX1_fitsAll_0 ic_0 ?_
  refine j_istore_n hK (L' := [(2, .int (0 : Int32)), (0, .ref 101), (1, .int p1)]) dX1_fitsAll_1 rfl (by decide) rfl ?_
  refine j_sub [1, 2, 0] rfl ?_
  refine t_X1_fitsAll_2 hK hA  (fun v6 S7 hf => ?_) _ _ _ hf
  refine j_iconst hK (1 : Int32) dX1_fitsAll_38 ic_1 ?_
  exact j_zret hK dX1_fitsAll_39 rfl rfl (rt_I hA hf)
def f_X1_fittingPassages_29 (x1 : Int32) (x2 : Int32) (k e : Int32 × Int32 → St → Option (Int32 × St)) (S : St) : Option (Int32 × St) := k (x1, (x2 + (1 : Int32))) S
theorem t_X1_fittingPassages_29 {K : CT} (hK : KO K cX1_fittingPassages RX1 3 4 (some .int)) {r : Int32} {S' : St} (hA : zans K = (some (.int r), S')) {x1 : Int32} {x2 : Int32} {k e : Int32 × Int32 → St → Option (Int32 × St)} (hk : ∀ (v : Int32 × Int32) (S : St), k v S = some (r, S') → J K 4 [(0, .ref 101), (1, .int v.1), (2, .int v.2)] [] S) (he : ∀ (v : Int32 × Int32) (S : St), e v S = some (r, S') → J K 35 [(1, .int v.1)] [] S) {S : St} (hf : f_X1_fittingPassages_29 x1 x2 k e S = some (r, S')) : J K 29 [(0, .ref 101), (1, .int x1), (2, .int x2)] [] S := by
  unfold f_X1_fittingPassages_29 at hf
  refine j_iinc hK (L' := [(2, .int (x2 + (1 : Int32))), (0, .ref 101), (1, .int x1)]) dX1_fittingPassages_29 2 rfl (congrArg (fun y => x2 + y) ic_1) (by decide) rfl ?_
  refine j_goto hK 4 dX1_fittingPassages_32 (by decide) ?_
  refine j_sub [1, 2, 0] rfl ?_
  exact hk _ _ hf
def f_X1_fittingPassages_4b (e : Int32 × Int32 → St → Option (Int32 × St)) (k : Int32 × Int32 → St → Option (Int32 × St)) (v : Int32 × Int32) (S : St) : Option (Int32 × St) := (if (gI S 3 2) ≤ v.2 then e (v.1, v.2) S else bd (f_X1_fitsAll v.2 S) (fun r1 S2 => (if r1 = 0 then f_X1_fittingPassages_29 v.1 v.2 k e S2 else lt (v.1 ||| ((1 : Int32) <<< (v.2 &&& 31))) (fun y4 => f_X1_fittingPassages_29 y4 v.2 k e S2))))
theorem t_X1_fittingPassages_4 {K : CT} (hK : KO K cX1_fittingPassages RX1 3 4 (some .int)) {r : Int32} {S' : St} (hA : zans K = (some (.int r), S')) {e : Int32 × Int32 → St → Option (Int32 × St)} (he : ∀ (v : Int32 × Int32) (S : St), e v S = some (r, S') → J K 35 [(1, .int v.1)] [] S) : ∀ (n : Nat) (v : Int32 × Int32) (S : St), lp (f_X1_fittingPassages_4b  e) n v S = some (r, S') → J K 4 [(0, .ref 101), (1, .int v.1), (2, .int v.2)] [] S :=
  lp_J (P := fun (v : Int32 × Int32) (S : St) => J K 4 [(0, .ref 101), (1, .int v.1), (2, .int v.2)] [] S) (fun k hk v S hf => by
    unfold f_X1_fittingPassages_4b at hf
    refine j_iload_n hK dX1_fittingPassages_4 2 rfl rfl ?_
    refine j_aload_n hK dX1_fittingPassages_5 0 rfl rfl ?_
    refine j_getR hK fl_X1_9 dX1_fittingPassages_6 zo_101 zf_1_0 zr_101_0 ?_
    refine j_getI hK fl_X1_26 dX1_fittingPassages_9 zo_3 zf_0_2 ?_
    refine j_icmp_ge hK 35 dX1_fittingPassages_12 (by decide) (fun hc => ?_) (fun hc => ?_)
    · replace hf := if_1 hc hf
      refine j_sub [1] rfl ?_
      exact he _ _ hf
    · replace hf := if_2 hc hf
      refine j_aload_n hK dX1_fittingPassages_15 0 rfl rfl ?_
      refine j_iload_n hK dX1_fittingPassages_16 2 rfl rfl ?_
      obtain ⟨r1, S2, h3, hf⟩ := bd_J hf
      refine k_callVi hK (c_X1_fitsAll h3) dX1_fittingPassages_17 zclX1 zo_101 ml_X1_29 mi_X1_fitsAll mx_X1_fitsAll in_X1 mc_X1_fitsAll hy_X1_fitsAll ⟨by decide, by decide⟩ rfl (Nat.le_of_ble_eq_true rfl) ?_
      refine j_if_eq hK 29 dX1_fittingPassages_20 (by decide) (fun hc => ?_) (fun hc => ?_)
      · replace hf := if_1 hc hf
        exact t_X1_fittingPassages_29 hK hA hk he hf
      · replace hf := if_2 hc hf
        refine j_iload_n hK dX1_fittingPassages_23 1 rfl rfl ?_
        refine j_iconst hK (1 : Int32) dX1_fittingPassages_24 ic_1 ?_
        refine j_iload_n hK dX1_fittingPassages_25 2 rfl rfl ?_
        refine j_ishl hK dX1_fittingPassages_26 ?_
        refine j_ior hK dX1_fittingPassages_27 ?_
        refine lt_I hf (fun y4 hf => ?_)
        refine j_istore_n hK (L' := [(1, .int y4), (0, .ref 101), (2, .int v.2)]) dX1_fittingPassages_28 rfl (by decide) rfl ?_
        refine j_sub [1, 0, 2] rfl ?_
        exact t_X1_fittingPassages_29 hK hA hk he hf)
def f_X1_fittingPassages (S : St) : Option (Int32 × St) := lp (f_X1_fittingPassages_4b  (fun v5 S6 => some (v5.1, S6))) FU ((0 : Int32), (0 : Int32)) S
theorem c_X1_fittingPassages {S : St} {r : Int32} {S' : St} (hf : f_X1_fittingPassages S = some (r, S')) : zM yX1_fittingPassages cX1_fittingPassages 3 4 (some .int) [.ref 101] S (some (.int r)) S' := by
  refine zM_of (zpl (by decide)) (Nat.le_of_ble_eq_true rfl) rfl (fun K hK hA => ?_)
  unfold f_X1_fittingPassages at hf
  refine j_iconst hK (0 : Int32) dX1_fittingPassages_0 ic_0 ?_
  refine j_istore_n hK (L' := [(1, .int (0 : Int32)), (0, .ref 101)]) dX1_fittingPassages_1 rfl (by decide) rfl ?_
  refine j_iconst hK (0 : Int32) dX1_fittingPassages_2 ic_0 ?_
  refine j_istore_n hK (L' := [(2, .int (0 : Int32)), (1, .int (0 : Int32)), (0, .ref 101)]) dX1_fittingPassages_3 rfl (by decide) rfl ?_
  refine j_sub [2, 1, 0] rfl ?_
  refine t_X1_fittingPassages_4 hK hA  (fun v5 S6 hf => ?_) _ _ _ hf
  refine j_iload_n hK dX1_fittingPassages_35 0 rfl rfl ?_
  exact j_iret hK dX1_fittingPassages_36 rfl (rt_I hA hf)
def f_X10_fits (S : St) : Option (Int32 × St) := bd (f_X1_fittingPassages S) (fun r1 S2 => bd (f_X5_begin S2) (fun r4 S5 => bd (f_J6_bitCount_0f7a4 r1 S5) (fun r7 S8 => bd (f_X5_put r7.toInt64 S8) (fun r10 S11 => some (r1, S11)))))
theorem c_X10_fits {S : St} {r : Int32} {S' : St} (hf : f_X10_fits S = some (r, S')) : zM yX10_fits cX10_fits 2 5 (some .int) [.ref 0] S (some (.int r)) S' := by
  refine zM_of (zpl (by decide)) (Nat.le_of_ble_eq_true rfl) rfl (fun K hK hA => ?_)
  unfold f_X10_fits at hf
  refine j_aload_n hK dX10_fits_0 0 rfl rfl ?_
  refine j_getR hK fl_X10_56 dX10_fits_1 zo_0 zf_10_6 zr_0_6 ?_
  obtain ⟨r1, S2, h3, hf⟩ := bd_J hf
  refine k_callVi hK (c_X1_fittingPassages h3) dX10_fits_4 zclX1 zo_101 ml_X10_343 mi_X1_fittingPassages mx_X1_fittingPassages in_X1 mc_X1_fittingPassages hy_X1_fittingPassages ⟨by decide, by decide⟩ rfl (Nat.le_of_ble_eq_true rfl) ?_
  refine j_istore_n hK (L' := [(1, .int r1), (0, .ref 0)]) dX10_fits_7 rfl (by decide) rfl ?_
  refine j_aload_n hK dX10_fits_8 1 rfl rfl ?_
  refine j_getR hK fl_X10_26 dX10_fits_9 zo_0 zf_10_2 zr_0_2 ?_
  obtain ⟨r4, S5, h6, hf⟩ := bd_J hf
  refine k_callVv hK (c_X5_begin h6) dX10_fits_12 zclX5 zo_10 ml_X10_185 mi_X5_begin mx_X5_begin in_X5 mc_X5_begin hy_X5_begin ⟨by decide, by decide⟩ rfl (Nat.le_of_ble_eq_true rfl) ?_
  refine j_aload_n hK dX10_fits_15 1 rfl rfl ?_
  refine j_pc (pc' := 16) rfl ?_
  refine j_getR hK fl_X10_26 dX10_fits_16 zo_0 zf_10_2 zr_0_2 ?_
  refine j_iload_n hK dX10_fits_19 0 rfl rfl ?_
  obtain ⟨r7, S8, h9, hf⟩ := bd_J hf
  refine k_callSi hK (c_J6_bitCount_0f7a4 h9) dX10_fits_20 ml_X10_263 ms_J6_bitCount_0f7a4 in_J6 mc_J6_bitCount_0f7a4 hy_J6_bitCount_0f7a4 ⟨by decide, by decide⟩ rfl (Nat.le_of_ble_eq_true rfl) ?_
  refine j_i2l hK dX10_fits_23 ?_
  obtain ⟨r10, S11, h12, hf⟩ := bd_J hf
  refine k_callVv hK (c_X5_put h12) dX10_fits_24 zclX5 zo_10 ml_X10_191 mi_X5_put mx_X5_put in_X5 mc_X5_put hy_X5_put ⟨by decide, by decide⟩ rfl (Nat.le_of_ble_eq_true rfl) ?_
  refine j_iload_n hK dX10_fits_27 0 rfl rfl ?_
  exact j_iret hK dX10_fits_28 rfl (rt_I hA hf)
def f_X10_next_72 (x1 : Int32) (x2 : Int32) (x3 : Int32) (x4 : Int32) (k e : Int32 × Int32 × Int32 → St → Option (Int32 × St)) (S : St) : Option (Int32 × St) := k (x2, x3, (x4 + (1 : Int32))) S
theorem t_X10_next_72 {K : CT} (hK : KO K cX10_next RX10 7 5 (some .int)) {r : Int32} {S' : St} (hA : zans K = (some (.int r), S')) {x1 : Int32} {x2 : Int32} {x3 : Int32} {x4 : Int32} {k e : Int32 × Int32 × Int32 → St → Option (Int32 × St)} (hk : ∀ (v : Int32 × Int32 × Int32) (S : St), k v S = some (r, S') → J K 23 [(0, .ref 0), (1, .int x1), (2, .int v.1), (3, .int v.2.1), (4, .int v.2.2)] [] S) (he : ∀ (v : Int32 × Int32 × Int32) (S : St), e v S = some (r, S') → J K 78 [(0, .ref 0), (2, .int v.1), (3, .int v.2.1)] [] S) {S : St} (hf : f_X10_next_72 x1 x2 x3 x4 k e S = some (r, S')) : J K 72 [(0, .ref 0), (1, .int x1), (2, .int x2), (3, .int x3), (4, .int x4)] [] S := by
  unfold f_X10_next_72 at hf
  refine j_iinc hK (L' := [(4, .int (x4 + (1 : Int32))), (0, .ref 0), (1, .int x1), (2, .int x2), (3, .int x3)]) dX10_next_72 4 rfl (congrArg (fun y => x4 + y) ic_1) (by decide) rfl ?_
  refine j_goto hK 23 dX10_next_75 (by decide) ?_
  refine j_sub [1, 2, 3, 4, 0] rfl ?_
  exact hk _ _ hf
def f_X10_next_23b (x1 : Int32) (e : Int32 × Int32 × Int32 → St → Option (Int32 × St)) (k : Int32 × Int32 × Int32 → St → Option (Int32 × St)) (v : Int32 × Int32 × Int32) (S : St) : Option (Int32 × St) := (if (8 : Int32) ≤ v.2.2 then e (v.1, v.2.1, v.2.2) S else bd (f_X0_endingAt v.2.2 S) (fun r1 S2 => bd (f_J6_bitCount_0f7a4 (x1 &&& r1) S2) (fun r4 S5 => bd (f_J6_bitCount_0f7a4 x1 S5) (fun r7 S8 => lt (mxI r4 (r7 - r4)) (fun y10 => (if v.2.1 ≤ y10 then f_X10_next_72 x1 v.1 v.2.1 v.2.2 k e S8 else f_X10_next_72 x1 v.2.2 y10 v.2.2 k e S8))))))
theorem t_X10_next_23 {K : CT} (hK : KO K cX10_next RX10 7 5 (some .int)) {r : Int32} {S' : St} (hA : zans K = (some (.int r), S')) {x1 : Int32} {e : Int32 × Int32 × Int32 → St → Option (Int32 × St)} (he : ∀ (v : Int32 × Int32 × Int32) (S : St), e v S = some (r, S') → J K 78 [(0, .ref 0), (2, .int v.1), (3, .int v.2.1)] [] S) : ∀ (n : Nat) (v : Int32 × Int32 × Int32) (S : St), lp (f_X10_next_23b x1 e) n v S = some (r, S') → J K 23 [(0, .ref 0), (1, .int x1), (2, .int v.1), (3, .int v.2.1), (4, .int v.2.2)] [] S :=
  lp_J (P := fun (v : Int32 × Int32 × Int32) (S : St) => J K 23 [(0, .ref 0), (1, .int x1), (2, .int v.1), (3, .int v.2.1), (4, .int v.2.2)] [] S) (fun k hk v S hf => by
    unfold f_X10_next_23b at hf
    refine j_iload hK dX10_next_23 4 rfl ?_
    refine j_bipush hK (8 : Int32) dX10_next_25 bi_8 ?_
    refine j_icmp_ge hK 78 dX10_next_27 (by decide) (fun hc => ?_) (fun hc => ?_)
    · replace hf := if_1 hc hf
      refine j_sub [0, 2, 3] rfl ?_
      exact he _ _ hf
    · replace hf := if_2 hc hf
      refine j_iload_n hK dX10_next_30 1 rfl rfl ?_
      refine j_aload_n hK dX10_next_31 0 rfl rfl ?_
      refine j_getR hK fl_X10_19 dX10_next_32 zo_0 zf_10_1 zr_0_1 ?_
      refine j_iload hK dX10_next_35 4 rfl ?_
      obtain ⟨r1, S2, h3, hf⟩ := bd_J hf
      refine k_callVi hK (c_X0_endingAt h3) dX10_next_37 zclX0 zo_3 ml_X10_346 mi_X0_endingAt mx_X0_endingAt in_X0 mc_X0_endingAt hy_X0_endingAt ⟨by decide, by decide⟩ rfl (Nat.le_of_ble_eq_true rfl) ?_
      refine j_iand hK dX10_next_40 ?_
      obtain ⟨r4, S5, h6, hf⟩ := bd_J hf
      refine k_callSi hK (c_J6_bitCount_0f7a4 h6) dX10_next_41 ml_X10_263 ms_J6_bitCount_0f7a4 in_J6 mc_J6_bitCount_0f7a4 hy_J6_bitCount_0f7a4 ⟨by decide, by decide⟩ rfl (Nat.le_of_ble_eq_true rfl) ?_
      refine j_pc (pc' := 44) rfl ?_
      refine j_istore hK (L' := [(5, .int r4), (0, .ref 0), (1, .int x1), (2, .int v.1), (3, .int v.2.1), (4, .int v.2.2)]) dX10_next_44 (by decide) rfl ?_
      refine j_iload hK dX10_next_46 0 rfl ?_
      refine j_iload_n hK dX10_next_48 2 rfl rfl ?_
      obtain ⟨r7, S8, h9, hf⟩ := bd_J hf
      refine k_callSi hK (c_J6_bitCount_0f7a4 h9) dX10_next_49 ml_X10_263 ms_J6_bitCount_0f7a4 in_J6 mc_J6_bitCount_0f7a4 hy_J6_bitCount_0f7a4 ⟨by decide, by decide⟩ rfl (Nat.le_of_ble_eq_true rfl) ?_
      refine j_iload hK dX10_next_52 0 rfl ?_
      refine j_isub hK dX10_next_54 ?_
      refine j_max hK ml_X10_175 dX10_next_55 (by decide) (Nat.le_of_ble_eq_true rfl) ?_
      refine lt_I hf (fun y10 hf => ?_)
      refine j_istore hK (L' := [(6, .int y10), (5, .int r4), (0, .ref 0), (1, .int x1), (2, .int v.1), (3, .int v.2.1), (4, .int v.2.2)]) dX10_next_58 (by decide) rfl ?_
      refine j_pc (pc' := 60) rfl ?_
      refine j_iload hK dX10_next_60 0 rfl ?_
      refine j_iload_n hK dX10_next_62 5 rfl rfl ?_
      refine j_icmp_ge hK 72 dX10_next_63 (by decide) (fun hc => ?_) (fun hc => ?_)
      · replace hf := if_1 hc hf
        refine j_sub [2, 3, 4, 5, 6] rfl ?_
        exact t_X10_next_72 hK hA hk he hf
      · replace hf := if_2 hc hf
        refine j_iload hK dX10_next_66 6 rfl ?_
        refine j_istore_n hK (L' := [(2, .int v.2.2), (6, .int y10), (5, .int r4), (0, .ref 0), (1, .int x1), (3, .int v.2.1), (4, .int v.2.2)]) dX10_next_68 rfl (by decide) rfl ?_
        refine j_iload hK dX10_next_69 1 rfl ?_
        refine j_istore_n hK (L' := [(3, .int y10), (2, .int v.2.2), (6, .int y10), (5, .int r4), (0, .ref 0), (1, .int x1), (4, .int v.2.2)]) dX10_next_71 rfl (by decide) rfl ?_
        refine j_sub [4, 5, 1, 0, 6] rfl ?_
        exact t_X10_next_72 hK hA hk he hf)
def f_X10_next (S : St) : Option (Int32 × St) := bd (f_X1_fittingPassages S) (fun r11 S12 => (if r11 = 0 then some ((-2 : Int32), S12) else lp (f_X10_next_23b r11 (fun v14 S15 => bd (f_X5_begin S15) (fun r16 S17 => bd (f_X5_put v14.2.1.toInt64 S17) (fun r19 S20 => some (v14.1, S20))))) FU ((-1 : Int32), (13 : Int32), (0 : Int32)) S12))
theorem c_X10_next {S : St} {r : Int32} {S' : St} (hf : f_X10_next S = some (r, S')) : zM yX10_next cX10_next 7 5 (some .int) [.ref 0] S (some (.int r)) S' := by
  refine zM_of (zpl (by decide)) (Nat.le_of_ble_eq_true rfl) rfl (fun K hK hA => ?_)
  unfold f_X10_next at hf
  refine j_aload_n hK dX10_next_0 0 rfl rfl ?_
  refine j_getR hK fl_X10_56 dX10_next_1 zo_0 zf_10_6 zr_0_6 ?_
  obtain ⟨r11, S12, h13, hf⟩ := bd_J hf
  refine k_callVi hK (c_X1_fittingPassages h13) dX10_next_4 zclX1 zo_101 ml_X10_343 mi_X1_fittingPassages mx_X1_fittingPassages in_X1 mc_X1_fittingPassages hy_X1_fittingPassages ⟨by decide, by decide⟩ rfl (Nat.le_of_ble_eq_true rfl) ?_
  refine j_istore_n hK (L' := [(1, .int r11), (0, .ref 0)]) dX10_next_7 rfl (by decide) rfl ?_
  refine j_iload_n hK dX10_next_8 0 rfl rfl ?_
  refine j_if_ne hK 15 dX10_next_9 (by decide) (fun hc => ?_) (fun hc => ?_)
  · replace hf := if_2 hc hf
    refine j_iconst hK (-1 : Int32) dX10_next_15 ic_m1 ?_
    refine j_istore_n hK (L' := [(2, .int (-1 : Int32)), (1, .int r11), (0, .ref 0)]) dX10_next_16 rfl (by decide) rfl ?_
    refine j_bipush hK (13 : Int32) dX10_next_17 bi_13 ?_
    refine j_istore_n hK (L' := [(3, .int (13 : Int32)), (2, .int (-1 : Int32)), (1, .int r11), (0, .ref 0)]) dX10_next_19 rfl (by decide) rfl ?_
    refine j_iconst hK (0 : Int32) dX10_next_20 ic_0 ?_
    refine j_istore hK (L' := [(4, .int (0 : Int32)), (3, .int (13 : Int32)), (2, .int (-1 : Int32)), (1, .int r11), (0, .ref 0)]) dX10_next_21 (by decide) rfl ?_
    refine j_sub [4, 3, 2, 1, 0] rfl ?_
    refine t_X10_next_23 hK hA  (fun v14 S15 hf => ?_) _ _ _ hf
    refine j_aload_n hK dX10_next_78 0 rfl rfl ?_
    refine j_getR hK fl_X10_26 dX10_next_79 zo_0 zf_10_2 zr_0_2 ?_
    obtain ⟨r16, S17, h18, hf⟩ := bd_J hf
    refine k_callVv hK (c_X5_begin h18) dX10_next_82 zclX5 zo_10 ml_X10_185 mi_X5_begin mx_X5_begin in_X5 mc_X5_begin hy_X5_begin ⟨by decide, by decide⟩ rfl (Nat.le_of_ble_eq_true rfl) ?_
    refine j_aload_n hK dX10_next_85 0 rfl rfl ?_
    refine j_getR hK fl_X10_26 dX10_next_86 zo_0 zf_10_2 zr_0_2 ?_
    refine j_iload_n hK dX10_next_89 2 rfl rfl ?_
    refine j_i2l hK dX10_next_90 ?_
    refine j_pc (pc' := 91) rfl ?_
    obtain ⟨r19, S20, h21, hf⟩ := bd_J hf
    refine k_callVv hK (c_X5_put h21) dX10_next_91 zclX5 zo_10 ml_X10_191 mi_X5_put mx_X5_put in_X5 mc_X5_put hy_X5_put ⟨by decide, by decide⟩ rfl (Nat.le_of_ble_eq_true rfl) ?_
    refine j_iload_n hK dX10_next_94 1 rfl rfl ?_
    exact j_iret hK dX10_next_95 rfl (rt_I hA hf)
  · replace hf := if_1 hc hf
    refine j_bipush hK (-2 : Int32) dX10_next_12 bi_m2 ?_
    exact j_iret hK dX10_next_14 rfl (rt_I hA hf)
def f_X10_isLetter (p0 : Int32) (S : St) : Option (Int32 × St) := (if p0 < 0 then some ((0 : Int32), S) else (if (8 : Int32) ≤ p0 then some ((0 : Int32), S) else some ((1 : Int32), S)))
theorem c_X10_isLetter {p0 : Int32} {S : St} {r : Int32} {S' : St} (hf : f_X10_isLetter p0 S = some (r, S')) : zM yX10_isLetter cX10_isLetter 1 1 (some .boolean) [.int p0] S (some (.int r)) S' := by
  refine zM_of (zpl (by decide)) (Nat.le_of_ble_eq_true rfl) rfl (fun K hK hA => ?_)
  unfold f_X10_isLetter at hf
  refine j_iload_n hK dX10_isLetter_0 0 rfl rfl ?_
  refine j_if_lt hK 14 dX10_isLetter_1 (by decide) (fun hc => ?_) (fun hc => ?_)
  · replace hf := if_1 hc hf
    refine j_iconst hK (0 : Int32) dX10_isLetter_14 ic_0 ?_
    exact j_zret hK dX10_isLetter_15 rfl rfl (rt_I hA hf)
  · replace hf := if_2 hc hf
    refine j_iload_n hK dX10_isLetter_4 0 rfl rfl ?_
    refine j_bipush hK (8 : Int32) dX10_isLetter_5 bi_8 ?_
    refine j_icmp_ge hK 14 dX10_isLetter_7 (by decide) (fun hc => ?_) (fun hc => ?_)
    · replace hf := if_1 hc hf
      refine j_iconst hK (0 : Int32) dX10_isLetter_14 ic_0 ?_
      exact j_zret hK dX10_isLetter_15 rfl rfl (rt_I hA hf)
    · replace hf := if_2 hc hf
      refine j_iconst hK (1 : Int32) dX10_isLetter_10 ic_1 ?_
      refine j_goto hK 15 dX10_isLetter_11 (by decide) ?_
      exact j_zret hK dX10_isLetter_15 rfl rfl (rt_I hA hf)
def f_X3_add_15 (x1 : Int32) (x2 : Int32) (x3 : Int32) (s0 : Int32) (S : St) : Option (Int32 × St) := bd (f_X10_isLetter x1 S) (fun r1 S2 => (if r1 = 0 then some ((0 : Int32), S2) else (if s0 = 0 then some ((0 : Int32), S2) else bd (f_X10_isLetter x3 S2) (fun r4 S5 => (if r4 = 0 then some ((0 : Int32), S5) else (if (gI S5 104 3) < (10 : Int32) then if inb (gI S5 104 3) 10 then lt (sI S5 105 (gI S5 104 3).toNatClampNeg x1) (fun S8 => if inb (gI S8 104 3) 10 then lt (sI S8 106 (gI S8 104 3).toNatClampNeg x2) (fun S10 => if inb (gI S10 104 3) 10 then lt (sI S10 107 (gI S10 104 3).toNatClampNeg x3) (fun S12 => lt (sI S12 104 3 ((gI S12 104 3) + (1 : Int32))) (fun S13 => some ((1 : Int32), S13))) else none) else none) else none else some ((0 : Int32), S5)))))))
theorem t_X3_add_15 {K : CT} (hK : KO K cX3_add RX3 5 2 (some .boolean)) {r : Int32} {S' : St} (hA : zans K = (some (.int r), S')) {x1 : Int32} {x2 : Int32} {x3 : Int32} {s0 : Int32} {S : St} (hf : f_X3_add_15 x1 x2 x3 s0 S = some (r, S')) : J K 15 [(0, .ref 104), (1, .int x1), (2, .int x2), (3, .int x3)] [.int s0] S := by
  unfold f_X3_add_15 at hf
  refine j_istore hK (L' := [(4, .int s0), (0, .ref 104), (1, .int x1), (2, .int x2), (3, .int x3)]) dX3_add_15 (by decide) rfl ?_
  refine j_iload_n hK dX3_add_17 2 rfl rfl ?_
  obtain ⟨r1, S2, h3, hf⟩ := bd_J hf
  refine k_callNi hK (c_X10_isLetter h3) dX3_add_18 (fun _ _ _ h => h.2.1) ms_X10_isLetter in_X10 mc_X10_isLetter hy_X10_isLetter ⟨by decide, by decide⟩ rfl (Nat.le_of_ble_eq_true rfl) ?_
  refine j_if_eq hK 45 dX3_add_21 (by decide) (fun hc => ?_) (fun hc => ?_)
  · replace hf := if_1 hc hf
    refine j_iconst hK (0 : Int32) dX3_add_45 ic_0 ?_
    exact j_zret hK dX3_add_46 rfl rfl (rt_I hA hf)
  · replace hf := if_2 hc hf
    refine j_iload hK dX3_add_24 0 rfl ?_
    refine j_if_eq hK 45 dX3_add_26 (by decide) (fun hc => ?_) (fun hc => ?_)
    · replace hf := if_1 hc hf
      refine j_iconst hK (0 : Int32) dX3_add_45 ic_0 ?_
      exact j_zret hK dX3_add_46 rfl rfl (rt_I hA hf)
    · replace hf := if_2 hc hf
      refine j_iload_n hK dX3_add_29 4 rfl rfl ?_
      obtain ⟨r4, S5, h6, hf⟩ := bd_J hf
      refine k_callNi hK (c_X10_isLetter h6) dX3_add_30 (fun _ _ _ h => h.2.1) ms_X10_isLetter in_X10 mc_X10_isLetter hy_X10_isLetter ⟨by decide, by decide⟩ rfl (Nat.le_of_ble_eq_true rfl) ?_
      refine j_if_eq hK 45 dX3_add_33 (by decide) (fun hc => ?_) (fun hc => ?_)
      · replace hf := if_1 hc hf
        refine j_iconst hK (0 : Int32) dX3_add_45 ic_0 ?_
        exact j_zret hK dX3_add_46 rfl rfl (rt_I hA hf)
      · replace hf := if_2 hc hf
        refine j_aload_n hK dX3_add_36 1 rfl rfl ?_
        refine j_getI hK fl_X3_21 dX3_add_37 zo_104 zf_3_3 ?_
        refine j_bipush hK (10 : Int32) dX3_add_40 bi_10 ?_
        refine j_icmp_lt hK 47 dX3_add_42 (by decide) (fun hc => ?_) (fun hc => ?_)
        · replace hf := if_1 hc hf
          refine j_aload_n hK dX3_add_47 1 rfl rfl ?_
          refine j_getR hK fl_X3_11 dX3_add_48 zo_104 zf_3_0 zr_104_0 ?_
          refine j_aload_n hK dX3_add_51 1 rfl rfl ?_
          refine j_getI hK fl_X3_21 dX3_add_52 zo_104 zf_3_3 ?_
          refine j_iload_n hK dX3_add_55 2 rfl rfl ?_
          obtain ⟨hi7, hf⟩ := gd hf
          refine k_iast hK dX3_add_56 zb_105 hi7 rfl ?_
          refine lt_S hf (fun S8 hf => ?_)
          refine j_aload_n hK dX3_add_57 1 rfl rfl ?_
          refine j_pc (pc' := 58) rfl ?_
          refine j_getR hK fl_X3_15 dX3_add_58 zo_104 zf_3_1 zr_104_1 ?_
          refine j_aload_n hK dX3_add_61 1 rfl rfl ?_
          refine j_getI hK fl_X3_21 dX3_add_62 zo_104 zf_3_3 ?_
          refine j_iload_n hK dX3_add_65 3 rfl rfl ?_
          obtain ⟨hi9, hf⟩ := gd hf
          refine k_iast hK dX3_add_66 zb_106 hi9 rfl ?_
          refine lt_S hf (fun S10 hf => ?_)
          refine j_aload_n hK dX3_add_67 1 rfl rfl ?_
          refine j_getR hK fl_X3_18 dX3_add_68 zo_104 zf_3_2 zr_104_2 ?_
          refine j_aload_n hK dX3_add_71 1 rfl rfl ?_
          refine j_pc (pc' := 72) rfl ?_
          refine j_getI hK fl_X3_21 dX3_add_72 zo_104 zf_3_3 ?_
          refine j_iload_n hK dX3_add_75 4 rfl rfl ?_
          obtain ⟨hi11, hf⟩ := gd hf
          refine k_iast hK dX3_add_76 zb_107 hi11 rfl ?_
          refine lt_S hf (fun S12 hf => ?_)
          refine j_aload_n hK dX3_add_77 1 rfl rfl ?_
          refine j_dup hK dX3_add_78 rfl ?_
          refine j_getI hK fl_X3_21 dX3_add_79 zo_104 zf_3_3 ?_
          refine j_iconst hK (1 : Int32) dX3_add_82 ic_1 ?_
          refine j_iadd hK dX3_add_83 ?_
          refine j_pc (pc' := 84) rfl ?_
          refine j_putI hK fl_X3_21 dX3_add_84 zo_104 zf_3_3 ?_
          refine lt_S hf (fun S13 hf => ?_)
          refine j_iconst hK (1 : Int32) dX3_add_87 ic_1 ?_
          exact j_zret hK dX3_add_88 rfl rfl (rt_I hA hf)
        · replace hf := if_2 hc hf
          refine j_iconst hK (0 : Int32) dX3_add_45 ic_0 ?_
          exact j_zret hK dX3_add_46 rfl rfl (rt_I hA hf)
def f_X3_add_14 (x1 : Int32) (x2 : Int32) (x3 : Int32) (S : St) : Option (Int32 × St) := f_X3_add_15 x1 x2 x3 (0 : Int32) S
theorem t_X3_add_14 {K : CT} (hK : KO K cX3_add RX3 5 2 (some .boolean)) {r : Int32} {S' : St} (hA : zans K = (some (.int r), S')) {x1 : Int32} {x2 : Int32} {x3 : Int32} {S : St} (hf : f_X3_add_14 x1 x2 x3 S = some (r, S')) : J K 14 [(0, .ref 104), (1, .int x1), (2, .int x2), (3, .int x3)] [] S := by
  unfold f_X3_add_14 at hf
  refine j_iconst hK (0 : Int32) dX3_add_14 ic_0 ?_
  exact t_X3_add_15 hK hA  hf
def f_X3_add (p1 : Int32) (p2 : Int32) (p3 : Int32) (S : St) : Option (Int32 × St) := (if p2 < 0 then f_X3_add_14 p1 p2 p3 S else (if (9 : Int32) < p2 then f_X3_add_14 p1 p2 p3 S else f_X3_add_15 p1 p2 p3 (1 : Int32) S))
theorem c_X3_add {p1 : Int32} {p2 : Int32} {p3 : Int32} {S : St} {r : Int32} {S' : St} (hf : f_X3_add p1 p2 p3 S = some (r, S')) : zM yX3_add cX3_add 5 2 (some .boolean) [.ref 104, .int p1, .int p2, .int p3] S (some (.int r)) S' := by
  refine zM_of (zpl (by decide)) (Nat.le_of_ble_eq_true rfl) rfl (fun K hK hA => ?_)
  unfold f_X3_add at hf
  refine j_iload_n hK dX3_add_0 2 rfl rfl ?_
  refine j_if_lt hK 14 dX3_add_1 (by decide) (fun hc => ?_) (fun hc => ?_)
  · replace hf := if_1 hc hf
    exact t_X3_add_14 hK hA  hf
  · replace hf := if_2 hc hf
    refine j_iload_n hK dX3_add_4 2 rfl rfl ?_
    refine j_bipush hK (9 : Int32) dX3_add_5 bi_9 ?_
    refine j_icmp_gt hK 14 dX3_add_7 (by decide) (fun hc => ?_) (fun hc => ?_)
    · replace hf := if_1 hc hf
      exact t_X3_add_14 hK hA  hf
    · replace hf := if_2 hc hf
      refine j_iconst hK (1 : Int32) dX3_add_10 ic_1 ?_
      refine j_goto hK 15 dX3_add_11 (by decide) ?_
      exact t_X3_add_15 hK hA  hf
def f_X10_heard (p1 : Int32) (p2 : Int32) (p3 : Int32) (S : St) : Option (Int32 × St) := bd (f_X3_add p1 p2 p3 S) (fun r1 S2 => (if r1 = 0 then some ((-1 : Int32), S2) else some ((gI S2 104 3), S2)))
theorem c_X10_heard {p1 : Int32} {p2 : Int32} {p3 : Int32} {S : St} {r : Int32} {S' : St} (hf : f_X10_heard p1 p2 p3 S = some (r, S')) : zM yX10_heard cX10_heard 4 3 (some .int) [.ref 0, .int p1, .int p2, .int p3] S (some (.int r)) S' := by
  refine zM_of (zpl (by decide)) (Nat.le_of_ble_eq_true rfl) rfl (fun K hK hA => ?_)
  unfold f_X10_heard at hf
  refine j_aload_n hK dX10_heard_0 0 rfl rfl ?_
  refine j_getR hK fl_X10_63 dX10_heard_1 zo_0 zf_10_7 zr_0_7 ?_
  refine j_iload_n hK dX10_heard_4 1 rfl rfl ?_
  refine j_iload_n hK dX10_heard_5 2 rfl rfl ?_
  refine j_iload_n hK dX10_heard_6 3 rfl rfl ?_
  obtain ⟨r1, S2, h3, hf⟩ := bd_J hf
  refine k_callVi hK (c_X3_add h3) dX10_heard_7 zclX3 zo_104 ml_X10_349 mi_X3_add mx_X3_add in_X3 mc_X3_add hy_X3_add ⟨by decide, by decide⟩ rfl (Nat.le_of_ble_eq_true rfl) ?_
  refine j_if_eq hK 23 dX10_heard_10 (by decide) (fun hc => ?_) (fun hc => ?_)
  · replace hf := if_1 hc hf
    refine j_iconst hK (-1 : Int32) dX10_heard_23 ic_m1 ?_
    exact j_iret hK dX10_heard_24 rfl (rt_I hA hf)
  · replace hf := if_2 hc hf
    refine j_aload_n hK dX10_heard_13 0 rfl rfl ?_
    refine j_getR hK fl_X10_63 dX10_heard_14 zo_0 zf_10_7 zr_0_7 ?_
    refine j_getI hK fl_X10_352 dX10_heard_17 zo_104 zf_3_3 ?_
    refine j_goto hK 24 dX10_heard_20 (by decide) ?_
    exact j_iret hK dX10_heard_24 rfl (rt_I hA hf)
def f_X10_denied (S : St) : Option (Int32 × St) := lt (gI S 104 3) (fun y1 => lt (sI S 104 3 (0 : Int32)) (fun S2 => some (y1, S2)))
theorem c_X10_denied {S : St} {r : Int32} {S' : St} (hf : f_X10_denied S = some (r, S')) : zM yX10_denied cX10_denied 2 1 (some .int) [.ref 0] S (some (.int r)) S' := by
  refine zM_of (zpl (by decide)) (Nat.le_of_ble_eq_true rfl) rfl (fun K hK hA => ?_)
  unfold f_X10_denied at hf
  refine j_aload_n hK dX10_denied_0 0 rfl rfl ?_
  refine j_getR hK fl_X10_63 dX10_denied_1 zo_0 zf_10_7 zr_0_7 ?_
  refine j_getI hK fl_X10_352 dX10_denied_4 zo_104 zf_3_3 ?_
  refine lt_I hf (fun y1 hf => ?_)
  refine j_istore_n hK (L' := [(1, .int y1), (0, .ref 0)]) dX10_denied_7 rfl (by decide) rfl ?_
  refine j_aload_n hK dX10_denied_8 1 rfl rfl ?_
  refine j_getR hK fl_X10_63 dX10_denied_9 zo_0 zf_10_7 zr_0_7 ?_
  refine j_iconst hK (0 : Int32) dX10_denied_12 ic_0 ?_
  refine j_putI hK fl_X10_352 dX10_denied_13 zo_104 zf_3_3 ?_
  refine lt_S hf (fun S2 hf => ?_)
  refine j_pc (pc' := 16) rfl ?_
  refine j_iload_n hK dX10_denied_16 0 rfl rfl ?_
  exact j_iret hK dX10_denied_17 rfl (rt_I hA hf)
def f_X3_becomesBy (p0 : Int32) (p1 : Int32) (p2 : Int32) (S : St) : Option (Int32 × St) := lt (((p0 / (8 : Int32)) * p1) + ((p0 - p0 / (8 : Int32) * (8 : Int32)) * p2)) (fun y1 => some ((y1 - y1 / (8 : Int32) * (8 : Int32)), S))
theorem c_X3_becomesBy {p0 : Int32} {p1 : Int32} {p2 : Int32} {S : St} {r : Int32} {S' : St} (hf : f_X3_becomesBy p0 p1 p2 S = some (r, S')) : zM yX3_becomesBy cX3_becomesBy 3 1 (some .int) [.int p0, .int p1, .int p2] S (some (.int r)) S' := by
  refine zM_of (zpl (by decide)) (Nat.le_of_ble_eq_true rfl) rfl (fun K hK hA => ?_)
  unfold f_X3_becomesBy at hf
  refine j_iload_n hK dX3_becomesBy_0 0 rfl rfl ?_
  refine j_bipush hK (8 : Int32) dX3_becomesBy_1 bi_8 ?_
  refine j_idiv hK dX3_becomesBy_3 (by decide) ?_
  refine j_iload_n hK dX3_becomesBy_4 1 rfl rfl ?_
  refine j_imul hK dX3_becomesBy_5 ?_
  refine j_iload_n hK dX3_becomesBy_6 0 rfl rfl ?_
  refine j_bipush hK (8 : Int32) dX3_becomesBy_7 bi_8 ?_
  refine j_irem hK dX3_becomesBy_9 (by decide) ?_
  refine j_pc (pc' := 10) rfl ?_
  refine j_iload_n hK dX3_becomesBy_10 2 rfl rfl ?_
  refine j_imul hK dX3_becomesBy_11 ?_
  refine j_iadd hK dX3_becomesBy_12 ?_
  refine lt_I hf (fun y1 hf => ?_)
  refine j_bipush hK (8 : Int32) dX3_becomesBy_13 bi_8 ?_
  refine j_irem hK dX3_becomesBy_15 (by decide) ?_
  exact j_iret hK dX3_becomesBy_16 rfl (rt_I hA hf)
def f_X3_fitsHeard_2b (x1 : Int32) (e : Int32 → St → Option (Int32 × St)) (k : Int32 → St → Option (Int32 × St)) (v : Int32) (S : St) : Option (Int32 × St) := (if (gI S 104 3) ≤ v then e v S else if inb v 10 then if inb v 10 then bd (f_X3_becomesBy x1 (gI S 105 v.toNatClampNeg) (gI S 106 v.toNatClampNeg) S) (fun r3 S4 => if inb v 10 then (if r3 = (gI S4 107 v.toNatClampNeg) then k (v + (1 : Int32)) S4 else some ((0 : Int32), S4)) else none) else none else none)
theorem t_X3_fitsHeard_2 {K : CT} (hK : KO K cX3_fitsHeard RX3 3 2 (some .boolean)) {r : Int32} {S' : St} (hA : zans K = (some (.int r), S')) {x1 : Int32} {e : Int32 → St → Option (Int32 × St)} (he : ∀ (v : Int32) (S : St), e v S = some (r, S') → J K 43 [] [] S) : ∀ (n : Nat) (v : Int32) (S : St), lp (f_X3_fitsHeard_2b x1 e) n v S = some (r, S') → J K 2 [(0, .ref 104), (1, .int x1), (2, .int v)] [] S :=
  lp_J (P := fun (v : Int32) (S : St) => J K 2 [(0, .ref 104), (1, .int x1), (2, .int v)] [] S) (fun k hk v S hf => by
    unfold f_X3_fitsHeard_2b at hf
    refine j_iload_n hK dX3_fitsHeard_2 2 rfl rfl ?_
    refine j_aload_n hK dX3_fitsHeard_3 0 rfl rfl ?_
    refine j_getI hK fl_X3_21 dX3_fitsHeard_4 zo_104 zf_3_3 ?_
    refine j_icmp_ge hK 43 dX3_fitsHeard_7 (by decide) (fun hc => ?_) (fun hc => ?_)
    · replace hf := if_1 hc hf
      refine j_sub [] rfl ?_
      exact he _ _ hf
    · replace hf := if_2 hc hf
      refine j_iload_n hK dX3_fitsHeard_10 1 rfl rfl ?_
      refine j_aload_n hK dX3_fitsHeard_11 0 rfl rfl ?_
      refine j_getR hK fl_X3_11 dX3_fitsHeard_12 zo_104 zf_3_0 zr_104_0 ?_
      refine j_iload_n hK dX3_fitsHeard_15 2 rfl rfl ?_
      obtain ⟨hi1, hf⟩ := gd hf
      refine k_iald hK dX3_fitsHeard_16 zb_105 hi1 rfl ?_
      refine j_aload_n hK dX3_fitsHeard_17 0 rfl rfl ?_
      refine j_getR hK fl_X3_15 dX3_fitsHeard_18 zo_104 zf_3_1 zr_104_1 ?_
      refine j_pc (pc' := 21) rfl ?_
      refine j_iload_n hK dX3_fitsHeard_21 2 rfl rfl ?_
      obtain ⟨hi2, hf⟩ := gd hf
      refine k_iald hK dX3_fitsHeard_22 zb_106 hi2 rfl ?_
      obtain ⟨r3, S4, h5, hf⟩ := bd_J hf
      refine k_callSi hK (c_X3_becomesBy h5) dX3_fitsHeard_23 ml_X3_41 ms_X3_becomesBy in_X3 mc_X3_becomesBy hy_X3_becomesBy ⟨by decide, by decide⟩ rfl (Nat.le_of_ble_eq_true rfl) ?_
      refine j_aload_n hK dX3_fitsHeard_26 0 rfl rfl ?_
      refine j_getR hK fl_X3_18 dX3_fitsHeard_27 zo_104 zf_3_2 zr_104_2 ?_
      refine j_iload_n hK dX3_fitsHeard_30 2 rfl rfl ?_
      obtain ⟨hi6, hf⟩ := gd hf
      refine k_iald hK dX3_fitsHeard_31 zb_107 hi6 rfl ?_
      refine j_icmp_eq hK 37 dX3_fitsHeard_32 (by decide) (fun hc => ?_) (fun hc => ?_)
      · replace hf := if_1 hc hf
        refine j_iinc hK (L' := [(2, .int (v + (1 : Int32))), (0, .ref 104), (1, .int x1)]) dX3_fitsHeard_37 2 rfl (congrArg (fun y => v + y) ic_1) (by decide) rfl ?_
        refine j_goto hK 2 dX3_fitsHeard_40 (by decide) ?_
        refine j_sub [1, 2, 0] rfl ?_
        exact hk _ _ hf
      · replace hf := if_2 hc hf
        refine j_iconst hK (0 : Int32) dX3_fitsHeard_35 ic_0 ?_
        exact j_zret hK dX3_fitsHeard_36 rfl rfl (rt_I hA hf))
def f_X3_fitsHeard (p1 : Int32) (S : St) : Option (Int32 × St) := lp (f_X3_fitsHeard_2b p1 (fun v7 S8 => some ((1 : Int32), S8))) FU (0 : Int32) S
theorem c_X3_fitsHeard {p1 : Int32} {S : St} {r : Int32} {S' : St} (hf : f_X3_fitsHeard p1 S = some (r, S')) : zM yX3_fitsHeard cX3_fitsHeard 3 2 (some .boolean) [.ref 104, .int p1] S (some (.int r)) S' := by
  refine zM_of (zpl (by decide)) (Nat.le_of_ble_eq_true rfl) rfl (fun K hK hA => ?_)
  unfold f_X3_fitsHeard at hf
  refine j_iconst hK (0 : Int32) dX3_fitsHeard_0 ic_0 ?_
  refine j_istore_n hK (L' := [(2, .int (0 : Int32)), (0, .ref 104), (1, .int p1)]) dX3_fitsHeard_1 rfl (by decide) rfl ?_
  refine j_sub [1, 2, 0] rfl ?_
  refine t_X3_fitsHeard_2 hK hA  (fun v7 S8 hf => ?_) _ _ _ hf
  refine j_iconst hK (1 : Int32) dX3_fitsHeard_43 ic_1 ?_
  exact j_zret hK dX3_fitsHeard_44 rfl rfl (rt_I hA hf)
def f_X3_findFitting_41 (x1 : Int32) (k e : Int32 → St → Option (Unit × St)) (S : St) : Option (Unit × St) := k (x1 + (1 : Int32)) S
theorem t_X3_findFitting_41 {K : CT} (hK : KO K cX3_findFitting RX3 2 3 none) {r : Unit} {S' : St} (hA : zans K = (none, S')) {x1 : Int32} {k e : Int32 → St → Option (Unit × St)} (hk : ∀ (v : Int32) (S : St), k v S = some (r, S') → J K 7 [(0, .ref 104), (1, .int v)] [] S) (he : ∀ (v : Int32) (S : St), e v S = some (r, S') → J K 47 [] [] S) {S : St} (hf : f_X3_findFitting_41 x1 k e S = some (r, S')) : J K 41 [(0, .ref 104), (1, .int x1)] [] S := by
  unfold f_X3_findFitting_41 at hf
  refine j_iinc hK (L' := [(1, .int (x1 + (1 : Int32))), (0, .ref 104)]) dX3_findFitting_41 1 rfl (congrArg (fun y => x1 + y) ic_1) (by decide) rfl ?_
  refine j_goto hK 7 dX3_findFitting_44 (by decide) ?_
  refine j_sub [1, 0] rfl ?_
  exact hk _ _ hf
def f_X3_findFitting_7b (e : Int32 → St → Option (Unit × St)) (k : Int32 → St → Option (Unit × St)) (v : Int32) (S : St) : Option (Unit × St) := (if (64 : Int32) ≤ v then e v S else bd (f_X3_fitsHeard v S) (fun r1 S2 => (if r1 = 0 then f_X3_findFitting_41 v k e S2 else if inb (gI S2 104 5) 64 then lt (sI S2 108 (gI S2 104 5).toNatClampNeg v) (fun S5 => lt (sI S5 104 5 ((gI S5 104 5) + (1 : Int32))) (fun S6 => f_X3_findFitting_41 v k e S6)) else none)))
theorem t_X3_findFitting_7 {K : CT} (hK : KO K cX3_findFitting RX3 2 3 none) {r : Unit} {S' : St} (hA : zans K = (none, S')) {e : Int32 → St → Option (Unit × St)} (he : ∀ (v : Int32) (S : St), e v S = some (r, S') → J K 47 [] [] S) : ∀ (n : Nat) (v : Int32) (S : St), lp (f_X3_findFitting_7b  e) n v S = some (r, S') → J K 7 [(0, .ref 104), (1, .int v)] [] S :=
  lp_J (P := fun (v : Int32) (S : St) => J K 7 [(0, .ref 104), (1, .int v)] [] S) (fun k hk v S hf => by
    unfold f_X3_findFitting_7b at hf
    refine j_iload_n hK dX3_findFitting_7 1 rfl rfl ?_
    refine j_bipush hK (64 : Int32) dX3_findFitting_8 bi_64 ?_
    refine j_icmp_ge hK 47 dX3_findFitting_10 (by decide) (fun hc => ?_) (fun hc => ?_)
    · replace hf := if_1 hc hf
      refine j_sub [] rfl ?_
      exact he _ _ hf
    · replace hf := if_2 hc hf
      refine j_aload_n hK dX3_findFitting_13 0 rfl rfl ?_
      refine j_iload_n hK dX3_findFitting_14 1 rfl rfl ?_
      obtain ⟨r1, S2, h3, hf⟩ := bd_J hf
      refine k_callVi hK (c_X3_fitsHeard h3) dX3_findFitting_15 zclX3 zo_104 ml_X3_38 mi_X3_fitsHeard mx_X3_fitsHeard in_X3 mc_X3_fitsHeard hy_X3_fitsHeard ⟨by decide, by decide⟩ rfl (Nat.le_of_ble_eq_true rfl) ?_
      refine j_if_eq hK 41 dX3_findFitting_18 (by decide) (fun hc => ?_) (fun hc => ?_)
      · replace hf := if_1 hc hf
        exact t_X3_findFitting_41 hK hA hk he hf
      · replace hf := if_2 hc hf
        refine j_aload_n hK dX3_findFitting_21 0 rfl rfl ?_
        refine j_getR hK fl_X3_25 dX3_findFitting_22 zo_104 zf_3_4 zr_104_4 ?_
        refine j_aload_n hK dX3_findFitting_25 0 rfl rfl ?_
        refine j_getI hK fl_X3_28 dX3_findFitting_26 zo_104 zf_3_5 ?_
        refine j_iload_n hK dX3_findFitting_29 1 rfl rfl ?_
        obtain ⟨hi4, hf⟩ := gd hf
        refine k_iast hK dX3_findFitting_30 zb_108 hi4 rfl ?_
        refine lt_S hf (fun S5 hf => ?_)
        refine j_aload_n hK dX3_findFitting_31 0 rfl rfl ?_
        refine j_pc (pc' := 32) rfl ?_
        refine j_dup hK dX3_findFitting_32 rfl ?_
        refine j_getI hK fl_X3_28 dX3_findFitting_33 zo_104 zf_3_5 ?_
        refine j_iconst hK (1 : Int32) dX3_findFitting_36 ic_1 ?_
        refine j_iadd hK dX3_findFitting_37 ?_
        refine j_putI hK fl_X3_28 dX3_findFitting_38 zo_104 zf_3_5 ?_
        refine lt_S hf (fun S6 hf => ?_)
        exact t_X3_findFitting_41 hK hA hk he hf)
def f_X3_findFitting (S : St) : Option (Unit × St) := lt (sI S 104 5 (0 : Int32)) (fun S7 => lp (f_X3_findFitting_7b  (fun v8 S9 => some ((), S9))) FU (0 : Int32) S7)
theorem c_X3_findFitting {S : St} {r : Unit} {S' : St} (hf : f_X3_findFitting S = some (r, S')) : zM yX3_findFitting cX3_findFitting 2 3 none [.ref 104] S (none) S' := by
  refine zM_of (zpl (by decide)) (Nat.le_of_ble_eq_true rfl) rfl (fun K hK hA => ?_)
  unfold f_X3_findFitting at hf
  refine j_aload_n hK dX3_findFitting_0 0 rfl rfl ?_
  refine j_iconst hK (0 : Int32) dX3_findFitting_1 ic_0 ?_
  refine j_putI hK fl_X3_28 dX3_findFitting_2 zo_104 zf_3_5 ?_
  refine lt_S hf (fun S7 hf => ?_)
  refine j_iconst hK (0 : Int32) dX3_findFitting_5 ic_0 ?_
  refine j_istore_n hK (L' := [(1, .int (0 : Int32)), (0, .ref 104)]) dX3_findFitting_6 rfl (by decide) rfl ?_
  refine j_sub [1, 0] rfl ?_
  refine t_X3_findFitting_7 hK hA  (fun v8 S9 hf => ?_) _ _ _ hf
  exact j_vret hK dX3_findFitting_47 rfl (rt_V hA hf)
def f_X10_laws_64 (S : St) : Option (Int32 × St) := some ((gI S 104 5), S)
theorem t_X10_laws_64 {K : CT} (hK : KO K cX10_laws RX10 1 4 (some .int)) {r : Int32} {S' : St} (hA : zans K = (some (.int r), S')) {S : St} (hf : f_X10_laws_64  S = some (r, S')) : J K 64 [(0, .ref 0)] [] S := by
  unfold f_X10_laws_64 at hf
  refine j_aload_n hK dX10_laws_64 0 rfl rfl ?_
  refine j_getR hK fl_X10_63 dX10_laws_65 zo_0 zf_10_7 zr_0_7 ?_
  refine j_getI hK fl_X10_356 dX10_laws_68 zo_104 zf_3_5 ?_
  exact j_iret hK dX10_laws_71 rfl (rt_I hA hf)
def f_X10_laws (S : St) : Option (Int32 × St) := bd (f_X3_findFitting S) (fun r1 S2 => bd (f_X5_begin S2) (fun r4 S5 => (if (gI S5 104 5) ≤ 0 then f_X10_laws_64  S5 else bd (f_X5_put ((gI S5 108 0) / (8 : Int32)).toInt64 S5) (fun r7 S8 => bd (f_X5_put ((gI S8 108 0) - (gI S8 108 0) / (8 : Int32) * (8 : Int32)).toInt64 S8) (fun r10 S11 => f_X10_laws_64  S11)))))
theorem c_X10_laws {S : St} {r : Int32} {S' : St} (hf : f_X10_laws S = some (r, S')) : zM yX10_laws cX10_laws 1 4 (some .int) [.ref 0] S (some (.int r)) S' := by
  refine zM_of (zpl (by decide)) (Nat.le_of_ble_eq_true rfl) rfl (fun K hK hA => ?_)
  unfold f_X10_laws at hf
  refine j_aload_n hK dX10_laws_0 0 rfl rfl ?_
  refine j_getR hK fl_X10_63 dX10_laws_1 zo_0 zf_10_7 zr_0_7 ?_
  obtain ⟨r1, S2, h3, hf⟩ := bd_J hf
  refine k_callVv hK (c_X3_findFitting h3) dX10_laws_4 zclX3 zo_104 ml_X10_353 mi_X3_findFitting mx_X3_findFitting in_X3 mc_X3_findFitting hy_X3_findFitting ⟨by decide, by decide⟩ rfl (Nat.le_of_ble_eq_true rfl) ?_
  refine j_aload_n hK dX10_laws_7 0 rfl rfl ?_
  refine j_getR hK fl_X10_26 dX10_laws_8 zo_0 zf_10_2 zr_0_2 ?_
  obtain ⟨r4, S5, h6, hf⟩ := bd_J hf
  refine k_callVv hK (c_X5_begin h6) dX10_laws_11 zclX5 zo_10 ml_X10_185 mi_X5_begin mx_X5_begin in_X5 mc_X5_begin hy_X5_begin ⟨by decide, by decide⟩ rfl (Nat.le_of_ble_eq_true rfl) ?_
  refine j_aload_n hK dX10_laws_14 0 rfl rfl ?_
  refine j_getR hK fl_X10_63 dX10_laws_15 zo_0 zf_10_7 zr_0_7 ?_
  refine j_pc (pc' := 18) rfl ?_
  refine j_getI hK fl_X10_356 dX10_laws_18 zo_104 zf_3_5 ?_
  refine j_if_le hK 64 dX10_laws_21 (by decide) (fun hc => ?_) (fun hc => ?_)
  · replace hf := if_1 hc hf
    exact t_X10_laws_64 hK hA  hf
  · replace hf := if_2 hc hf
    refine j_aload_n hK dX10_laws_24 0 rfl rfl ?_
    refine j_getR hK fl_X10_26 dX10_laws_25 zo_0 zf_10_2 zr_0_2 ?_
    refine j_aload_n hK dX10_laws_28 0 rfl rfl ?_
    refine j_getR hK fl_X10_63 dX10_laws_29 zo_0 zf_10_7 zr_0_7 ?_
    refine j_getR hK fl_X10_359 dX10_laws_32 zo_104 zf_3_4 zr_104_4 ?_
    refine j_iconst hK (0 : Int32) dX10_laws_35 ic_0 ?_
    refine k_iald hK dX10_laws_36 zb_108 (by decide) tn_0 ?_
    refine j_pc (pc' := 37) rfl ?_
    refine j_bipush hK (8 : Int32) dX10_laws_37 bi_8 ?_
    refine j_idiv hK dX10_laws_39 (by decide) ?_
    refine j_i2l hK dX10_laws_40 ?_
    obtain ⟨r7, S8, h9, hf⟩ := bd_J hf
    refine k_callVv hK (c_X5_put h9) dX10_laws_41 zclX5 zo_10 ml_X10_191 mi_X5_put mx_X5_put in_X5 mc_X5_put hy_X5_put ⟨by decide, by decide⟩ rfl (Nat.le_of_ble_eq_true rfl) ?_
    refine j_aload_n hK dX10_laws_44 0 rfl rfl ?_
    refine j_getR hK fl_X10_26 dX10_laws_45 zo_0 zf_10_2 zr_0_2 ?_
    refine j_aload_n hK dX10_laws_48 0 rfl rfl ?_
    refine j_getR hK fl_X10_63 dX10_laws_49 zo_0 zf_10_7 zr_0_7 ?_
    refine j_pc (pc' := 52) rfl ?_
    refine j_getR hK fl_X10_359 dX10_laws_52 zo_104 zf_3_4 zr_104_4 ?_
    refine j_iconst hK (0 : Int32) dX10_laws_55 ic_0 ?_
    refine k_iald hK dX10_laws_56 zb_108 (by decide) tn_0 ?_
    refine j_bipush hK (8 : Int32) dX10_laws_57 bi_8 ?_
    refine j_irem hK dX10_laws_59 (by decide) ?_
    refine j_i2l hK dX10_laws_60 ?_
    obtain ⟨r10, S11, h12, hf⟩ := bd_J hf
    refine k_callVv hK (c_X5_put h12) dX10_laws_61 zclX5 zo_10 ml_X10_191 mi_X5_put mx_X5_put in_X5 mc_X5_put hy_X5_put ⟨by decide, by decide⟩ rfl (Nat.le_of_ble_eq_true rfl) ?_
    exact t_X10_laws_64 hK hA  hf
def f_X3_mostLeft_26b (x1 : Int32) (x2 : Int32) (e : Int32 × Int32 → St → Option (Int32 × St)) (k : Int32 × Int32 → St → Option (Int32 × St)) (v : Int32 × Int32) (S : St) : Option (Int32 × St) := (if (gI S 104 5) ≤ v.2 then e (v.1, v.2) S else if inb v.2 64 then bd (f_X3_becomesBy (gI S 108 v.2.toNatClampNeg) x1 x2 S) (fun r2 S3 => if inb r2 8 then if inb r2 8 then lt (sI S3 109 r2.toNatClampNeg ((gI S3 109 r2.toNatClampNeg) + (1 : Int32))) (fun S7 => if inb r2 8 then lt (mxI v.1 (gI S7 109 r2.toNatClampNeg)) (fun y9 => k (y9, (v.2 + (1 : Int32))) S7) else none) else none else none) else none)
theorem t_X3_mostLeft_26 {K : CT} (hK : KO K cX3_mostLeft RX3 6 2 (some .int)) {r : Int32} {S' : St} (hA : zans K = (some (.int r), S')) {x1 : Int32} {x2 : Int32} {e : Int32 × Int32 → St → Option (Int32 × St)} (he : ∀ (v : Int32 × Int32) (S : St), e v S = some (r, S') → J K 78 [(3, .int v.1)] [] S) : ∀ (n : Nat) (v : Int32 × Int32) (S : St), lp (f_X3_mostLeft_26b x1 x2 e) n v S = some (r, S') → J K 26 [(0, .ref 104), (1, .int x1), (2, .int x2), (3, .int v.1), (4, .int v.2)] [] S :=
  lp_J (P := fun (v : Int32 × Int32) (S : St) => J K 26 [(0, .ref 104), (1, .int x1), (2, .int x2), (3, .int v.1), (4, .int v.2)] [] S) (fun k hk v S hf => by
    unfold f_X3_mostLeft_26b at hf
    refine j_iload hK dX3_mostLeft_26 4 rfl ?_
    refine j_aload_n hK dX3_mostLeft_28 0 rfl rfl ?_
    refine j_getI hK fl_X3_28 dX3_mostLeft_29 zo_104 zf_3_5 ?_
    refine j_icmp_ge hK 78 dX3_mostLeft_32 (by decide) (fun hc => ?_) (fun hc => ?_)
    · replace hf := if_1 hc hf
      refine j_sub [3] rfl ?_
      exact he _ _ hf
    · replace hf := if_2 hc hf
      refine j_aload_n hK dX3_mostLeft_35 0 rfl rfl ?_
      refine j_getR hK fl_X3_25 dX3_mostLeft_36 zo_104 zf_3_4 zr_104_4 ?_
      refine j_iload hK dX3_mostLeft_39 4 rfl ?_
      obtain ⟨hi1, hf⟩ := gd hf
      refine k_iald hK dX3_mostLeft_41 zb_108 hi1 rfl ?_
      refine j_iload_n hK dX3_mostLeft_42 1 rfl rfl ?_
      refine j_iload_n hK dX3_mostLeft_43 2 rfl rfl ?_
      obtain ⟨r2, S3, h4, hf⟩ := bd_J hf
      refine k_callSi hK (c_X3_becomesBy h4) dX3_mostLeft_44 ml_X3_41 ms_X3_becomesBy in_X3 mc_X3_becomesBy hy_X3_becomesBy ⟨by decide, by decide⟩ rfl (Nat.le_of_ble_eq_true rfl) ?_
      refine j_pc (pc' := 47) rfl ?_
      refine j_istore hK (L' := [(5, .int r2), (0, .ref 104), (1, .int x1), (2, .int x2), (3, .int v.1), (4, .int v.2)]) dX3_mostLeft_47 (by decide) rfl ?_
      refine j_aload_n hK dX3_mostLeft_49 1 rfl rfl ?_
      refine j_getR hK fl_X3_31 dX3_mostLeft_50 zo_104 zf_3_6 zr_104_6 ?_
      refine j_iload hK dX3_mostLeft_53 0 rfl ?_
      refine j_dup2 hK dX3_mostLeft_55 rfl rfl ?_
      obtain ⟨hi5, hf⟩ := gd hf
      refine k_iald hK dX3_mostLeft_56 zb_109 hi5 rfl ?_
      refine j_iconst hK (1 : Int32) dX3_mostLeft_57 ic_1 ?_
      refine j_iadd hK dX3_mostLeft_58 ?_
      refine j_pc (pc' := 59) rfl ?_
      obtain ⟨hi6, hf⟩ := gd hf
      refine k_iast hK dX3_mostLeft_59 zb_109 hi6 rfl ?_
      refine lt_S hf (fun S7 hf => ?_)
      refine j_iload_n hK dX3_mostLeft_60 4 rfl rfl ?_
      refine j_aload_n hK dX3_mostLeft_61 1 rfl rfl ?_
      refine j_getR hK fl_X3_31 dX3_mostLeft_62 zo_104 zf_3_6 zr_104_6 ?_
      refine j_iload hK dX3_mostLeft_65 0 rfl ?_
      obtain ⟨hi8, hf⟩ := gd hf
      refine k_iald hK dX3_mostLeft_67 zb_109 hi8 rfl ?_
      refine j_max hK ml_X3_45 dX3_mostLeft_68 (by decide) (Nat.le_of_ble_eq_true rfl) ?_
      refine lt_I hf (fun y9 hf => ?_)
      refine j_istore_n hK (L' := [(3, .int y9), (5, .int r2), (0, .ref 104), (1, .int x1), (2, .int x2), (4, .int v.2)]) dX3_mostLeft_71 rfl (by decide) rfl ?_
      refine j_pc (pc' := 72) rfl ?_
      refine j_iinc hK (L' := [(4, .int (v.2 + (1 : Int32))), (3, .int y9), (5, .int r2), (0, .ref 104), (1, .int x1), (2, .int x2)]) dX3_mostLeft_72 5 rfl (congrArg (fun y => v.2 + y) ic_1) (by decide) rfl ?_
      refine j_goto hK 26 dX3_mostLeft_75 (by decide) ?_
      refine j_sub [3, 4, 5, 1, 0] rfl ?_
      exact hk _ _ hf)
def f_X3_mostLeft_2b (x1 : Int32) (x2 : Int32) (e : Int32 → St → Option (Int32 × St)) (k : Int32 → St → Option (Int32 × St)) (v : Int32) (S : St) : Option (Int32 × St) := (if (8 : Int32) ≤ v then e v S else if inb v 8 then lt (sI S 109 v.toNatClampNeg (0 : Int32)) (fun S11 => k (v + (1 : Int32)) S11) else none)
theorem t_X3_mostLeft_2 {K : CT} (hK : KO K cX3_mostLeft RX3 6 2 (some .int)) {r : Int32} {S' : St} (hA : zans K = (some (.int r), S')) {x1 : Int32} {x2 : Int32} {e : Int32 → St → Option (Int32 × St)} (he : ∀ (v : Int32) (S : St), e v S = some (r, S') → J K 21 [(0, .ref 104), (1, .int x1), (2, .int x2)] [] S) : ∀ (n : Nat) (v : Int32) (S : St), lp (f_X3_mostLeft_2b x1 x2 e) n v S = some (r, S') → J K 2 [(0, .ref 104), (1, .int x1), (2, .int x2), (3, .int v)] [] S :=
  lp_J (P := fun (v : Int32) (S : St) => J K 2 [(0, .ref 104), (1, .int x1), (2, .int x2), (3, .int v)] [] S) (fun k hk v S hf => by
    unfold f_X3_mostLeft_2b at hf
    refine j_iload_n hK dX3_mostLeft_2 3 rfl rfl ?_
    refine j_bipush hK (8 : Int32) dX3_mostLeft_3 bi_8 ?_
    refine j_icmp_ge hK 21 dX3_mostLeft_5 (by decide) (fun hc => ?_) (fun hc => ?_)
    · replace hf := if_1 hc hf
      refine j_sub [0, 1, 2] rfl ?_
      exact he _ _ hf
    · replace hf := if_2 hc hf
      refine j_aload_n hK dX3_mostLeft_8 0 rfl rfl ?_
      refine j_getR hK fl_X3_31 dX3_mostLeft_9 zo_104 zf_3_6 zr_104_6 ?_
      refine j_iload_n hK dX3_mostLeft_12 3 rfl rfl ?_
      refine j_iconst hK (0 : Int32) dX3_mostLeft_13 ic_0 ?_
      obtain ⟨hi10, hf⟩ := gd hf
      refine k_iast hK dX3_mostLeft_14 zb_109 hi10 rfl ?_
      refine lt_S hf (fun S11 hf => ?_)
      refine j_iinc hK (L' := [(3, .int (v + (1 : Int32))), (0, .ref 104), (1, .int x1), (2, .int x2)]) dX3_mostLeft_15 3 rfl (congrArg (fun y => v + y) ic_1) (by decide) rfl ?_
      refine j_goto hK 2 dX3_mostLeft_18 (by decide) ?_
      refine j_sub [1, 2, 3, 0] rfl ?_
      exact hk _ _ hf)
def f_X3_mostLeft (p1 : Int32) (p2 : Int32) (S : St) : Option (Int32 × St) := lp (f_X3_mostLeft_2b p1 p2 (fun v12 S13 => lp (f_X3_mostLeft_26b p1 p2 (fun v14 S15 => some (v14.1, S15))) FU ((0 : Int32), (0 : Int32)) S13)) FU (0 : Int32) S
theorem c_X3_mostLeft {p1 : Int32} {p2 : Int32} {S : St} {r : Int32} {S' : St} (hf : f_X3_mostLeft p1 p2 S = some (r, S')) : zM yX3_mostLeft cX3_mostLeft 6 2 (some .int) [.ref 104, .int p1, .int p2] S (some (.int r)) S' := by
  refine zM_of (zpl (by decide)) (Nat.le_of_ble_eq_true rfl) rfl (fun K hK hA => ?_)
  unfold f_X3_mostLeft at hf
  refine j_iconst hK (0 : Int32) dX3_mostLeft_0 ic_0 ?_
  refine j_istore_n hK (L' := [(3, .int (0 : Int32)), (0, .ref 104), (1, .int p1), (2, .int p2)]) dX3_mostLeft_1 rfl (by decide) rfl ?_
  refine j_sub [1, 2, 3, 0] rfl ?_
  refine t_X3_mostLeft_2 hK hA  (fun v12 S13 hf => ?_) _ _ _ hf
  refine j_iconst hK (0 : Int32) dX3_mostLeft_21 ic_0 ?_
  refine j_istore_n hK (L' := [(3, .int (0 : Int32)), (0, .ref 104), (1, .int p1), (2, .int p2)]) dX3_mostLeft_22 rfl (by decide) rfl ?_
  refine j_iconst hK (0 : Int32) dX3_mostLeft_23 ic_0 ?_
  refine j_istore hK (L' := [(4, .int (0 : Int32)), (3, .int (0 : Int32)), (0, .ref 104), (1, .int p1), (2, .int p2)]) dX3_mostLeft_24 (by decide) rfl ?_
  refine j_sub [2, 3, 4, 1, 0] rfl ?_
  refine t_X3_mostLeft_26 hK hA  (fun v14 S15 hf => ?_) _ _ _ hf
  refine j_iload_n hK dX3_mostLeft_78 0 rfl rfl ?_
  exact j_iret hK dX3_mostLeft_79 rfl (rt_I hA hf)
def f_X10_listens_72 (x1 : Int32) (x2 : Int32) (x3 : Int32) (x4 : Int32) (k e : Int32 × Int32 × Int32 → St → Option (Int32 × St)) (S : St) : Option (Int32 × St) := k (x1, x2, (x4 + (1 : Int32))) S
theorem t_X10_listens_72 {K : CT} (hK : KO K cX10_listens RX10 6 4 (some .int)) {r : Int32} {S' : St} (hA : zans K = (some (.int r), S')) {x1 : Int32} {x2 : Int32} {x3 : Int32} {x4 : Int32} {k e : Int32 × Int32 × Int32 → St → Option (Int32 × St)} (hk : ∀ (v : Int32 × Int32 × Int32) (S : St), k v S = some (r, S') → J K 36 [(0, .ref 0), (1, .int v.1), (2, .int v.2.1), (3, .int x3), (4, .int v.2.2)] [] S) (he : ∀ (v : Int32 × Int32 × Int32) (S : St), e v S = some (r, S') → J K 78 [(0, .ref 0), (1, .int v.1), (2, .int v.2.1), (3, .int x3)] [] S) {S : St} (hf : f_X10_listens_72 x1 x2 x3 x4 k e S = some (r, S')) : J K 72 [(0, .ref 0), (1, .int x1), (2, .int x2), (3, .int x3), (4, .int x4)] [] S := by
  unfold f_X10_listens_72 at hf
  refine j_iinc hK (L' := [(4, .int (x4 + (1 : Int32))), (0, .ref 0), (1, .int x1), (2, .int x2), (3, .int x3)]) dX10_listens_72 4 rfl (congrArg (fun y => x4 + y) ic_1) (by decide) rfl ?_
  refine j_goto hK 36 dX10_listens_75 (by decide) ?_
  refine j_sub [1, 2, 3, 4, 0] rfl ?_
  exact hk _ _ hf
def f_X10_listens_36b (x3 : Int32) (e : Int32 × Int32 × Int32 → St → Option (Int32 × St)) (k : Int32 × Int32 × Int32 → St → Option (Int32 × St)) (v : Int32 × Int32 × Int32) (S : St) : Option (Int32 × St) := (if (9 : Int32) < v.2.2 then e (v.1, v.2.1, v.2.2) S else bd (f_X3_mostLeft x3 v.2.2 S) (fun r1 S2 => (if v.2.1 ≤ r1 then f_X10_listens_72 v.1 v.2.1 x3 v.2.2 k e S2 else lt (((10 : Int32) * x3) + v.2.2) (fun y4 => f_X10_listens_72 y4 r1 x3 v.2.2 k e S2))))
theorem t_X10_listens_36 {K : CT} (hK : KO K cX10_listens RX10 6 4 (some .int)) {r : Int32} {S' : St} (hA : zans K = (some (.int r), S')) {x3 : Int32} {e : Int32 × Int32 × Int32 → St → Option (Int32 × St)} (he : ∀ (v : Int32 × Int32 × Int32) (S : St), e v S = some (r, S') → J K 78 [(0, .ref 0), (1, .int v.1), (2, .int v.2.1), (3, .int x3)] [] S) : ∀ (n : Nat) (v : Int32 × Int32 × Int32) (S : St), lp (f_X10_listens_36b x3 e) n v S = some (r, S') → J K 36 [(0, .ref 0), (1, .int v.1), (2, .int v.2.1), (3, .int x3), (4, .int v.2.2)] [] S :=
  lp_J (P := fun (v : Int32 × Int32 × Int32) (S : St) => J K 36 [(0, .ref 0), (1, .int v.1), (2, .int v.2.1), (3, .int x3), (4, .int v.2.2)] [] S) (fun k hk v S hf => by
    unfold f_X10_listens_36b at hf
    refine j_iload hK dX10_listens_36 4 rfl ?_
    refine j_bipush hK (9 : Int32) dX10_listens_38 bi_9 ?_
    refine j_icmp_gt hK 78 dX10_listens_40 (by decide) (fun hc => ?_) (fun hc => ?_)
    · replace hf := if_1 hc hf
      refine j_sub [0, 1, 2, 3] rfl ?_
      exact he _ _ hf
    · replace hf := if_2 hc hf
      refine j_aload_n hK dX10_listens_43 0 rfl rfl ?_
      refine j_getR hK fl_X10_63 dX10_listens_44 zo_0 zf_10_7 zr_0_7 ?_
      refine j_iload_n hK dX10_listens_47 3 rfl rfl ?_
      refine j_iload hK dX10_listens_48 4 rfl ?_
      obtain ⟨r1, S2, h3, hf⟩ := bd_J hf
      refine k_callVi hK (c_X3_mostLeft h3) dX10_listens_50 zclX3 zo_104 ml_X10_362 mi_X3_mostLeft mx_X3_mostLeft in_X3 mc_X3_mostLeft hy_X3_mostLeft ⟨by decide, by decide⟩ rfl (Nat.le_of_ble_eq_true rfl) ?_
      refine j_istore hK (L' := [(5, .int r1), (0, .ref 0), (1, .int v.1), (2, .int v.2.1), (3, .int x3), (4, .int v.2.2)]) dX10_listens_53 (by decide) rfl ?_
      refine j_iload hK dX10_listens_55 0 rfl ?_
      refine j_pc (pc' := 57) rfl ?_
      refine j_iload_n hK dX10_listens_57 3 rfl rfl ?_
      refine j_icmp_ge hK 72 dX10_listens_58 (by decide) (fun hc => ?_) (fun hc => ?_)
      · replace hf := if_1 hc hf
        refine j_sub [1, 2, 3, 4, 5] rfl ?_
        exact t_X10_listens_72 hK hA hk he hf
      · replace hf := if_2 hc hf
        refine j_bipush hK (10 : Int32) dX10_listens_61 bi_10 ?_
        refine j_iload_n hK dX10_listens_63 4 rfl rfl ?_
        refine j_imul hK dX10_listens_64 ?_
        refine j_iload hK dX10_listens_65 5 rfl ?_
        refine j_iadd hK dX10_listens_67 ?_
        refine lt_I hf (fun y4 hf => ?_)
        refine j_istore_n hK (L' := [(1, .int y4), (5, .int r1), (0, .ref 0), (2, .int v.2.1), (3, .int x3), (4, .int v.2.2)]) dX10_listens_68 rfl (by decide) rfl ?_
        refine j_iload hK dX10_listens_69 1 rfl ?_
        refine j_pc (pc' := 71) rfl ?_
        refine j_istore_n hK (L' := [(2, .int r1), (1, .int y4), (5, .int r1), (0, .ref 0), (3, .int x3), (4, .int v.2.2)]) dX10_listens_71 rfl (by decide) rfl ?_
        refine j_sub [3, 1, 0, 4, 5] rfl ?_
        exact t_X10_listens_72 hK hA hk he hf)
def f_X10_listens_27b (e : Int32 × Int32 × Int32 → St → Option (Int32 × St)) (k : Int32 × Int32 × Int32 → St → Option (Int32 × St)) (v : Int32 × Int32 × Int32) (S : St) : Option (Int32 × St) := (if (8 : Int32) ≤ v.2.2 then e (v.1, v.2.1, v.2.2) S else lp (f_X10_listens_36b v.2.2 (fun v5 S6 => k (v5.1, v5.2.1, (v.2.2 + (1 : Int32))) S6)) FU (v.1, v.2.1, (0 : Int32)) S)
theorem t_X10_listens_27 {K : CT} (hK : KO K cX10_listens RX10 6 4 (some .int)) {r : Int32} {S' : St} (hA : zans K = (some (.int r), S')) {e : Int32 × Int32 × Int32 → St → Option (Int32 × St)} (he : ∀ (v : Int32 × Int32 × Int32) (S : St), e v S = some (r, S') → J K 84 [(0, .ref 0), (1, .int v.1), (2, .int v.2.1)] [] S) : ∀ (n : Nat) (v : Int32 × Int32 × Int32) (S : St), lp (f_X10_listens_27b  e) n v S = some (r, S') → J K 27 [(0, .ref 0), (1, .int v.1), (2, .int v.2.1), (3, .int v.2.2)] [] S :=
  lp_J (P := fun (v : Int32 × Int32 × Int32) (S : St) => J K 27 [(0, .ref 0), (1, .int v.1), (2, .int v.2.1), (3, .int v.2.2)] [] S) (fun k hk v S hf => by
    unfold f_X10_listens_27b at hf
    refine j_iload_n hK dX10_listens_27 3 rfl rfl ?_
    refine j_bipush hK (8 : Int32) dX10_listens_28 bi_8 ?_
    refine j_icmp_ge hK 84 dX10_listens_30 (by decide) (fun hc => ?_) (fun hc => ?_)
    · replace hf := if_1 hc hf
      refine j_sub [0, 1, 2] rfl ?_
      exact he _ _ hf
    · replace hf := if_2 hc hf
      refine j_iconst hK (0 : Int32) dX10_listens_33 ic_0 ?_
      refine j_istore hK (L' := [(4, .int (0 : Int32)), (0, .ref 0), (1, .int v.1), (2, .int v.2.1), (3, .int v.2.2)]) dX10_listens_34 (by decide) rfl ?_
      refine j_sub [1, 2, 3, 4, 0] rfl ?_
      refine t_X10_listens_36 hK hA  (fun v5 S6 hf => ?_) _ _ _ hf
      refine j_iinc hK (L' := [(3, .int (v.2.2 + (1 : Int32))), (0, .ref 0), (1, .int v5.1), (2, .int v5.2.1)]) dX10_listens_78 3 rfl (congrArg (fun y => v.2.2 + y) ic_1) (by decide) rfl ?_
      refine j_goto hK 27 dX10_listens_81 (by decide) ?_
      refine j_sub [1, 2, 3, 0] rfl ?_
      exact hk _ _ hf)
def f_X10_listens (S : St) : Option (Int32 × St) := bd (f_X3_findFitting S) (fun r7 S8 => (if (gI S8 104 5) = 0 then some ((-2 : Int32), S8) else lp (f_X10_listens_27b  (fun v10 S11 => bd (f_X5_begin S11) (fun r12 S13 => bd (f_X5_put v10.2.1.toInt64 S13) (fun r15 S16 => some (v10.1, S16))))) FU ((-1 : Int32), (65 : Int32), (0 : Int32)) S8))
theorem c_X10_listens {S : St} {r : Int32} {S' : St} (hf : f_X10_listens S = some (r, S')) : zM yX10_listens cX10_listens 6 4 (some .int) [.ref 0] S (some (.int r)) S' := by
  refine zM_of (zpl (by decide)) (Nat.le_of_ble_eq_true rfl) rfl (fun K hK hA => ?_)
  unfold f_X10_listens at hf
  refine j_aload_n hK dX10_listens_0 0 rfl rfl ?_
  refine j_getR hK fl_X10_63 dX10_listens_1 zo_0 zf_10_7 zr_0_7 ?_
  obtain ⟨r7, S8, h9, hf⟩ := bd_J hf
  refine k_callVv hK (c_X3_findFitting h9) dX10_listens_4 zclX3 zo_104 ml_X10_353 mi_X3_findFitting mx_X3_findFitting in_X3 mc_X3_findFitting hy_X3_findFitting ⟨by decide, by decide⟩ rfl (Nat.le_of_ble_eq_true rfl) ?_
  refine j_aload_n hK dX10_listens_7 0 rfl rfl ?_
  refine j_getR hK fl_X10_63 dX10_listens_8 zo_0 zf_10_7 zr_0_7 ?_
  refine j_getI hK fl_X10_356 dX10_listens_11 zo_104 zf_3_5 ?_
  refine j_if_ne hK 20 dX10_listens_14 (by decide) (fun hc => ?_) (fun hc => ?_)
  · replace hf := if_2 hc hf
    refine j_iconst hK (-1 : Int32) dX10_listens_20 ic_m1 ?_
    refine j_istore_n hK (L' := [(1, .int (-1 : Int32)), (0, .ref 0)]) dX10_listens_21 rfl (by decide) rfl ?_
    refine j_bipush hK (65 : Int32) dX10_listens_22 bi_65 ?_
    refine j_istore_n hK (L' := [(2, .int (65 : Int32)), (1, .int (-1 : Int32)), (0, .ref 0)]) dX10_listens_24 rfl (by decide) rfl ?_
    refine j_iconst hK (0 : Int32) dX10_listens_25 ic_0 ?_
    refine j_istore_n hK (L' := [(3, .int (0 : Int32)), (2, .int (65 : Int32)), (1, .int (-1 : Int32)), (0, .ref 0)]) dX10_listens_26 rfl (by decide) rfl ?_
    refine j_sub [3, 2, 1, 0] rfl ?_
    refine t_X10_listens_27 hK hA  (fun v10 S11 hf => ?_) _ _ _ hf
    refine j_aload_n hK dX10_listens_84 0 rfl rfl ?_
    refine j_getR hK fl_X10_26 dX10_listens_85 zo_0 zf_10_2 zr_0_2 ?_
    obtain ⟨r12, S13, h14, hf⟩ := bd_J hf
    refine k_callVv hK (c_X5_begin h14) dX10_listens_88 zclX5 zo_10 ml_X10_185 mi_X5_begin mx_X5_begin in_X5 mc_X5_begin hy_X5_begin ⟨by decide, by decide⟩ rfl (Nat.le_of_ble_eq_true rfl) ?_
    refine j_aload_n hK dX10_listens_91 0 rfl rfl ?_
    refine j_getR hK fl_X10_26 dX10_listens_92 zo_0 zf_10_2 zr_0_2 ?_
    refine j_iload_n hK dX10_listens_95 2 rfl rfl ?_
    refine j_i2l hK dX10_listens_96 ?_
    refine j_pc (pc' := 97) rfl ?_
    obtain ⟨r15, S16, h17, hf⟩ := bd_J hf
    refine k_callVv hK (c_X5_put h17) dX10_listens_97 zclX5 zo_10 ml_X10_191 mi_X5_put mx_X5_put in_X5 mc_X5_put hy_X5_put ⟨by decide, by decide⟩ rfl (Nat.le_of_ble_eq_true rfl) ?_
    refine j_iload_n hK dX10_listens_100 1 rfl rfl ?_
    exact j_iret hK dX10_listens_101 rfl (rt_I hA hf)
  · replace hf := if_1 hc hf
    refine j_bipush hK (-2 : Int32) dX10_listens_17 bi_m2 ?_
    exact j_iret hK dX10_listens_19 rfl (rt_I hA hf)
def f_X2_spread_85b (ru : Nat) (x3 : Int32) (x4 : Int64) (x6 : Int32) (e : Int32 → St → Option (Int64 × St)) (k : Int32 → St → Option (Int64 × St)) (v : Int32) (S : St) : Option (Int64 × St) := (if (8 : Int32) ≤ v then e v S else if inb x6 12 then if inb x6 12 then bd (f_X6_changed ru (gI S 93 x6.toNatClampNeg) (gI S 94 x6.toNatClampNeg) (0 : Int32) v S) (fun r3 S4 => if inb r3 8 then if inb v 8 then lt ((gL S4 97 r3.toNatClampNeg) + ((gL S4 96 v.toNatClampNeg) * ((10 : Int32) - x3).toInt64)) (fun y8 => if inb r3 8 then lt (sL S4 97 r3.toNatClampNeg y8) (fun S10 => k (v + (1 : Int32)) S10) else none) else none else none) else none else none)
theorem t_X2_spread_85 {K : CT} (hK : KO K cX2_spread RX2 8 4 (some .long)) {r : Int64} {S' : St} (hA : zans K = (some (.long r), S')) {ru : Nat} (hru : isRule ru) {x3 : Int32} {x4 : Int64} {x6 : Int32} {e : Int32 → St → Option (Int64 × St)} (he : ∀ (v : Int32) (S : St), e v S = some (r, S') → J K 147 [(0, .ref 92), (1, .ref ru), (3, .int x3), (4, .long x4), (6, .int x6)] [] S) : ∀ (n : Nat) (v : Int32) (S : St), lp (f_X2_spread_85b ru x3 x4 x6 e) n v S = some (r, S') → J K 85 [(0, .ref 92), (1, .ref ru), (3, .int x3), (4, .long x4), (6, .int x6), (7, .int v)] [] S :=
  lp_J (P := fun (v : Int32) (S : St) => J K 85 [(0, .ref 92), (1, .ref ru), (3, .int x3), (4, .long x4), (6, .int x6), (7, .int v)] [] S) (fun k hk v S hf => by
    unfold f_X2_spread_85b at hf
    refine j_iload hK dX2_spread_85 5 rfl ?_
    refine j_bipush hK (8 : Int32) dX2_spread_87 bi_8 ?_
    refine j_icmp_ge hK 147 dX2_spread_89 (by decide) (fun hc => ?_) (fun hc => ?_)
    · replace hf := if_1 hc hf
      refine j_sub [0, 1, 2, 3, 4] rfl ?_
      exact he _ _ hf
    · replace hf := if_2 hc hf
      refine j_aload_n hK dX2_spread_92 0 rfl rfl ?_
      refine j_getR hK fl_X2_39 dX2_spread_93 zo_92 zf_2_8 zr_92_8 ?_
      refine j_aload_n hK dX2_spread_96 1 rfl rfl ?_
      refine j_aload_n hK dX2_spread_97 0 rfl rfl ?_
      refine j_getR hK fl_X2_9 dX2_spread_98 zo_92 zf_2_0 zr_92_0 ?_
      refine j_getR hK fl_X2_55 dX2_spread_101 zo_3 zf_0_3 zr_3_3 ?_
      refine j_aload_n hK dX2_spread_104 0 rfl rfl ?_
      refine j_pc (pc' := 105) rfl ?_
      refine j_getR hK fl_X2_15 dX2_spread_105 zo_92 zf_2_1 zr_92_1 ?_
      refine j_iload hK dX2_spread_108 4 rfl ?_
      obtain ⟨hi1, hf⟩ := gd hf
      refine k_iald hK dX2_spread_110 zb_93 hi1 rfl ?_
      refine j_aload_n hK dX2_spread_111 0 rfl rfl ?_
      refine j_getR hK fl_X2_19 dX2_spread_112 zo_92 zf_2_2 zr_92_2 ?_
      refine j_iload hK dX2_spread_115 4 rfl ?_
      obtain ⟨hi2, hf⟩ := gd hf
      refine k_iald hK dX2_spread_117 zb_94 hi2 rfl ?_
      refine j_iconst hK (0 : Int32) dX2_spread_118 ic_0 ?_
      refine j_pc (pc' := 119) rfl ?_
      refine j_iload hK dX2_spread_119 5 rfl ?_
      obtain ⟨r3, S4, h5, hf⟩ := bd_J hf
      refine k_callVi hK (c_X6_changed hru h5) dX2_spread_121 zclX6 (ru_o hru) ml_X2_86 mi_X6_changed mx_X6_changed in_X6 mc_X6_changed hy_X6_changed ⟨by decide, by decide⟩ rfl (Nat.le_of_ble_eq_true rfl) ?_
      refine j_dup2 hK dX2_spread_124 rfl rfl ?_
      obtain ⟨hi6, hf⟩ := gd hf
      refine k_lald hK dX2_spread_125 zb_97 hi6 rfl ?_
      refine j_aload_n hK dX2_spread_126 0 rfl rfl ?_
      refine j_getR hK fl_X2_35 dX2_spread_127 zo_92 zf_2_7 zr_92_7 ?_
      refine j_iload hK dX2_spread_130 5 rfl ?_
      obtain ⟨hi7, hf⟩ := gd hf
      refine k_lald hK dX2_spread_132 zb_96 hi7 rfl ?_
      refine j_pc (pc' := 133) rfl ?_
      refine j_bipush hK (10 : Int32) dX2_spread_133 bi_10 ?_
      refine j_iload_n hK dX2_spread_135 2 rfl rfl ?_
      refine j_isub hK dX2_spread_136 ?_
      refine j_i2l hK dX2_spread_137 ?_
      refine j_lmul hK dX2_spread_138 ?_
      refine j_ladd hK dX2_spread_139 ?_
      refine lt_L hf (fun y8 hf => ?_)
      obtain ⟨hi9, hf⟩ := gd hf
      refine k_last hK dX2_spread_140 zb_97 hi9 rfl ?_
      refine lt_S hf (fun S10 hf => ?_)
      refine j_iinc hK (L' := [(7, .int (v + (1 : Int32))), (0, .ref 92), (1, .ref ru), (3, .int x3), (4, .long x4), (6, .int x6)]) dX2_spread_141 5 rfl (congrArg (fun y => v + y) ic_1) (by decide) rfl ?_
      refine j_pc (pc' := 144) rfl ?_
      refine j_goto hK 85 dX2_spread_144 (by decide) ?_
      refine j_sub [1, 2, 3, 4, 5, 0] rfl ?_
      exact hk _ _ hf)
def f_X2_spread_52b (ru : Nat) (x3 : Int32) (x4 : Int64) (x6 : Int32) (e : Int32 → St → Option (Int64 × St)) (k : Int32 → St → Option (Int64 × St)) (v : Int32) (S : St) : Option (Int64 × St) := (if (8 : Int32) ≤ v then e v S else if inb v 8 then if inb v 8 then lt (sL S 97 v.toNatClampNeg ((gL S 96 v.toNatClampNeg) * x3.toInt64)) (fun S13 => k (v + (1 : Int32)) S13) else none else none)
theorem t_X2_spread_52 {K : CT} (hK : KO K cX2_spread RX2 8 4 (some .long)) {r : Int64} {S' : St} (hA : zans K = (some (.long r), S')) {ru : Nat} (hru : isRule ru) {x3 : Int32} {x4 : Int64} {x6 : Int32} {e : Int32 → St → Option (Int64 × St)} (he : ∀ (v : Int32) (S : St), e v S = some (r, S') → J K 82 [(0, .ref 92), (1, .ref ru), (3, .int x3), (4, .long x4), (6, .int x6)] [] S) : ∀ (n : Nat) (v : Int32) (S : St), lp (f_X2_spread_52b ru x3 x4 x6 e) n v S = some (r, S') → J K 52 [(0, .ref 92), (1, .ref ru), (3, .int x3), (4, .long x4), (6, .int x6), (7, .int v)] [] S :=
  lp_J (P := fun (v : Int32) (S : St) => J K 52 [(0, .ref 92), (1, .ref ru), (3, .int x3), (4, .long x4), (6, .int x6), (7, .int v)] [] S) (fun k hk v S hf => by
    unfold f_X2_spread_52b at hf
    refine j_iload hK dX2_spread_52 5 rfl ?_
    refine j_bipush hK (8 : Int32) dX2_spread_54 bi_8 ?_
    refine j_icmp_ge hK 82 dX2_spread_56 (by decide) (fun hc => ?_) (fun hc => ?_)
    · replace hf := if_1 hc hf
      refine j_sub [0, 1, 2, 3, 4] rfl ?_
      exact he _ _ hf
    · replace hf := if_2 hc hf
      refine j_aload_n hK dX2_spread_59 0 rfl rfl ?_
      refine j_getR hK fl_X2_39 dX2_spread_60 zo_92 zf_2_8 zr_92_8 ?_
      refine j_iload hK dX2_spread_63 5 rfl ?_
      refine j_aload_n hK dX2_spread_65 0 rfl rfl ?_
      refine j_getR hK fl_X2_35 dX2_spread_66 zo_92 zf_2_7 zr_92_7 ?_
      refine j_iload hK dX2_spread_69 5 rfl ?_
      obtain ⟨hi11, hf⟩ := gd hf
      refine k_lald hK dX2_spread_71 zb_96 hi11 rfl ?_
      refine j_pc (pc' := 72) rfl ?_
      refine j_iload_n hK dX2_spread_72 2 rfl rfl ?_
      refine j_i2l hK dX2_spread_73 ?_
      refine j_lmul hK dX2_spread_74 ?_
      obtain ⟨hi12, hf⟩ := gd hf
      refine k_last hK dX2_spread_75 zb_97 hi12 rfl ?_
      refine lt_S hf (fun S13 hf => ?_)
      refine j_iinc hK (L' := [(7, .int (v + (1 : Int32))), (0, .ref 92), (1, .ref ru), (3, .int x3), (4, .long x4), (6, .int x6)]) dX2_spread_76 5 rfl (congrArg (fun y => v + y) ic_1) (by decide) rfl ?_
      refine j_goto hK 52 dX2_spread_79 (by decide) ?_
      refine j_sub [1, 2, 3, 4, 5, 0] rfl ?_
      exact hk _ _ hf)
def f_X2_spread_40b (ru : Nat) (x3 : Int32) (e : Int64 × Int32 → St → Option (Int64 × St)) (k : Int64 × Int32 → St → Option (Int64 × St)) (v : Int64 × Int32) (S : St) : Option (Int64 × St) := (if (gI S 92 3) ≤ v.2 then e (v.1, v.2) S else lp (f_X2_spread_52b ru x3 v.1 v.2 (fun v14 S15 => lp (f_X2_spread_85b ru x3 v.1 v.2 (fun v16 S17 => lt (sM S17 97 0 96 0 8) (fun S18 => lt (v.1 * (10 : Int64)) (fun y19 => k (y19, (v.2 + (1 : Int32))) S18)))) FU (0 : Int32) S15)) FU (0 : Int32) S)
theorem t_X2_spread_40 {K : CT} (hK : KO K cX2_spread RX2 8 4 (some .long)) {r : Int64} {S' : St} (hA : zans K = (some (.long r), S')) {ru : Nat} (hru : isRule ru) {x3 : Int32} {e : Int64 × Int32 → St → Option (Int64 × St)} (he : ∀ (v : Int64 × Int32) (S : St), e v S = some (r, S') → J K 176 [(4, .long v.1)] [] S) : ∀ (n : Nat) (v : Int64 × Int32) (S : St), lp (f_X2_spread_40b ru x3 e) n v S = some (r, S') → J K 40 [(0, .ref 92), (1, .ref ru), (3, .int x3), (4, .long v.1), (6, .int v.2)] [] S :=
  lp_J (P := fun (v : Int64 × Int32) (S : St) => J K 40 [(0, .ref 92), (1, .ref ru), (3, .int x3), (4, .long v.1), (6, .int v.2)] [] S) (fun k hk v S hf => by
    unfold f_X2_spread_40b at hf
    refine j_iload hK dX2_spread_40 4 rfl ?_
    refine j_aload_n hK dX2_spread_42 0 rfl rfl ?_
    refine j_getI hK fl_X2_22 dX2_spread_43 zo_92 zf_2_3 ?_
    refine j_icmp_ge hK 176 dX2_spread_46 (by decide) (fun hc => ?_) (fun hc => ?_)
    · replace hf := if_1 hc hf
      refine j_sub [3] rfl ?_
      exact he _ _ hf
    · replace hf := if_2 hc hf
      refine j_iconst hK (0 : Int32) dX2_spread_49 ic_0 ?_
      refine j_istore hK (L' := [(7, .int (0 : Int32)), (0, .ref 92), (1, .ref ru), (3, .int x3), (4, .long v.1), (6, .int v.2)]) dX2_spread_50 (by decide) rfl ?_
      refine j_sub [1, 2, 3, 4, 5, 0] rfl ?_
      refine t_X2_spread_52 hK hA hru (fun v14 S15 hf => ?_) _ _ _ hf
      refine j_iconst hK (0 : Int32) dX2_spread_82 ic_0 ?_
      refine j_istore hK (L' := [(7, .int (0 : Int32)), (0, .ref 92), (1, .ref ru), (3, .int x3), (4, .long v.1), (6, .int v.2)]) dX2_spread_83 (by decide) rfl ?_
      refine j_sub [1, 2, 3, 4, 5, 0] rfl ?_
      refine t_X2_spread_85 hK hA hru (fun v16 S17 hf => ?_) _ _ _ hf
      refine j_aload_n hK dX2_spread_147 0 rfl rfl ?_
      refine j_getR hK fl_X2_39 dX2_spread_148 zo_92 zf_2_8 zr_92_8 ?_
      refine j_iconst hK (0 : Int32) dX2_spread_151 ic_0 ?_
      refine j_aload_n hK dX2_spread_152 0 rfl rfl ?_
      refine j_getR hK fl_X2_35 dX2_spread_153 zo_92 zf_2_7 zr_92_7 ?_
      refine j_iconst hK (0 : Int32) dX2_spread_156 ic_0 ?_
      refine j_bipush hK (8 : Int32) dX2_spread_157 bi_8 ?_
      refine j_pc (pc' := 159) rfl ?_
      refine k_copyL hK ml_X2_103 dX2_spread_159 zb_97 zb_96 (by decide) (by decide) (by decide) (by decide) (by decide) tn_0 tn_0 tn_8 (by decide) (Nat.le_of_ble_eq_true rfl) ?_
      refine lt_S hf (fun S18 hf => ?_)
      refine j_lload hK dX2_spread_162 3 rfl ?_
      refine j_ldc2 hK (v := (10 : Int64)) cl_X2_109 dX2_spread_164 ?_
      refine j_lmul hK dX2_spread_167 ?_
      refine lt_L hf (fun y19 hf => ?_)
      refine j_lstore hK (L' := [(4, .long y19), (0, .ref 92), (1, .ref ru), (3, .int x3), (6, .int v.2)]) dX2_spread_168 (by decide) rfl ?_
      refine j_iinc hK (L' := [(6, .int (v.2 + (1 : Int32))), (4, .long y19), (0, .ref 92), (1, .ref ru), (3, .int x3)]) dX2_spread_170 4 rfl (congrArg (fun y => v.2 + y) ic_1) (by decide) rfl ?_
      refine j_goto hK 40 dX2_spread_173 (by decide) ?_
      refine j_sub [2, 3, 4, 1, 0] rfl ?_
      exact hk _ _ hf)
def f_X2_spread_27 (ru : Nat) (x2 : Int32) (x3 : Int32) (x4 : Int32) (s1 : Int32) (s2 : Int64) (k e : Int32 → St → Option (Int64 × St)) (S : St) : Option (Int64 × St) := if inb s1 8 then lt (sL S 96 s1.toNatClampNeg s2) (fun S21 => k (x4 + (1 : Int32)) S21) else none
theorem t_X2_spread_27 {K : CT} (hK : KO K cX2_spread RX2 8 4 (some .long)) {r : Int64} {S' : St} (hA : zans K = (some (.long r), S')) {ru : Nat} (hru : isRule ru) {x2 : Int32} {x3 : Int32} {x4 : Int32} {s1 : Int32} {s2 : Int64} {k e : Int32 → St → Option (Int64 × St)} (hk : ∀ (v : Int32) (S : St), k v S = some (r, S') → J K 3 [(0, .ref 92), (1, .ref ru), (2, .int x2), (3, .int x3), (4, .int v)] [] S) (he : ∀ (v : Int32) (S : St), e v S = some (r, S') → J K 34 [(0, .ref 92), (1, .ref ru), (3, .int x3)] [] S) {S : St} (hf : f_X2_spread_27 ru x2 x3 x4 s1 s2 k e S = some (r, S')) : J K 27 [(0, .ref 92), (1, .ref ru), (2, .int x2), (3, .int x3), (4, .int x4)] [.long s2, .int s1, .ref 96] S := by
  unfold f_X2_spread_27 at hf
  obtain ⟨hi20, hf⟩ := gd hf
  refine k_last hK dX2_spread_27 zb_96 hi20 rfl ?_
  refine lt_S hf (fun S21 hf => ?_)
  refine j_iinc hK (L' := [(4, .int (x4 + (1 : Int32))), (0, .ref 92), (1, .ref ru), (2, .int x2), (3, .int x3)]) dX2_spread_28 4 rfl (congrArg (fun y => x4 + y) ic_1) (by decide) rfl ?_
  refine j_goto hK 3 dX2_spread_31 (by decide) ?_
  refine j_sub [1, 2, 3, 4, 0] rfl ?_
  exact hk _ _ hf
def f_X2_spread_3b (ru : Nat) (x2 : Int32) (x3 : Int32) (e : Int32 → St → Option (Int64 × St)) (k : Int32 → St → Option (Int64 × St)) (v : Int32) (S : St) : Option (Int64 × St) := (if (8 : Int32) ≤ v then e v S else (if v = x2 then f_X2_spread_27 ru x2 x3 v v (1 : Int64) k e S else f_X2_spread_27 ru x2 x3 v v (0 : Int64) k e S))
theorem t_X2_spread_3 {K : CT} (hK : KO K cX2_spread RX2 8 4 (some .long)) {r : Int64} {S' : St} (hA : zans K = (some (.long r), S')) {ru : Nat} (hru : isRule ru) {x2 : Int32} {x3 : Int32} {e : Int32 → St → Option (Int64 × St)} (he : ∀ (v : Int32) (S : St), e v S = some (r, S') → J K 34 [(0, .ref 92), (1, .ref ru), (3, .int x3)] [] S) : ∀ (n : Nat) (v : Int32) (S : St), lp (f_X2_spread_3b ru x2 x3 e) n v S = some (r, S') → J K 3 [(0, .ref 92), (1, .ref ru), (2, .int x2), (3, .int x3), (4, .int v)] [] S :=
  lp_J (P := fun (v : Int32) (S : St) => J K 3 [(0, .ref 92), (1, .ref ru), (2, .int x2), (3, .int x3), (4, .int v)] [] S) (fun k hk v S hf => by
    unfold f_X2_spread_3b at hf
    refine j_iload hK dX2_spread_3 4 rfl ?_
    refine j_bipush hK (8 : Int32) dX2_spread_5 bi_8 ?_
    refine j_icmp_ge hK 34 dX2_spread_7 (by decide) (fun hc => ?_) (fun hc => ?_)
    · replace hf := if_1 hc hf
      refine j_sub [0, 1, 3] rfl ?_
      exact he _ _ hf
    · replace hf := if_2 hc hf
      refine j_aload_n hK dX2_spread_10 0 rfl rfl ?_
      refine j_getR hK fl_X2_35 dX2_spread_11 zo_92 zf_2_7 zr_92_7 ?_
      refine j_iload hK dX2_spread_14 4 rfl ?_
      refine j_iload hK dX2_spread_16 4 rfl ?_
      refine j_iload_n hK dX2_spread_18 2 rfl rfl ?_
      refine j_icmp_ne hK 26 dX2_spread_19 (by decide) (fun hc => ?_) (fun hc => ?_)
      · replace hf := if_2 hc hf
        refine j_lconst hK (0 : Int64) dX2_spread_26 lc_0 ?_
        exact t_X2_spread_27 hK hA hru hk he hf
      · replace hf := if_1 hc hf
        refine j_lconst hK (1 : Int64) dX2_spread_22 lc_1 ?_
        refine j_goto hK 27 dX2_spread_23 (by decide) ?_
        exact t_X2_spread_27 hK hA hru hk he hf)
def f_X2_spread (ru : Nat) (p2 : Int32) (p3 : Int32) (S : St) : Option (Int64 × St) := lp (f_X2_spread_3b ru p2 p3 (fun v22 S23 => lp (f_X2_spread_40b ru p3 (fun v24 S25 => some (v24.1, S25))) FU ((1 : Int64), (0 : Int32)) S23)) FU (0 : Int32) S
theorem c_X2_spread {ru : Nat} (hru : isRule ru) {p2 : Int32} {p3 : Int32} {S : St} {r : Int64} {S' : St} (hf : f_X2_spread ru p2 p3 S = some (r, S')) : zM yX2_spread cX2_spread 8 4 (some .long) [.ref 92, .ref ru, .int p2, .int p3] S (some (.long r)) S' := by
  refine zM_of (zpl (by decide)) (Nat.le_of_ble_eq_true rfl) rfl (fun K hK hA => ?_)
  unfold f_X2_spread at hf
  refine j_iconst hK (0 : Int32) dX2_spread_0 ic_0 ?_
  refine j_istore hK (L' := [(4, .int (0 : Int32)), (0, .ref 92), (1, .ref ru), (2, .int p2), (3, .int p3)]) dX2_spread_1 (by decide) rfl ?_
  refine j_sub [1, 2, 3, 4, 0] rfl ?_
  refine t_X2_spread_3 hK hA hru (fun v22 S23 hf => ?_) _ _ _ hf
  refine j_lconst hK (1 : Int64) dX2_spread_34 lc_1 ?_
  refine j_lstore hK (L' := [(4, .long (1 : Int64)), (0, .ref 92), (1, .ref ru), (3, .int p3)]) dX2_spread_35 (by decide) rfl ?_
  refine j_iconst hK (0 : Int32) dX2_spread_37 ic_0 ?_
  refine j_istore hK (L' := [(6, .int (0 : Int32)), (4, .long (1 : Int64)), (0, .ref 92), (1, .ref ru), (3, .int p3)]) dX2_spread_38 (by decide) rfl ?_
  refine j_sub [2, 3, 4, 1, 0] rfl ?_
  refine t_X2_spread_40 hK hA hru (fun v24 S25 hf => ?_) _ _ _ hf
  refine j_lload hK dX2_spread_176 0 rfl ?_
  exact j_lret hK dX2_spread_178 rfl (rt_L hA hf)
