def f_X1_add_31 (x1 : Int32) (x2 : Int32) (x3 : Int32) (s0 : Int32) (S : St) : Option (Int32 × St) := (if x1 < 0 then some ((0 : Int32), S) else (if (4 : Int32) < x1 then some ((0 : Int32), S) else (if x2 < x3 then some ((0 : Int32), S) else (if s0 < x2 then some ((0 : Int32), S) else (if (gI S 101 3) < (12 : Int32) then if inb (gI S 101 3) 12 then lt (sI S 102 (gI S 101 3).toNatClampNeg x1) (fun S2 => if inb (gI S2 101 3) 12 then lt (sI S2 103 (gI S2 101 3).toNatClampNeg x2) (fun S4 => lt (sI S4 101 3 ((gI S4 101 3) + (1 : Int32))) (fun S5 => some ((1 : Int32), S5))) else none) else none else some ((0 : Int32), S))))))
theorem t_X1_add_31 {K : CT} (hK : KO K cX1_add RX1 5 1 (some .boolean)) {r : Int32} {S' : St} (hA : zans K = (some (.int r), S')) {x1 : Int32} {x2 : Int32} {x3 : Int32} {s0 : Int32} {S : St} (hf : f_X1_add_31 x1 x2 x3 s0 S = some (r, S')) : J K 31 [(0, .ref 101), (1, .int x1), (2, .int x2), (3, .int x3)] [.int s0] S := by
  unfold f_X1_add_31 at hf
  refine j_istore hK (L' := [(4, .int s0), (0, .ref 101), (1, .int x1), (2, .int x2), (3, .int x3)]) dX1_add_31 (by decide) rfl ?_
  refine j_iload_n hK dX1_add_33 2 rfl rfl ?_
  refine j_if_lt hK 62 dX1_add_34 (by decide) (fun hc => ?_) (fun hc => ?_)
  · replace hf := if_1 hc hf
    refine j_iconst hK (0 : Int32) dX1_add_62 ic_0 ?_
    exact j_zret hK dX1_add_63 rfl rfl (rt_I hA hf)
  · replace hf := if_2 hc hf
    refine j_iload_n hK dX1_add_37 2 rfl rfl ?_
    refine j_iconst hK (4 : Int32) dX1_add_38 ic_4 ?_
    refine j_icmp_gt hK 62 dX1_add_39 (by decide) (fun hc => ?_) (fun hc => ?_)
    · replace hf := if_1 hc hf
      refine j_iconst hK (0 : Int32) dX1_add_62 ic_0 ?_
      exact j_zret hK dX1_add_63 rfl rfl (rt_I hA hf)
    · replace hf := if_2 hc hf
      refine j_iload_n hK dX1_add_42 3 rfl rfl ?_
      refine j_iload_n hK dX1_add_43 4 rfl rfl ?_
      refine j_icmp_lt hK 62 dX1_add_44 (by decide) (fun hc => ?_) (fun hc => ?_)
      · replace hf := if_1 hc hf
        refine j_iconst hK (0 : Int32) dX1_add_62 ic_0 ?_
        exact j_zret hK dX1_add_63 rfl rfl (rt_I hA hf)
      · replace hf := if_2 hc hf
        refine j_iload_n hK dX1_add_47 3 rfl rfl ?_
        refine j_iload hK dX1_add_48 0 rfl ?_
        refine j_icmp_gt hK 62 dX1_add_50 (by decide) (fun hc => ?_) (fun hc => ?_)
        · replace hf := if_1 hc hf
          refine j_iconst hK (0 : Int32) dX1_add_62 ic_0 ?_
          exact j_zret hK dX1_add_63 rfl rfl (rt_I hA hf)
        · replace hf := if_2 hc hf
          refine j_aload_n hK dX1_add_53 1 rfl rfl ?_
          refine j_getI hK fl_X1_22 dX1_add_54 zo_101 zf_1_3 ?_
          refine j_bipush hK (12 : Int32) dX1_add_57 bi_12 ?_
          refine j_icmp_lt hK 64 dX1_add_59 (by decide) (fun hc => ?_) (fun hc => ?_)
          · replace hf := if_1 hc hf
            refine j_aload_n hK dX1_add_64 1 rfl rfl ?_
            refine j_getR hK fl_X1_15 dX1_add_65 zo_101 zf_1_1 zr_101_1 ?_
            refine j_aload_n hK dX1_add_68 1 rfl rfl ?_
            refine j_getI hK fl_X1_22 dX1_add_69 zo_101 zf_1_3 ?_
            refine j_iload_n hK dX1_add_72 2 rfl rfl ?_
            obtain ⟨hi1, hf⟩ := gd hf
            refine k_iast hK dX1_add_73 zb_102 hi1 rfl ?_
            refine lt_S hf (fun S2 hf => ?_)
            refine j_aload_n hK dX1_add_74 1 rfl rfl ?_
            refine j_pc (pc' := 75) rfl ?_
            refine j_getR hK fl_X1_19 dX1_add_75 zo_101 zf_1_2 zr_101_2 ?_
            refine j_aload_n hK dX1_add_78 1 rfl rfl ?_
            refine j_getI hK fl_X1_22 dX1_add_79 zo_101 zf_1_3 ?_
            refine j_iload_n hK dX1_add_82 3 rfl rfl ?_
            obtain ⟨hi3, hf⟩ := gd hf
            refine k_iast hK dX1_add_83 zb_103 hi3 rfl ?_
            refine lt_S hf (fun S4 hf => ?_)
            refine j_aload_n hK dX1_add_84 1 rfl rfl ?_
            refine j_dup hK dX1_add_85 rfl ?_
            refine j_getI hK fl_X1_22 dX1_add_86 zo_101 zf_1_3 ?_
            refine j_pc (pc' := 89) rfl ?_
            refine j_iconst hK (1 : Int32) dX1_add_89 ic_1 ?_
            refine j_iadd hK dX1_add_90 ?_
            refine j_putI hK fl_X1_22 dX1_add_91 zo_101 zf_1_3 ?_
            refine lt_S hf (fun S5 hf => ?_)
            refine j_iconst hK (1 : Int32) dX1_add_94 ic_1 ?_
            exact j_zret hK dX1_add_95 rfl rfl (rt_I hA hf)
          · replace hf := if_2 hc hf
            refine j_iconst hK (0 : Int32) dX1_add_62 ic_0 ?_
            exact j_zret hK dX1_add_63 rfl rfl (rt_I hA hf)
def f_X1_add_9 (x1 : Int32) (x2 : Int32) (s0 : Int32) (S : St) : Option (Int32 × St) := (if x1 = (1 : Int32) then f_X1_add_31 x1 x2 s0 (7 : Int32) S else (if x1 = (3 : Int32) then f_X1_add_31 x1 x2 s0 (1 : Int32) S else f_X1_add_31 x1 x2 s0 (9 : Int32) S))
theorem t_X1_add_9 {K : CT} (hK : KO K cX1_add RX1 5 1 (some .boolean)) {r : Int32} {S' : St} (hA : zans K = (some (.int r), S')) {x1 : Int32} {x2 : Int32} {s0 : Int32} {S : St} (hf : f_X1_add_9 x1 x2 s0 S = some (r, S')) : J K 9 [(0, .ref 101), (1, .int x1), (2, .int x2)] [.int s0] S := by
  unfold f_X1_add_9 at hf
  refine j_istore_n hK (L' := [(3, .int s0), (0, .ref 101), (1, .int x1), (2, .int x2)]) dX1_add_9 rfl (by decide) rfl ?_
  refine j_iload_n hK dX1_add_10 2 rfl rfl ?_
  refine j_iconst hK (1 : Int32) dX1_add_11 ic_1 ?_
  refine j_icmp_ne hK 20 dX1_add_12 (by decide) (fun hc => ?_) (fun hc => ?_)
  · replace hf := if_2 hc hf
    refine j_iload_n hK dX1_add_20 2 rfl rfl ?_
    refine j_iconst hK (3 : Int32) dX1_add_21 ic_3 ?_
    refine j_icmp_ne hK 29 dX1_add_22 (by decide) (fun hc => ?_) (fun hc => ?_)
    · replace hf := if_2 hc hf
      refine j_bipush hK (9 : Int32) dX1_add_29 bi_9 ?_
      refine j_sub [1, 2, 3, 0] rfl ?_
      exact t_X1_add_31 hK hA  hf
    · replace hf := if_1 hc hf
      refine j_iconst hK (1 : Int32) dX1_add_25 ic_1 ?_
      refine j_goto hK 31 dX1_add_26 (by decide) ?_
      refine j_sub [1, 2, 3, 0] rfl ?_
      exact t_X1_add_31 hK hA  hf
  · replace hf := if_1 hc hf
    refine j_bipush hK (7 : Int32) dX1_add_15 bi_7 ?_
    refine j_goto hK 31 dX1_add_17 (by decide) ?_
    refine j_sub [1, 2, 3, 0] rfl ?_
    exact t_X1_add_31 hK hA  hf
def f_X1_add (p1 : Int32) (p2 : Int32) (S : St) : Option (Int32 × St) := (if p1 = 0 then f_X1_add_9 p1 p2 (1 : Int32) S else f_X1_add_9 p1 p2 (0 : Int32) S)
theorem c_X1_add {p1 : Int32} {p2 : Int32} {S : St} {r : Int32} {S' : St} (hf : f_X1_add p1 p2 S = some (r, S')) : zM yX1_add cX1_add 5 1 (some .boolean) [.ref 101, .int p1, .int p2] S (some (.int r)) S' := by
  refine zM_of (zpl (by decide)) (Nat.le_of_ble_eq_true rfl) rfl (fun K hK hA => ?_)
  unfold f_X1_add at hf
  refine j_iload_n hK dX1_add_0 1 rfl rfl ?_
  refine j_if_ne hK 8 dX1_add_1 (by decide) (fun hc => ?_) (fun hc => ?_)
  · replace hf := if_2 hc hf
    refine j_iconst hK (0 : Int32) dX1_add_8 ic_0 ?_
    exact t_X1_add_9 hK hA  hf
  · replace hf := if_1 hc hf
    refine j_iconst hK (1 : Int32) dX1_add_4 ic_1 ?_
    refine j_goto hK 9 dX1_add_5 (by decide) ?_
    exact t_X1_add_9 hK hA  hf
def f_X1_agrees_104 (s0 : Int32) (s1 : Int32) (S : St) : Option (Int32 × St) := (if s0 = s1 then some ((1 : Int32), S) else some ((0 : Int32), S))
theorem t_X1_agrees_104 {K : CT} (hK : KO K cX1_agrees RX1 4 2 (some .boolean)) {r : Int32} {S' : St} (hA : zans K = (some (.int r), S')) {s0 : Int32} {s1 : Int32} {S : St} (hf : f_X1_agrees_104 s0 s1 S = some (r, S')) : J K 104 [] [.int s1, .int s0] S := by
  unfold f_X1_agrees_104 at hf
  refine j_icmp_ne hK 111 dX1_agrees_104 (by decide) (fun hc => ?_) (fun hc => ?_)
  · replace hf := if_2 hc hf
    refine j_iconst hK (0 : Int32) dX1_agrees_111 ic_0 ?_
    exact j_zret hK dX1_agrees_112 rfl rfl (rt_I hA hf)
  · replace hf := if_1 hc hf
    refine j_iconst hK (1 : Int32) dX1_agrees_107 ic_1 ?_
    refine j_goto hK 112 dX1_agrees_108 (by decide) ?_
    exact j_zret hK dX1_agrees_112 rfl rfl (rt_I hA hf)
def f_X1_agrees (p1 : Int32) (p2 : Int32) (p3 : Int32) (S : St) : Option (Int32 × St) := (if p2 = (0 : Int32) then if inb p1 12 then (if (gI S 7 p1.toNatClampNeg) < p3 then some ((0 : Int32), S) else some ((1 : Int32), S)) else none else (if p2 = (1 : Int32) then bd (f_X0_isEnd p3 p1 S) (fun r4 S5 => if r4 = 0 ∨ r4 = 1 then some (r4, S5) else none) else (if p2 = (2 : Int32) then if inb p1 12 then (if (gI S 8 p1.toNatClampNeg) = p3 then some ((1 : Int32), S) else some ((0 : Int32), S)) else none else (if p2 = (3 : Int32) then bd (f_X0_isOpen p1 S) (fun r10 S11 => (if p3 = (1 : Int32) then f_X1_agrees_104 r10 (1 : Int32) S11 else f_X1_agrees_104 r10 (0 : Int32) S11)) else if inb p1 12 then (if p3 < (gI S 9 p1.toNatClampNeg) then some ((0 : Int32), S) else some ((1 : Int32), S)) else none))))
theorem c_X1_agrees {p1 : Int32} {p2 : Int32} {p3 : Int32} {S : St} {r : Int32} {S' : St} (hf : f_X1_agrees p1 p2 p3 S = some (r, S')) : zM yX1_agrees cX1_agrees 4 2 (some .boolean) [.ref 101, .int p1, .int p2, .int p3] S (some (.int r)) S' := by
  refine zM_of (zpl (by decide)) (Nat.le_of_ble_eq_true rfl) rfl (fun K hK hA => ?_)
  unfold f_X1_agrees at hf
  refine j_iload_n hK dX1_agrees_0 2 rfl rfl ?_
  by_cases hs1 : p2 = (0 : Int32)
  · replace hf := if_1 hs1 hf
    refine j_tabC hK (0 : Int32) 32 dX1_agrees_1 hs1 (by decide) rfl (by decide) ?_
    refine j_aload_n hK dX1_agrees_32 0 rfl rfl ?_
    refine j_getR hK fl_X1_9 dX1_agrees_33 zo_101 zf_1_0 zr_101_0 ?_
    refine j_getR hK fl_X1_37 dX1_agrees_36 zo_3 zf_0_3 zr_3_3 ?_
    refine j_getR hK fl_X1_41 dX1_agrees_39 zo_6 zf_7_0 zr_6_0 ?_
    refine j_iload_n hK dX1_agrees_42 1 rfl rfl ?_
    obtain ⟨hi2, hf⟩ := gd hf
    refine k_iald hK dX1_agrees_43 zb_7 hi2 rfl ?_
    refine j_iload_n hK dX1_agrees_44 3 rfl rfl ?_
    refine j_pc (pc' := 45) rfl ?_
    refine j_icmp_lt hK 52 dX1_agrees_45 (by decide) (fun hc => ?_) (fun hc => ?_)
    · replace hf := if_1 hc hf
      refine j_iconst hK (0 : Int32) dX1_agrees_52 ic_0 ?_
      exact j_zret hK dX1_agrees_53 rfl rfl (rt_I hA hf)
    · replace hf := if_2 hc hf
      refine j_iconst hK (1 : Int32) dX1_agrees_48 ic_1 ?_
      refine j_goto hK 53 dX1_agrees_49 (by decide) ?_
      exact j_zret hK dX1_agrees_53 rfl rfl (rt_I hA hf)
  · replace hf := if_2 hs1 hf
    by_cases hs3 : p2 = (1 : Int32)
    · replace hf := if_1 hs3 hf
      refine j_tabC hK (1 : Int32) 54 dX1_agrees_1 hs3 (by decide) rfl (by decide) ?_
      refine j_aload_n hK dX1_agrees_54 0 rfl rfl ?_
      refine j_getR hK fl_X1_9 dX1_agrees_55 zo_101 zf_1_0 zr_101_0 ?_
      refine j_iload_n hK dX1_agrees_58 3 rfl rfl ?_
      refine j_iload_n hK dX1_agrees_59 1 rfl rfl ?_
      obtain ⟨r4, S5, h6, hf⟩ := bd_J hf
      refine k_callVi hK (c_X0_isEnd h6) dX1_agrees_60 zclX0 zo_3 ml_X1_46 mi_X0_isEnd mx_X0_isEnd in_X0 mc_X0_isEnd hy_X0_isEnd ⟨by decide, by decide⟩ rfl (Nat.le_of_ble_eq_true rfl) ?_
      obtain ⟨hz, hf⟩ := gd hf
      exact j_zret hK dX1_agrees_63 rfl (nz hz) (rt_I hA hf)
    · replace hf := if_2 hs3 hf
      by_cases hs7 : p2 = (2 : Int32)
      · replace hf := if_1 hs7 hf
        refine j_tabC hK (2 : Int32) 64 dX1_agrees_1 hs7 (by decide) rfl (by decide) ?_
        refine j_aload_n hK dX1_agrees_64 0 rfl rfl ?_
        refine j_getR hK fl_X1_9 dX1_agrees_65 zo_101 zf_1_0 zr_101_0 ?_
        refine j_getR hK fl_X1_37 dX1_agrees_68 zo_3 zf_0_3 zr_3_3 ?_
        refine j_getR hK fl_X1_50 dX1_agrees_71 zo_6 zf_7_1 zr_6_1 ?_
        refine j_iload_n hK dX1_agrees_74 1 rfl rfl ?_
        obtain ⟨hi8, hf⟩ := gd hf
        refine k_iald hK dX1_agrees_75 zb_8 hi8 rfl ?_
        refine j_iload_n hK dX1_agrees_76 3 rfl rfl ?_
        refine j_pc (pc' := 77) rfl ?_
        refine j_icmp_ne hK 84 dX1_agrees_77 (by decide) (fun hc => ?_) (fun hc => ?_)
        · replace hf := if_2 hc hf
          refine j_iconst hK (0 : Int32) dX1_agrees_84 ic_0 ?_
          exact j_zret hK dX1_agrees_85 rfl rfl (rt_I hA hf)
        · replace hf := if_1 hc hf
          refine j_iconst hK (1 : Int32) dX1_agrees_80 ic_1 ?_
          refine j_goto hK 85 dX1_agrees_81 (by decide) ?_
          exact j_zret hK dX1_agrees_85 rfl rfl (rt_I hA hf)
      · replace hf := if_2 hs7 hf
        by_cases hs9 : p2 = (3 : Int32)
        · replace hf := if_1 hs9 hf
          refine j_tabC hK (3 : Int32) 86 dX1_agrees_1 hs9 (by decide) rfl (by decide) ?_
          refine j_aload_n hK dX1_agrees_86 0 rfl rfl ?_
          refine j_getR hK fl_X1_9 dX1_agrees_87 zo_101 zf_1_0 zr_101_0 ?_
          refine j_iload_n hK dX1_agrees_90 1 rfl rfl ?_
          obtain ⟨r10, S11, h12, hf⟩ := bd_J hf
          refine k_callVi hK (c_X0_isOpen h12) dX1_agrees_91 zclX0 zo_3 ml_X1_53 mi_X0_isOpen mx_X0_isOpen in_X0 mc_X0_isOpen hy_X0_isOpen ⟨by decide, by decide⟩ rfl (Nat.le_of_ble_eq_true rfl) ?_
          refine j_iload_n hK dX1_agrees_94 3 rfl rfl ?_
          refine j_iconst hK (1 : Int32) dX1_agrees_95 ic_1 ?_
          refine j_icmp_ne hK 103 dX1_agrees_96 (by decide) (fun hc => ?_) (fun hc => ?_)
          · replace hf := if_2 hc hf
            refine j_iconst hK (0 : Int32) dX1_agrees_103 ic_0 ?_
            refine j_sub [] rfl ?_
            exact t_X1_agrees_104 hK hA  hf
          · replace hf := if_1 hc hf
            refine j_iconst hK (1 : Int32) dX1_agrees_99 ic_1 ?_
            refine j_goto hK 104 dX1_agrees_100 (by decide) ?_
            refine j_sub [] rfl ?_
            exact t_X1_agrees_104 hK hA  hf
        · replace hf := if_2 hs9 hf
          refine j_tabOut hK 113 dX1_agrees_1 (by have q := And.intro (ne_toInt 0 (by decide) hs1) (And.intro (ne_toInt 1 (by decide) hs3) (And.intro (ne_toInt 2 (by decide) hs7) (And.intro (ne_toInt 3 (by decide) hs9) trivial))); omega) (by decide) ?_
          refine j_aload_n hK dX1_agrees_113 0 rfl rfl ?_
          refine j_getR hK fl_X1_9 dX1_agrees_114 zo_101 zf_1_0 zr_101_0 ?_
          refine j_getR hK fl_X1_37 dX1_agrees_117 zo_3 zf_0_3 zr_3_3 ?_
          refine j_getR hK fl_X1_56 dX1_agrees_120 zo_6 zf_7_2 zr_6_2 ?_
          refine j_iload_n hK dX1_agrees_123 1 rfl rfl ?_
          obtain ⟨hi13, hf⟩ := gd hf
          refine k_iald hK dX1_agrees_124 zb_9 hi13 rfl ?_
          refine j_iload_n hK dX1_agrees_125 3 rfl rfl ?_
          refine j_pc (pc' := 126) rfl ?_
          refine j_icmp_gt hK 133 dX1_agrees_126 (by decide) (fun hc => ?_) (fun hc => ?_)
          · replace hf := if_1 hc hf
            refine j_iconst hK (0 : Int32) dX1_agrees_133 ic_0 ?_
            exact j_zret hK dX1_agrees_134 rfl rfl (rt_I hA hf)
          · replace hf := if_2 hc hf
            refine j_iconst hK (1 : Int32) dX1_agrees_129 ic_1 ?_
            refine j_goto hK 134 dX1_agrees_130 (by decide) ?_
            exact j_zret hK dX1_agrees_134 rfl rfl (rt_I hA hf)
def f_X1_fitsAll_2b (x1 : Int32) (e : Int32 → St → Option (Int32 × St)) (k : Int32 → St → Option (Int32 × St)) (v : Int32) (S : St) : Option (Int32 × St) := (if (gI S 101 3) ≤ v then e v S else if inb v 12 then if inb v 12 then bd (f_X1_agrees x1 (gI S 102 v.toNatClampNeg) (gI S 103 v.toNatClampNeg) S) (fun r3 S4 => (if r3 = 0 then some ((0 : Int32), S4) else k (v + (1 : Int32)) S4)) else none else none)
theorem t_X1_fitsAll_2 {K : CT} (hK : KO K cX1_fitsAll RX1 3 3 (some .boolean)) {r : Int32} {S' : St} (hA : zans K = (some (.int r), S')) {x1 : Int32} {e : Int32 → St → Option (Int32 × St)} (he : ∀ (v : Int32) (S : St), e v S = some (r, S') → J K 38 [] [] S) : ∀ (n : Nat) (v : Int32) (S : St), lp (f_X1_fitsAll_2b x1 e) n v S = some (r, S') → J K 2 [(0, .ref 101), (1, .int x1), (2, .int v)] [] S :=
  lp_J (P := fun (v : Int32) (S : St) => J K 2 [(0, .ref 101), (1, .int x1), (2, .int v)] [] S) (fun k hk v S hf => by
    unfold f_X1_fitsAll_2b at hf
    refine j_iload_n hK dX1_fitsAll_2 2 rfl rfl ?_
    refine j_aload_n hK dX1_fitsAll_3 0 rfl rfl ?_
    refine j_getI hK fl_X1_22 dX1_fitsAll_4 zo_101 zf_1_3 ?_
    refine j_icmp_ge hK 38 dX1_fitsAll_7 (by decide) (fun hc => ?_) (fun hc => ?_)
    · replace hf := if_1 hc hf
      refine j_sub [] rfl ?_
      exact he _ _ hf
    · replace hf := if_2 hc hf
      refine j_aload_n hK dX1_fitsAll_10 0 rfl rfl ?_
      refine j_iload_n hK dX1_fitsAll_11 1 rfl rfl ?_
      refine j_aload_n hK dX1_fitsAll_12 0 rfl rfl ?_
      refine j_getR hK fl_X1_15 dX1_fitsAll_13 zo_101 zf_1_1 zr_101_1 ?_
      refine j_iload_n hK dX1_fitsAll_16 2 rfl rfl ?_
      obtain ⟨hi1, hf⟩ := gd hf
      refine k_iald hK dX1_fitsAll_17 zb_102 hi1 rfl ?_
      refine j_aload_n hK dX1_fitsAll_18 0 rfl rfl ?_
      refine j_pc (pc' := 19) rfl ?_
      refine j_getR hK fl_X1_19 dX1_fitsAll_19 zo_101 zf_1_2 zr_101_2 ?_
      refine j_iload_n hK dX1_fitsAll_22 2 rfl rfl ?_
      obtain ⟨hi2, hf⟩ := gd hf
      refine k_iald hK dX1_fitsAll_23 zb_103 hi2 rfl ?_
      obtain ⟨r3, S4, h5, hf⟩ := bd_J hf
      refine k_callVi hK (c_X1_agrees h5) dX1_fitsAll_24 zclX1 zo_101 ml_X1_33 mi_X1_agrees mx_X1_agrees in_X1 mc_X1_agrees hy_X1_agrees ⟨by decide, by decide⟩ rfl (Nat.le_of_ble_eq_true rfl) ?_
      refine j_if_ne hK 32 dX1_fitsAll_27 (by decide) (fun hc => ?_) (fun hc => ?_)
      · replace hf := if_2 hc hf
        refine j_iinc hK (L' := [(2, .int (v + (1 : Int32))), (0, .ref 101), (1, .int x1)]) dX1_fitsAll_32 2 rfl (congrArg (fun y => v + y) ic_1) (by decide) rfl ?_
        refine j_goto hK 2 dX1_fitsAll_35 (by decide) ?_
        refine j_sub [1, 2, 0] rfl ?_
        exact hk _ _ hf
      · replace hf := if_1 hc hf
        refine j_iconst hK (0 : Int32) dX1_fitsAll_30 ic_0 ?_
        exact j_zret hK dX1_fitsAll_31 rfl rfl (rt_I hA hf))
def f_X1_fitsAll (p1 : Int32) (S : St) : Option (Int32 × St) := lp (f_X1_fitsAll_2b p1 (fun v6 S7 => some ((1 : Int32), S7))) FU (0 : Int32) S
theorem c_X1_fitsAll {p1 : Int32} {S : St} {r : Int32} {S' : St} (hf : f_X1_fitsAll p1 S = some (r, S')) : zM yX1_fitsAll cX1_fitsAll 3 3 (some .boolean) [.ref 101, .int p1] S (some (.int r)) S' := by
  refine zM_of (zpl (by decide)) (Nat.le_of_ble_eq_true rfl) rfl (fun K hK hA => ?_)
  unfold f_X1_fitsAll at hf
  refine j_iconst hK (0 : Int32) dX1_fitsAll_0 ic_0 ?_
  refine j_istore_n hK (L' := [(2, .int (0 : Int32)), (0, .ref 101), (1, .int p1)]) dX1_fitsAll_1 rfl (by decide) rfl ?_
  refine j_sub [1, 2, 0] rfl ?_
  refine t_X1_fitsAll_2 hK hA  (fun v6 S7 hf => ?_) _ _ _ hf
  refine j_iconst hK (1 : Int32) dX1_fitsAll_38 ic_1 ?_
  exact j_zret hK dX1_fitsAll_39 rfl rfl (rt_I hA hf)
def f_X1_fittingPassages_29 (x1 : Int32) (x2 : Int32) (k e : Int32 × Int32 → St → Option (Int32 × St)) (S : St) : Option (Int32 × St) := k (x1, (x2 + (1 : Int32))) S
theorem t_X1_fittingPassages_29 {K : CT} (hK : KO K cX1_fittingPassages RX1 3 4 (some .int)) {r : Int32} {S' : St} (hA : zans K = (some (.int r), S')) {x1 : Int32} {x2 : Int32} {k e : Int32 × Int32 → St → Option (Int32 × St)} (hk : ∀ (v : Int32 × Int32) (S : St), k v S = some (r, S') → J K 4 [(0, .ref 101), (1, .int v.1), (2, .int v.2)] [] S) (he : ∀ (v : Int32 × Int32) (S : St), e v S = some (r, S') → J K 35 [(1, .int v.1)] [] S) {S : St} (hf : f_X1_fittingPassages_29 x1 x2 k e S = some (r, S')) : J K 29 [(0, .ref 101), (1, .int x1), (2, .int x2)] [] S := by
  unfold f_X1_fittingPassages_29 at hf
  refine j_iinc hK (L' := [(2, .int (x2 + (1 : Int32))), (0, .ref 101), (1, .int x1)]) dX1_fittingPassages_29 2 rfl (congrArg (fun y => x2 + y) ic_1) (by decide) rfl ?_
  refine j_goto hK 4 dX1_fittingPassages_32 (by decide) ?_
  refine j_sub [1, 2, 0] rfl ?_
  exact hk _ _ hf
def f_X1_fittingPassages_4b (e : Int32 × Int32 → St → Option (Int32 × St)) (k : Int32 × Int32 → St → Option (Int32 × St)) (v : Int32 × Int32) (S : St) : Option (Int32 × St) := (if (gI S 3 2) ≤ v.2 then e (v.1, v.2) S else bd (f_X1_fitsAll v.2 S) (fun r1 S2 => (if r1 = 0 then f_X1_fittingPassages_29 v.1 v.2 k e S2 else lt (v.1 ||| ((1 : Int32) <<< (v.2 &&& 31))) (fun y4 => f_X1_fittingPassages_29 y4 v.2 k e S2))))
theorem t_X1_fittingPassages_4 {K : CT} (hK : KO K cX1_fittingPassages RX1 3 4 (some .int)) {r : Int32} {S' : St} (hA : zans K = (some (.int r), S')) {e : Int32 × Int32 → St → Option (Int32 × St)} (he : ∀ (v : Int32 × Int32) (S : St), e v S = some (r, S') → J K 35 [(1, .int v.1)] [] S) : ∀ (n : Nat) (v : Int32 × Int32) (S : St), lp (f_X1_fittingPassages_4b  e) n v S = some (r, S') → J K 4 [(0, .ref 101), (1, .int v.1), (2, .int v.2)] [] S :=
  lp_J (P := fun (v : Int32 × Int32) (S : St) => J K 4 [(0, .ref 101), (1, .int v.1), (2, .int v.2)] [] S) (fun k hk v S hf => by
    unfold f_X1_fittingPassages_4b at hf
    refine j_iload_n hK dX1_fittingPassages_4 2 rfl rfl ?_
    refine j_aload_n hK dX1_fittingPassages_5 0 rfl rfl ?_
    refine j_getR hK fl_X1_9 dX1_fittingPassages_6 zo_101 zf_1_0 zr_101_0 ?_
    refine j_getI hK fl_X1_26 dX1_fittingPassages_9 zo_3 zf_0_2 ?_
    refine j_icmp_ge hK 35 dX1_fittingPassages_12 (by decide) (fun hc => ?_) (fun hc => ?_)
    · replace hf := if_1 hc hf
      refine j_sub [1] rfl ?_
      exact he _ _ hf
    · replace hf := if_2 hc hf
      refine j_aload_n hK dX1_fittingPassages_15 0 rfl rfl ?_
      refine j_iload_n hK dX1_fittingPassages_16 2 rfl rfl ?_
      obtain ⟨r1, S2, h3, hf⟩ := bd_J hf
      refine k_callVi hK (c_X1_fitsAll h3) dX1_fittingPassages_17 zclX1 zo_101 ml_X1_29 mi_X1_fitsAll mx_X1_fitsAll in_X1 mc_X1_fitsAll hy_X1_fitsAll ⟨by decide, by decide⟩ rfl (Nat.le_of_ble_eq_true rfl) ?_
      refine j_if_eq hK 29 dX1_fittingPassages_20 (by decide) (fun hc => ?_) (fun hc => ?_)
      · replace hf := if_1 hc hf
        exact t_X1_fittingPassages_29 hK hA hk he hf
      · replace hf := if_2 hc hf
        refine j_iload_n hK dX1_fittingPassages_23 1 rfl rfl ?_
        refine j_iconst hK (1 : Int32) dX1_fittingPassages_24 ic_1 ?_
        refine j_iload_n hK dX1_fittingPassages_25 2 rfl rfl ?_
        refine j_ishl hK dX1_fittingPassages_26 ?_
        refine j_ior hK dX1_fittingPassages_27 ?_
        refine lt_I hf (fun y4 hf => ?_)
        refine j_istore_n hK (L' := [(1, .int y4), (0, .ref 101), (2, .int v.2)]) dX1_fittingPassages_28 rfl (by decide) rfl ?_
        refine j_sub [1, 0, 2] rfl ?_
        exact t_X1_fittingPassages_29 hK hA hk he hf)
def f_X1_fittingPassages (S : St) : Option (Int32 × St) := lp (f_X1_fittingPassages_4b  (fun v5 S6 => some (v5.1, S6))) FU ((0 : Int32), (0 : Int32)) S
theorem c_X1_fittingPassages {S : St} {r : Int32} {S' : St} (hf : f_X1_fittingPassages S = some (r, S')) : zM yX1_fittingPassages cX1_fittingPassages 3 4 (some .int) [.ref 101] S (some (.int r)) S' := by
  refine zM_of (zpl (by decide)) (Nat.le_of_ble_eq_true rfl) rfl (fun K hK hA => ?_)
  unfold f_X1_fittingPassages at hf
  refine j_iconst hK (0 : Int32) dX1_fittingPassages_0 ic_0 ?_
  refine j_istore_n hK (L' := [(1, .int (0 : Int32)), (0, .ref 101)]) dX1_fittingPassages_1 rfl (by decide) rfl ?_
  refine j_iconst hK (0 : Int32) dX1_fittingPassages_2 ic_0 ?_
  refine j_istore_n hK (L' := [(2, .int (0 : Int32)), (1, .int (0 : Int32)), (0, .ref 101)]) dX1_fittingPassages_3 rfl (by decide) rfl ?_
  refine j_sub [2, 1, 0] rfl ?_
  refine t_X1_fittingPassages_4 hK hA  (fun v5 S6 hf => ?_) _ _ _ hf
  refine j_iload_n hK dX1_fittingPassages_35 0 rfl rfl ?_
  exact j_iret hK dX1_fittingPassages_36 rfl (rt_I hA hf)
