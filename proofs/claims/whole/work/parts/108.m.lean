def f_X10_again (p1 : Int32) (S : St) : Option (Int32 × St) := bd (f_X4_hasStored p1 S) (fun r1 S2 => (if r1 = 0 then some ((0 : Int32), S2) else if inb p1 3 then bd (f_X7_take 6 (zr 78 p1.toNatClampNeg) S2) (fun r5 S6 => lt (sI S6 12 2 (0 : Int32)) (fun S8 => some ((1 : Int32), S8))) else none))
theorem c_X10_again {p1 : Int32} {S : St} {r : Int32} {S' : St} (hf : f_X10_again p1 S = some (r, S')) : zM yX10_again cX10_again 2 2 (some .boolean) [.ref 0, .int p1] S (some (.int r)) S' := by
  refine zM_of (zpl (by decide)) (Nat.le_of_ble_eq_true rfl) rfl (fun K hK hA => ?_)
  unfold f_X10_again at hf
  refine j_aload_n hK dX10_again_0 0 rfl rfl ?_
  refine j_getR hK fl_X10_33 dX10_again_1 zo_0 zf_10_3 zr_0_3 ?_
  refine j_iload_n hK dX10_again_4 1 rfl rfl ?_
  obtain ⟨r1, S2, h3, hf⟩ := bd_J hf
  refine k_callVi hK (c_X4_hasStored h3) dX10_again_5 zclX4 zo_12 ml_X10_417 mi_X4_hasStored mx_X4_hasStored in_X4 mc_X4_hasStored hy_X4_hasStored ⟨by decide, by decide⟩ rfl (Nat.le_of_ble_eq_true rfl) ?_
  refine j_if_ne hK 13 dX10_again_8 (by decide) (fun hc => ?_) (fun hc => ?_)
  · replace hf := if_2 hc hf
    refine j_aload_n hK dX10_again_13 0 rfl rfl ?_
    refine j_getR hK fl_X10_19 dX10_again_14 zo_0 zf_10_1 zr_0_1 ?_
    refine j_getR hK fl_X10_129 dX10_again_17 zo_3 zf_0_3 zr_3_3 ?_
    refine j_aload_n hK dX10_again_20 0 rfl rfl ?_
    refine j_getR hK fl_X10_33 dX10_again_21 zo_0 zf_10_3 zr_0_3 ?_
    refine j_getR hK fl_X10_420 dX10_again_24 zo_12 zf_4_3 zr_12_3 ?_
    refine j_iload_n hK dX10_again_27 1 rfl rfl ?_
    refine j_pc (pc' := 28) rfl ?_
    obtain ⟨hi4, hf⟩ := gd hf
    refine j_aald hK dX10_again_28 zb_78 hi4 ?_
    obtain ⟨r5, S6, h7, hf⟩ := bd_J hf
    refine k_callVv hK (c_X7_take zo_6 (st_a78 hi4) h7) dX10_again_29 zclX7 zo_6 ml_X10_233 mi_X7_take mx_X7_take in_X7 mc_X7_take hy_X7_take ⟨by decide, by decide⟩ rfl (Nat.le_of_ble_eq_true rfl) ?_
    refine j_aload_n hK dX10_again_32 0 rfl rfl ?_
    refine j_getR hK fl_X10_33 dX10_again_33 zo_0 zf_10_3 zr_0_3 ?_
    refine j_iconst hK (0 : Int32) dX10_again_36 ic_0 ?_
    refine j_putI hK fl_X10_228 dX10_again_37 zo_12 zf_4_2 ?_
    refine lt_S hf (fun S8 hf => ?_)
    refine j_iconst hK (1 : Int32) dX10_again_40 ic_1 ?_
    exact j_zret hK dX10_again_41 rfl rfl (rt_I hA hf)
  · replace hf := if_1 hc hf
    refine j_iconst hK (0 : Int32) dX10_again_11 ic_0 ?_
    exact j_zret hK dX10_again_12 rfl rfl (rt_I hA hf)
def f_X0_delayOfAll_4b (e : Int32 × Int32 → St → Option (Int32 × St)) (k : Int32 × Int32 → St → Option (Int32 × St)) (v : Int32 × Int32) (S : St) : Option (Int32 × St) := (if (gI S 3 2) ≤ v.2 then e (v.1, v.2) S else if inb v.2 12 then lt (v.1 + (gI S 7 v.2.toNatClampNeg)) (fun y2 => k (y2, (v.2 + (1 : Int32))) S) else none)
theorem t_X0_delayOfAll_4 {K : CT} (hK : KO K cX0_delayOfAll RX0 3 1 (some .int)) {r : Int32} {S' : St} (hA : zans K = (some (.int r), S')) {e : Int32 × Int32 → St → Option (Int32 × St)} (he : ∀ (v : Int32 × Int32) (S : St), e v S = some (r, S') → J K 30 [(1, .int v.1)] [] S) : ∀ (n : Nat) (v : Int32 × Int32) (S : St), lp (f_X0_delayOfAll_4b  e) n v S = some (r, S') → J K 4 [(0, .ref 3), (1, .int v.1), (2, .int v.2)] [] S :=
  lp_J (P := fun (v : Int32 × Int32) (S : St) => J K 4 [(0, .ref 3), (1, .int v.1), (2, .int v.2)] [] S) (fun k hk v S hf => by
    unfold f_X0_delayOfAll_4b at hf
    refine j_iload_n hK dX0_delayOfAll_4 2 rfl rfl ?_
    refine j_aload_n hK dX0_delayOfAll_5 0 rfl rfl ?_
    refine j_getI hK fl_X0_18 dX0_delayOfAll_6 zo_3 zf_0_2 ?_
    refine j_icmp_ge hK 30 dX0_delayOfAll_9 (by decide) (fun hc => ?_) (fun hc => ?_)
    · replace hf := if_1 hc hf
      refine j_sub [1] rfl ?_
      exact he _ _ hf
    · replace hf := if_2 hc hf
      refine j_iload_n hK dX0_delayOfAll_12 1 rfl rfl ?_
      refine j_aload_n hK dX0_delayOfAll_13 0 rfl rfl ?_
      refine j_getR hK fl_X0_25 dX0_delayOfAll_14 zo_3 zf_0_3 zr_3_3 ?_
      refine j_getR hK fl_X0_29 dX0_delayOfAll_17 zo_6 zf_7_0 zr_6_0 ?_
      refine j_iload_n hK dX0_delayOfAll_20 2 rfl rfl ?_
      obtain ⟨hi1, hf⟩ := gd hf
      refine k_iald hK dX0_delayOfAll_21 zb_7 hi1 rfl ?_
      refine j_iadd hK dX0_delayOfAll_22 ?_
      refine j_pc (pc' := 23) rfl ?_
      refine lt_I hf (fun y2 hf => ?_)
      refine j_istore_n hK (L' := [(1, .int y2), (0, .ref 3), (2, .int v.2)]) dX0_delayOfAll_23 rfl (by decide) rfl ?_
      refine j_iinc hK (L' := [(2, .int (v.2 + (1 : Int32))), (1, .int y2), (0, .ref 3)]) dX0_delayOfAll_24 2 rfl (congrArg (fun y => v.2 + y) ic_1) (by decide) rfl ?_
      refine j_goto hK 4 dX0_delayOfAll_27 (by decide) ?_
      refine j_sub [2, 1, 0] rfl ?_
      exact hk _ _ hf)
def f_X0_delayOfAll (S : St) : Option (Int32 × St) := lp (f_X0_delayOfAll_4b  (fun v3 S4 => some (v3.1, S4))) FU ((0 : Int32), (0 : Int32)) S
theorem c_X0_delayOfAll {S : St} {r : Int32} {S' : St} (hf : f_X0_delayOfAll S = some (r, S')) : zM yX0_delayOfAll cX0_delayOfAll 3 1 (some .int) [.ref 3] S (some (.int r)) S' := by
  refine zM_of (zpl (by decide)) (Nat.le_of_ble_eq_true rfl) rfl (fun K hK hA => ?_)
  unfold f_X0_delayOfAll at hf
  refine j_iconst hK (0 : Int32) dX0_delayOfAll_0 ic_0 ?_
  refine j_istore_n hK (L' := [(1, .int (0 : Int32)), (0, .ref 3)]) dX0_delayOfAll_1 rfl (by decide) rfl ?_
  refine j_iconst hK (0 : Int32) dX0_delayOfAll_2 ic_0 ?_
  refine j_istore_n hK (L' := [(2, .int (0 : Int32)), (1, .int (0 : Int32)), (0, .ref 3)]) dX0_delayOfAll_3 rfl (by decide) rfl ?_
  refine j_sub [2, 1, 0] rfl ?_
  refine t_X0_delayOfAll_4 hK hA  (fun v3 S4 hf => ?_) _ _ _ hf
  refine j_iload_n hK dX0_delayOfAll_30 0 rfl rfl ?_
  exact j_iret hK dX0_delayOfAll_31 rfl (rt_I hA hf)
def f_X10_count (p1 : Int32) (S : St) : Option (Int32 × St) := (if p1 = (0 : Int32) then some ((gI S 3 2), S) else (if p1 = (1 : Int32) then bd (f_J6_bitCount_0f7a4 (gI S 6 3) S) (fun r3 S4 => some (r3, S4)) else (if p1 = (2 : Int32) then some ((gI S 6 4), S) else (if p1 = (3 : Int32) then some ((gI S 6 5), S) else (if p1 = (4 : Int32) then bd (f_X0_wearOfAll S) (fun r9 S10 => some (r9, S10)) else (if p1 = (5 : Int32) then bd (f_X0_delayOfAll S) (fun r13 S14 => some (r13, S14)) else (if p1 = (6 : Int32) then some ((gI S 101 3), S) else (if p1 = (7 : Int32) then some ((gI S 104 3), S) else (if p1 = (8 : Int32) then some ((gI S 12 2), S) else (if p1 = (9 : Int32) then some ((gI S 10 1), S) else (if p1 = (10 : Int32) then some ((gI S 1 1), S) else some ((-100 : Int32), S))))))))))))
theorem c_X10_count {p1 : Int32} {S : St} {r : Int32} {S' : St} (hf : f_X10_count p1 S = some (r, S')) : zM yX10_count cX10_count 2 2 (some .int) [.ref 0, .int p1] S (some (.int r)) S' := by
  refine zM_of (zpl (by decide)) (Nat.le_of_ble_eq_true rfl) rfl (fun K hK hA => ?_)
  unfold f_X10_count at hf
  refine j_iload_n hK dX10_count_0 1 rfl rfl ?_
  by_cases hs1 : p1 = (0 : Int32)
  · replace hf := if_1 hs1 hf
    refine j_tabC hK (0 : Int32) 60 dX10_count_1 hs1 (by decide) rfl (by decide) ?_
    refine j_aload_n hK dX10_count_60 0 rfl rfl ?_
    refine j_getR hK fl_X10_19 dX10_count_61 zo_0 zf_10_1 zr_0_1 ?_
    refine j_getI hK fl_X10_95 dX10_count_64 zo_3 zf_0_2 ?_
    exact j_iret hK dX10_count_67 rfl (rt_I hA hf)
  · replace hf := if_2 hs1 hf
    by_cases hs2 : p1 = (1 : Int32)
    · replace hf := if_1 hs2 hf
      refine j_tabC hK (1 : Int32) 68 dX10_count_1 hs2 (by decide) rfl (by decide) ?_
      refine j_aload_n hK dX10_count_68 0 rfl rfl ?_
      refine j_getR hK fl_X10_19 dX10_count_69 zo_0 zf_10_1 zr_0_1 ?_
      refine j_getR hK fl_X10_129 dX10_count_72 zo_3 zf_0_3 zr_3_3 ?_
      refine j_getI hK fl_X10_260 dX10_count_75 zo_6 zf_7_3 ?_
      obtain ⟨r3, S4, h5, hf⟩ := bd_J hf
      refine k_callSi hK (c_J6_bitCount_0f7a4 h5) dX10_count_78 ml_X10_263 ms_J6_bitCount_0f7a4 in_J6 mc_J6_bitCount_0f7a4 hy_J6_bitCount_0f7a4 ⟨by decide, by decide⟩ rfl (Nat.le_of_ble_eq_true rfl) ?_
      exact j_iret hK dX10_count_81 rfl (rt_I hA hf)
    · replace hf := if_2 hs2 hf
      by_cases hs6 : p1 = (2 : Int32)
      · replace hf := if_1 hs6 hf
        refine j_tabC hK (2 : Int32) 82 dX10_count_1 hs6 (by decide) rfl (by decide) ?_
        refine j_aload_n hK dX10_count_82 0 rfl rfl ?_
        refine j_getR hK fl_X10_19 dX10_count_83 zo_0 zf_10_1 zr_0_1 ?_
        refine j_getR hK fl_X10_129 dX10_count_86 zo_3 zf_0_3 zr_3_3 ?_
        refine j_getI hK fl_X10_424 dX10_count_89 zo_6 zf_7_4 ?_
        exact j_iret hK dX10_count_92 rfl (rt_I hA hf)
      · replace hf := if_2 hs6 hf
        by_cases hs7 : p1 = (3 : Int32)
        · replace hf := if_1 hs7 hf
          refine j_tabC hK (3 : Int32) 93 dX10_count_1 hs7 (by decide) rfl (by decide) ?_
          refine j_aload_n hK dX10_count_93 0 rfl rfl ?_
          refine j_getR hK fl_X10_19 dX10_count_94 zo_0 zf_10_1 zr_0_1 ?_
          refine j_getR hK fl_X10_129 dX10_count_97 zo_3 zf_0_3 zr_3_3 ?_
          refine j_getI hK fl_X10_225 dX10_count_100 zo_6 zf_7_5 ?_
          exact j_iret hK dX10_count_103 rfl (rt_I hA hf)
        · replace hf := if_2 hs7 hf
          by_cases hs8 : p1 = (4 : Int32)
          · replace hf := if_1 hs8 hf
            refine j_tabC hK (4 : Int32) 104 dX10_count_1 hs8 (by decide) rfl (by decide) ?_
            refine j_aload_n hK dX10_count_104 0 rfl rfl ?_
            refine j_getR hK fl_X10_19 dX10_count_105 zo_0 zf_10_1 zr_0_1 ?_
            obtain ⟨r9, S10, h11, hf⟩ := bd_J hf
            refine k_callVi hK (c_X0_wearOfAll h11) dX10_count_108 zclX0 zo_3 ml_X10_166 mi_X0_wearOfAll mx_X0_wearOfAll in_X0 mc_X0_wearOfAll hy_X0_wearOfAll ⟨by decide, by decide⟩ rfl (Nat.le_of_ble_eq_true rfl) ?_
            exact j_iret hK dX10_count_111 rfl (rt_I hA hf)
          · replace hf := if_2 hs8 hf
            by_cases hs12 : p1 = (5 : Int32)
            · replace hf := if_1 hs12 hf
              refine j_tabC hK (5 : Int32) 112 dX10_count_1 hs12 (by decide) rfl (by decide) ?_
              refine j_aload_n hK dX10_count_112 0 rfl rfl ?_
              refine j_getR hK fl_X10_19 dX10_count_113 zo_0 zf_10_1 zr_0_1 ?_
              obtain ⟨r13, S14, h15, hf⟩ := bd_J hf
              refine k_callVi hK (c_X0_delayOfAll h15) dX10_count_116 zclX0 zo_3 ml_X10_427 mi_X0_delayOfAll mx_X0_delayOfAll in_X0 mc_X0_delayOfAll hy_X0_delayOfAll ⟨by decide, by decide⟩ rfl (Nat.le_of_ble_eq_true rfl) ?_
              exact j_iret hK dX10_count_119 rfl (rt_I hA hf)
            · replace hf := if_2 hs12 hf
              by_cases hs16 : p1 = (6 : Int32)
              · replace hf := if_1 hs16 hf
                refine j_tabC hK (6 : Int32) 120 dX10_count_1 hs16 (by decide) rfl (by decide) ?_
                refine j_aload_n hK dX10_count_120 0 rfl rfl ?_
                refine j_getR hK fl_X10_56 dX10_count_121 zo_0 zf_10_6 zr_0_6 ?_
                refine j_getI hK fl_X10_342 dX10_count_124 zo_101 zf_1_3 ?_
                exact j_iret hK dX10_count_127 rfl (rt_I hA hf)
              · replace hf := if_2 hs16 hf
                by_cases hs17 : p1 = (7 : Int32)
                · replace hf := if_1 hs17 hf
                  refine j_tabC hK (7 : Int32) 128 dX10_count_1 hs17 (by decide) rfl (by decide) ?_
                  refine j_aload_n hK dX10_count_128 0 rfl rfl ?_
                  refine j_getR hK fl_X10_63 dX10_count_129 zo_0 zf_10_7 zr_0_7 ?_
                  refine j_getI hK fl_X10_352 dX10_count_132 zo_104 zf_3_3 ?_
                  exact j_iret hK dX10_count_135 rfl (rt_I hA hf)
                · replace hf := if_2 hs17 hf
                  by_cases hs18 : p1 = (8 : Int32)
                  · replace hf := if_1 hs18 hf
                    refine j_tabC hK (8 : Int32) 136 dX10_count_1 hs18 (by decide) rfl (by decide) ?_
                    refine j_aload_n hK dX10_count_136 0 rfl rfl ?_
                    refine j_getR hK fl_X10_33 dX10_count_137 zo_0 zf_10_3 zr_0_3 ?_
                    refine j_getI hK fl_X10_228 dX10_count_140 zo_12 zf_4_2 ?_
                    exact j_iret hK dX10_count_143 rfl (rt_I hA hf)
                  · replace hf := if_2 hs18 hf
                    by_cases hs19 : p1 = (9 : Int32)
                    · replace hf := if_1 hs19 hf
                      refine j_tabC hK (9 : Int32) 144 dX10_count_1 hs19 (by decide) rfl (by decide) ?_
                      refine j_aload_n hK dX10_count_144 0 rfl rfl ?_
                      refine j_getR hK fl_X10_26 dX10_count_145 zo_0 zf_10_2 zr_0_2 ?_
                      refine j_getI hK fl_X10_296 dX10_count_148 zo_10 zf_5_1 ?_
                      exact j_iret hK dX10_count_151 rfl (rt_I hA hf)
                    · replace hf := if_2 hs19 hf
                      by_cases hs20 : p1 = (10 : Int32)
                      · replace hf := if_1 hs20 hf
                        refine j_tabC hK (10 : Int32) 152 dX10_count_1 hs20 (by decide) rfl (by decide) ?_
                        refine j_aload_n hK dX10_count_152 0 rfl rfl ?_
                        refine j_getR hK fl_X10_10 dX10_count_153 zo_0 zf_10_0 zr_0_0 ?_
                        refine j_getI hK fl_X10_88 dX10_count_156 zo_1 zf_8_1 ?_
                        exact j_iret hK dX10_count_159 rfl (rt_I hA hf)
                      · replace hf := if_2 hs20 hf
                        refine j_tabOut hK 160 dX10_count_1 (by have q := And.intro (ne_toInt 0 (by decide) hs1) (And.intro (ne_toInt 1 (by decide) hs2) (And.intro (ne_toInt 2 (by decide) hs6) (And.intro (ne_toInt 3 (by decide) hs7) (And.intro (ne_toInt 4 (by decide) hs8) (And.intro (ne_toInt 5 (by decide) hs12) (And.intro (ne_toInt 6 (by decide) hs16) (And.intro (ne_toInt 7 (by decide) hs17) (And.intro (ne_toInt 8 (by decide) hs18) (And.intro (ne_toInt 9 (by decide) hs19) (And.intro (ne_toInt 10 (by decide) hs20) trivial)))))))))); omega) (by decide) ?_
                        refine j_bipush hK (-100 : Int32) dX10_count_160 bi_m100 ?_
                        exact j_iret hK dX10_count_162 rfl (rt_I hA hf)
def f_X11_thrown (S : St) : Option (Int32 × St) := some ((gI S 122 0), S)
theorem c_X11_thrown {S : St} {r : Int32} {S' : St} (hf : f_X11_thrown S = some (r, S')) : zM yX11_thrown cX11_thrown 1 1 (some .int) [.ref 122] S (some (.int r)) S' := by
  refine zM_of (zpl (by decide)) (Nat.le_of_ble_eq_true rfl) rfl (fun K hK hA => ?_)
  unfold f_X11_thrown at hf
  refine j_aload_n hK dX11_thrown_0 0 rfl rfl ?_
  refine j_getI hK fl_X11_3 dX11_thrown_1 zo_122 zf_11_0 ?_
  exact j_iret hK dX11_thrown_4 rfl (rt_I hA hf)
def f_X11_refuse (S : St) : Option (Int32 × St) := lt (sI S 122 0 (1 : Int32)) (fun S1 => some ((0 : Int32), S1))
theorem c_X11_refuse {S : St} {r : Int32} {S' : St} (hf : f_X11_refuse S = some (r, S')) : zM yX11_refuse cX11_refuse 1 1 (some .int) [.ref 122] S (some (.int r)) S' := by
  refine zM_of (zpl (by decide)) (Nat.le_of_ble_eq_true rfl) rfl (fun K hK hA => ?_)
  unfold f_X11_refuse at hf
  refine j_aload_n hK dX11_refuse_0 0 rfl rfl ?_
  refine j_iconst hK (1 : Int32) dX11_refuse_1 ic_1 ?_
  refine j_putI hK fl_X11_3 dX11_refuse_2 zo_122 zf_11_0 ?_
  refine lt_S hf (fun S1 hf => ?_)
  refine j_iconst hK (0 : Int32) dX11_refuse_5 ic_0 ?_
  exact j_iret hK dX11_refuse_6 rfl (rt_I hA hf)
def f_X11_in (p0 : Int64) (p2 : Int64) (p4 : Int64) (S : St) : Option (Int32 × St) := (if (lg_cmp p0 p2) < 0 then some ((0 : Int32), S) else (if 0 < (lg_cmp p0 p4) then some ((0 : Int32), S) else some ((1 : Int32), S)))
theorem c_X11_in {p0 : Int64} {p2 : Int64} {p4 : Int64} {S : St} {r : Int32} {S' : St} (hf : f_X11_in p0 p2 p4 S = some (r, S')) : zM yX11_in cX11_in 6 1 (some .boolean) [.long p0, .long p2, .long p4] S (some (.int r)) S' := by
  refine zM_of (zpl (by decide)) (Nat.le_of_ble_eq_true rfl) rfl (fun K hK hA => ?_)
  unfold f_X11_in at hf
  refine j_lload_n hK dX11_in_0 0 rfl rfl ?_
  refine j_lload_n hK dX11_in_1 1 rfl rfl ?_
  refine j_lcmp hK dX11_in_2 ?_
  refine j_if_lt hK 17 dX11_in_3 (by decide) (fun hc => ?_) (fun hc => ?_)
  · replace hf := if_1 hc hf
    refine j_iconst hK (0 : Int32) dX11_in_17 ic_0 ?_
    exact j_zret hK dX11_in_18 rfl rfl (rt_I hA hf)
  · replace hf := if_2 hc hf
    refine j_lload_n hK dX11_in_6 0 rfl rfl ?_
    refine j_lload hK dX11_in_7 2 rfl ?_
    refine j_lcmp hK dX11_in_9 ?_
    refine j_if_gt hK 17 dX11_in_10 (by decide) (fun hc => ?_) (fun hc => ?_)
    · replace hf := if_1 hc hf
      refine j_iconst hK (0 : Int32) dX11_in_17 ic_0 ?_
      exact j_zret hK dX11_in_18 rfl rfl (rt_I hA hf)
    · replace hf := if_2 hc hf
      refine j_iconst hK (1 : Int32) dX11_in_13 ic_1 ?_
      refine j_goto hK 18 dX11_in_14 (by decide) ?_
      exact j_zret hK dX11_in_18 rfl rfl (rt_I hA hf)
def f_X11_has (p0 : Int32) (p1 : Int32) (S : St) : Option (Int32 × St) := (if ((p0 >>> (p1 &&& 31)) &&& (1 : Int32)) = (1 : Int32) then some ((1 : Int32), S) else some ((0 : Int32), S))
theorem c_X11_has {p0 : Int32} {p1 : Int32} {S : St} {r : Int32} {S' : St} (hf : f_X11_has p0 p1 S = some (r, S')) : zM yX11_has cX11_has 2 1 (some .boolean) [.int p0, .int p1] S (some (.int r)) S' := by
  refine zM_of (zpl (by decide)) (Nat.le_of_ble_eq_true rfl) rfl (fun K hK hA => ?_)
  unfold f_X11_has at hf
  refine j_iload_n hK dX11_has_0 0 rfl rfl ?_
  refine j_iload_n hK dX11_has_1 1 rfl rfl ?_
  refine j_ishr hK dX11_has_2 ?_
  refine j_iconst hK (1 : Int32) dX11_has_3 ic_1 ?_
  refine j_iand hK dX11_has_4 ?_
  refine j_iconst hK (1 : Int32) dX11_has_5 ic_1 ?_
  refine j_icmp_ne hK 13 dX11_has_6 (by decide) (fun hc => ?_) (fun hc => ?_)
  · replace hf := if_2 hc hf
    refine j_iconst hK (0 : Int32) dX11_has_13 ic_0 ?_
    exact j_zret hK dX11_has_14 rfl rfl (rt_I hA hf)
  · replace hf := if_1 hc hf
    refine j_iconst hK (1 : Int32) dX11_has_9 ic_1 ?_
    refine j_goto hK 14 dX11_has_10 (by decide) ?_
    exact j_zret hK dX11_has_14 rfl rfl (rt_I hA hf)
def f_X11_flag (p0 : Int32) (S : St) : Option (Int32 × St) := (if p0 = 0 then some ((0 : Int32), S) else some ((1 : Int32), S))
theorem c_X11_flag {p0 : Int32} {S : St} {r : Int32} {S' : St} (hf : f_X11_flag p0 S = some (r, S')) : zM yX11_flag cX11_flag 1 1 (some .int) [.int p0] S (some (.int r)) S' := by
  refine zM_of (zpl (by decide)) (Nat.le_of_ble_eq_true rfl) rfl (fun K hK hA => ?_)
  unfold f_X11_flag at hf
  refine j_iload_n hK dX11_flag_0 0 rfl rfl ?_
  refine j_if_eq hK 8 dX11_flag_1 (by decide) (fun hc => ?_) (fun hc => ?_)
  · replace hf := if_1 hc hf
    refine j_iconst hK (0 : Int32) dX11_flag_8 ic_0 ?_
    exact j_iret hK dX11_flag_9 rfl (rt_I hA hf)
  · replace hf := if_2 hc hf
    refine j_iconst hK (1 : Int32) dX11_flag_4 ic_1 ?_
    refine j_goto hK 9 dX11_flag_5 (by decide) ?_
    exact j_iret hK dX11_flag_9 rfl (rt_I hA hf)
def f_X11_enters (p1 : Int64) (S : St) : Option (Unit × St) := if inb (gI S 122 1) 24 then lt (sL S 123 (gI S 122 1).toNatClampNeg p1) (fun S2 => lt (sI S2 122 1 ((gI S2 122 1) + (1 : Int32))) (fun S3 => some ((), S3))) else none
theorem c_X11_enters {p1 : Int64} {S : St} {r : Unit} {S' : St} (hf : f_X11_enters p1 S = some (r, S')) : zM yX11_enters cX11_enters 3 1 none [.ref 122, .long p1] S (none) S' := by
  refine zM_of (zpl (by decide)) (Nat.le_of_ble_eq_true rfl) rfl (fun K hK hA => ?_)
  unfold f_X11_enters at hf
  refine j_aload_n hK dX11_enters_0 0 rfl rfl ?_
  refine j_getR hK fl_X11_11 dX11_enters_1 zo_122 zf_11_2 zr_122_2 ?_
  refine j_aload_n hK dX11_enters_4 0 rfl rfl ?_
  refine j_getI hK fl_X11_15 dX11_enters_5 zo_122 zf_11_1 ?_
  refine j_lload_n hK dX11_enters_8 1 rfl rfl ?_
  obtain ⟨hi1, hf⟩ := gd hf
  refine k_last hK dX11_enters_9 zb_123 hi1 rfl ?_
  refine lt_S hf (fun S2 hf => ?_)
  refine j_aload_n hK dX11_enters_10 0 rfl rfl ?_
  refine j_dup hK dX11_enters_11 rfl ?_
  refine j_pc (pc' := 12) rfl ?_
  refine j_getI hK fl_X11_15 dX11_enters_12 zo_122 zf_11_1 ?_
  refine j_iconst hK (1 : Int32) dX11_enters_15 ic_1 ?_
  refine j_iadd hK dX11_enters_16 ?_
  refine j_putI hK fl_X11_15 dX11_enters_17 zo_122 zf_11_1 ?_
  refine lt_S hf (fun S3 hf => ?_)
  exact j_vret hK dX11_enters_20 rfl (rt_V hA hf)
def f_X11_isPassage (p1 : Int32) (S : St) : Option (Int32 × St) := bd (f_X11_in p1.toInt64 (0 : Int64) ((gI S 122 3) - (1 : Int32)).toInt64 S) (fun r1 S2 => if r1 = 0 ∨ r1 = 1 then some (r1, S2) else none)
theorem c_X11_isPassage {p1 : Int32} {S : St} {r : Int32} {S' : St} (hf : f_X11_isPassage p1 S = some (r, S')) : zM yX11_isPassage cX11_isPassage 2 2 (some .boolean) [.ref 122, .int p1] S (some (.int r)) S' := by
  refine zM_of (zpl (by decide)) (Nat.le_of_ble_eq_true rfl) rfl (fun K hK hA => ?_)
  unfold f_X11_isPassage at hf
  refine j_iload_n hK dX11_isPassage_0 1 rfl rfl ?_
  refine j_i2l hK dX11_isPassage_1 ?_
  refine j_lconst hK (0 : Int64) dX11_isPassage_2 lc_0 ?_
  refine j_aload_n hK dX11_isPassage_3 0 rfl rfl ?_
  refine j_getI hK fl_X11_128 dX11_isPassage_4 zo_122 zf_11_3 ?_
  refine j_iconst hK (1 : Int32) dX11_isPassage_7 ic_1 ?_
  refine j_isub hK dX11_isPassage_8 ?_
  refine j_i2l hK dX11_isPassage_9 ?_
  refine j_pc (pc' := 10) rfl ?_
  obtain ⟨r1, S2, h3, hf⟩ := bd_J hf
  refine k_callSi hK (c_X11_in h3) dX11_isPassage_10 ml_X11_131 ms_X11_in in_X11 mc_X11_in hy_X11_in ⟨by decide, by decide⟩ rfl (Nat.le_of_ble_eq_true rfl) ?_
  obtain ⟨hz, hf⟩ := gd hf
  exact j_zret hK dX11_isPassage_13 rfl (nz hz) (rt_I hA hf)
def f_X11_isCavern (p0 : Int32) (S : St) : Option (Int32 × St) := bd (f_X11_in p0.toInt64 (0 : Int64) (7 : Int64) S) (fun r1 S2 => if r1 = 0 ∨ r1 = 1 then some (r1, S2) else none)
theorem c_X11_isCavern {p0 : Int32} {S : St} {r : Int32} {S' : St} (hf : f_X11_isCavern p0 S = some (r, S')) : zM yX11_isCavern cX11_isCavern 1 2 (some .boolean) [.int p0] S (some (.int r)) S' := by
  refine zM_of (zpl (by decide)) (Nat.le_of_ble_eq_true rfl) rfl (fun K hK hA => ?_)
  unfold f_X11_isCavern at hf
  refine j_iload_n hK dX11_isCavern_0 0 rfl rfl ?_
  refine j_i2l hK dX11_isCavern_1 ?_
  refine j_lconst hK (0 : Int64) dX11_isCavern_2 lc_0 ?_
  refine j_ldc2 hK (v := (7 : Int64)) cl_X11_135 dX11_isCavern_3 ?_
  obtain ⟨r1, S2, h3, hf⟩ := bd_J hf
  refine k_callSi hK (c_X11_in h3) dX11_isCavern_6 ml_X11_131 ms_X11_in in_X11 mc_X11_in hy_X11_in ⟨by decide, by decide⟩ rfl (Nat.le_of_ble_eq_true rfl) ?_
  obtain ⟨hz, hf⟩ := gd hf
  exact j_zret hK dX11_isCavern_9 rfl (nz hz) (rt_I hA hf)
def f_X11_isEnd_20 (S : St) : Option (Int32 × St) := some ((1 : Int32), S)
theorem t_X11_isEnd_20 {K : CT} (hK : KO K cX11_isEnd RX11 3 1 (some .boolean)) {r : Int32} {S' : St} (hA : zans K = (some (.int r), S')) {S : St} (hf : f_X11_isEnd_20  S = some (r, S')) : J K 20 [] [] S := by
  unfold f_X11_isEnd_20 at hf
  refine j_iconst hK (1 : Int32) dX11_isEnd_20 ic_1 ?_
  refine j_goto hK 25 dX11_isEnd_21 (by decide) ?_
  exact j_zret hK dX11_isEnd_25 rfl rfl (rt_I hA hf)
def f_X11_isEnd (p1 : Int32) (p2 : Int32) (S : St) : Option (Int32 × St) := if inb p1 12 then (if (gI S 124 p1.toNatClampNeg) = p2 then f_X11_isEnd_20  S else if inb p1 12 then (if (gI S 125 p1.toNatClampNeg) = p2 then f_X11_isEnd_20  S else some ((0 : Int32), S)) else none) else none
theorem c_X11_isEnd {p1 : Int32} {p2 : Int32} {S : St} {r : Int32} {S' : St} (hf : f_X11_isEnd p1 p2 S = some (r, S')) : zM yX11_isEnd cX11_isEnd 3 1 (some .boolean) [.ref 122, .int p1, .int p2] S (some (.int r)) S' := by
  refine zM_of (zpl (by decide)) (Nat.le_of_ble_eq_true rfl) rfl (fun K hK hA => ?_)
  unfold f_X11_isEnd at hf
  refine j_aload_n hK dX11_isEnd_0 0 rfl rfl ?_
  refine j_getR hK fl_X11_24 dX11_isEnd_1 zo_122 zf_11_5 zr_122_5 ?_
  refine j_iload_n hK dX11_isEnd_4 1 rfl rfl ?_
  obtain ⟨hi1, hf⟩ := gd hf
  refine k_iald hK dX11_isEnd_5 zb_124 hi1 rfl ?_
  refine j_iload_n hK dX11_isEnd_6 2 rfl rfl ?_
  refine j_icmp_eq hK 20 dX11_isEnd_7 (by decide) (fun hc => ?_) (fun hc => ?_)
  · replace hf := if_1 hc hf
    refine j_sub [] rfl ?_
    exact t_X11_isEnd_20 hK hA  hf
  · replace hf := if_2 hc hf
    refine j_aload_n hK dX11_isEnd_10 0 rfl rfl ?_
    refine j_getR hK fl_X11_28 dX11_isEnd_11 zo_122 zf_11_6 zr_122_6 ?_
    refine j_iload_n hK dX11_isEnd_14 1 rfl rfl ?_
    obtain ⟨hi2, hf⟩ := gd hf
    refine k_iald hK dX11_isEnd_15 zb_125 hi2 rfl ?_
    refine j_iload_n hK dX11_isEnd_16 2 rfl rfl ?_
    refine j_icmp_ne hK 24 dX11_isEnd_17 (by decide) (fun hc => ?_) (fun hc => ?_)
    · replace hf := if_2 hc hf
      refine j_iconst hK (0 : Int32) dX11_isEnd_24 ic_0 ?_
      exact j_zret hK dX11_isEnd_25 rfl rfl (rt_I hA hf)
    · replace hf := if_1 hc hf
      refine j_sub [] rfl ?_
      exact t_X11_isEnd_20 hK hA  hf
def f_X11_beyond (p1 : Int32) (p2 : Int32) (S : St) : Option (Int32 × St) := if inb p1 12 then (if (gI S 124 p1.toNatClampNeg) = p2 then if inb p1 12 then some ((gI S 125 p1.toNatClampNeg), S) else none else if inb p1 12 then some ((gI S 124 p1.toNatClampNeg), S) else none) else none
theorem c_X11_beyond {p1 : Int32} {p2 : Int32} {S : St} {r : Int32} {S' : St} (hf : f_X11_beyond p1 p2 S = some (r, S')) : zM yX11_beyond cX11_beyond 3 1 (some .int) [.ref 122, .int p1, .int p2] S (some (.int r)) S' := by
  refine zM_of (zpl (by decide)) (Nat.le_of_ble_eq_true rfl) rfl (fun K hK hA => ?_)
  unfold f_X11_beyond at hf
  refine j_aload_n hK dX11_beyond_0 0 rfl rfl ?_
  refine j_getR hK fl_X11_24 dX11_beyond_1 zo_122 zf_11_5 zr_122_5 ?_
  refine j_iload_n hK dX11_beyond_4 1 rfl rfl ?_
  obtain ⟨hi1, hf⟩ := gd hf
  refine k_iald hK dX11_beyond_5 zb_124 hi1 rfl ?_
  refine j_iload_n hK dX11_beyond_6 2 rfl rfl ?_
  refine j_icmp_ne hK 19 dX11_beyond_7 (by decide) (fun hc => ?_) (fun hc => ?_)
  · replace hf := if_2 hc hf
    refine j_aload_n hK dX11_beyond_19 0 rfl rfl ?_
    refine j_getR hK fl_X11_24 dX11_beyond_20 zo_122 zf_11_5 zr_122_5 ?_
    refine j_iload_n hK dX11_beyond_23 1 rfl rfl ?_
    obtain ⟨hi2, hf⟩ := gd hf
    refine k_iald hK dX11_beyond_24 zb_124 hi2 rfl ?_
    exact j_iret hK dX11_beyond_25 rfl (rt_I hA hf)
  · replace hf := if_1 hc hf
    refine j_aload_n hK dX11_beyond_10 0 rfl rfl ?_
    refine j_getR hK fl_X11_28 dX11_beyond_11 zo_122 zf_11_6 zr_122_6 ?_
    refine j_iload_n hK dX11_beyond_14 1 rfl rfl ?_
    obtain ⟨hi3, hf⟩ := gd hf
    refine k_iald hK dX11_beyond_15 zb_125 hi3 rfl ?_
    refine j_goto hK 25 dX11_beyond_16 (by decide) ?_
    exact j_iret hK dX11_beyond_25 rfl (rt_I hA hf)
def f_X11_sumOf_5b (ar : Nat) (x2 : Int32) (e : Int32 × Int32 → St → Option (Int32 × St)) (k : Int32 × Int32 → St → Option (Int32 × St)) (v : Int32 × Int32) (S : St) : Option (Int32 × St) := (if (gI S 122 3) ≤ v.2 then e (v.1, v.2) S else if inb (x2 + v.2) 39 then lt (v.1 + (gI S ar (x2 + v.2).toNatClampNeg)) (fun y2 => k (y2, (v.2 + (1 : Int32))) S) else none)
theorem t_X11_sumOf_5 {K : CT} (hK : KO K cX11_sumOf RX11 5 1 (some .int)) {r : Int32} {S' : St} (hA : zans K = (some (.int r), S')) {ar : Nat} (har : zB 12 39 ar) {x2 : Int32} {e : Int32 × Int32 → St → Option (Int32 × St)} (he : ∀ (v : Int32 × Int32) (S : St), e v S = some (r, S') → J K 29 [(3, .int v.1)] [] S) : ∀ (n : Nat) (v : Int32 × Int32) (S : St), lp (f_X11_sumOf_5b ar x2 e) n v S = some (r, S') → J K 5 [(0, .ref 122), (1, .ref ar), (2, .int x2), (3, .int v.1), (4, .int v.2)] [] S :=
  lp_J (P := fun (v : Int32 × Int32) (S : St) => J K 5 [(0, .ref 122), (1, .ref ar), (2, .int x2), (3, .int v.1), (4, .int v.2)] [] S) (fun k hk v S hf => by
    unfold f_X11_sumOf_5b at hf
    refine j_iload hK dX11_sumOf_5 4 rfl ?_
    refine j_aload_n hK dX11_sumOf_7 0 rfl rfl ?_
    refine j_getI hK fl_X11_128 dX11_sumOf_8 zo_122 zf_11_3 ?_
    refine j_icmp_ge hK 29 dX11_sumOf_11 (by decide) (fun hc => ?_) (fun hc => ?_)
    · replace hf := if_1 hc hf
      refine j_sub [3] rfl ?_
      exact he _ _ hf
    · replace hf := if_2 hc hf
      refine j_iload_n hK dX11_sumOf_14 3 rfl rfl ?_
      refine j_aload_n hK dX11_sumOf_15 1 rfl rfl ?_
      refine j_iload_n hK dX11_sumOf_16 2 rfl rfl ?_
      refine j_iload hK dX11_sumOf_17 4 rfl ?_
      refine j_iadd hK dX11_sumOf_19 ?_
      obtain ⟨hi1, hf⟩ := gd hf
      refine k_iald hK dX11_sumOf_20 har hi1 rfl ?_
      refine j_iadd hK dX11_sumOf_21 ?_
      refine j_pc (pc' := 22) rfl ?_
      refine lt_I hf (fun y2 hf => ?_)
      refine j_istore_n hK (L' := [(3, .int y2), (0, .ref 122), (1, .ref ar), (2, .int x2), (4, .int v.2)]) dX11_sumOf_22 rfl (by decide) rfl ?_
      refine j_iinc hK (L' := [(4, .int (v.2 + (1 : Int32))), (3, .int y2), (0, .ref 122), (1, .ref ar), (2, .int x2)]) dX11_sumOf_23 4 rfl (congrArg (fun y => v.2 + y) ic_1) (by decide) rfl ?_
      refine j_goto hK 5 dX11_sumOf_26 (by decide) ?_
      refine j_sub [2, 3, 4, 1, 0] rfl ?_
      exact hk _ _ hf)
def f_X11_sumOf (ar : Nat) (p2 : Int32) (S : St) : Option (Int32 × St) := lp (f_X11_sumOf_5b ar p2 (fun v3 S4 => some (v3.1, S4))) FU ((0 : Int32), (0 : Int32)) S
theorem c_X11_sumOf {ar : Nat} (har : zB 12 39 ar) {p2 : Int32} {S : St} {r : Int32} {S' : St} (hf : f_X11_sumOf ar p2 S = some (r, S')) : zM yX11_sumOf cX11_sumOf 5 1 (some .int) [.ref 122, .ref ar, .int p2] S (some (.int r)) S' := by
  refine zM_of (zpl (by decide)) (Nat.le_of_ble_eq_true rfl) rfl (fun K hK hA => ?_)
  unfold f_X11_sumOf at hf
  refine j_iconst hK (0 : Int32) dX11_sumOf_0 ic_0 ?_
  refine j_istore_n hK (L' := [(3, .int (0 : Int32)), (0, .ref 122), (1, .ref ar), (2, .int p2)]) dX11_sumOf_1 rfl (by decide) rfl ?_
  refine j_iconst hK (0 : Int32) dX11_sumOf_2 ic_0 ?_
  refine j_istore hK (L' := [(4, .int (0 : Int32)), (3, .int (0 : Int32)), (0, .ref 122), (1, .ref ar), (2, .int p2)]) dX11_sumOf_3 (by decide) rfl ?_
  refine j_sub [2, 3, 4, 1, 0] rfl ?_
  refine t_X11_sumOf_5 hK hA har (fun v3 S4 hf => ?_) _ _ _ hf
  refine j_iload_n hK dX11_sumOf_29 0 rfl rfl ?_
  exact j_iret hK dX11_sumOf_30 rfl (rt_I hA hf)
def f_X11_sign_18b (x1 : Int32) (e : Int32 → St → Option (Int32 × St)) (k : Int32 → St → Option (Int32 × St)) (v : Int32) (S : St) : Option (Int32 × St) := (if (4 : Int32) ≤ v then e v S else lt ((x1 >>> (((24 : Int32) - ((8 : Int32) * v)) &&& 31)) &&& (255 : Int32)) (fun y1 => if inb ((gI S 122 10) + v) 80 then lt (sI S 128 ((gI S 122 10) + v).toNatClampNeg y1) (fun S3 => k (v + (1 : Int32)) S3) else none))
theorem t_X11_sign_18 {K : CT} (hK : KO K cX11_sign RX11 3 1 (some .int)) {r : Int32} {S' : St} (hA : zans K = (some (.int r), S')) {x1 : Int32} {e : Int32 → St → Option (Int32 × St)} (he : ∀ (v : Int32) (S : St), e v S = some (r, S') → J K 53 [(0, .ref 122)] [] S) : ∀ (n : Nat) (v : Int32) (S : St), lp (f_X11_sign_18b x1 e) n v S = some (r, S') → J K 18 [(0, .ref 122), (1, .int x1), (2, .int v)] [] S :=
  lp_J (P := fun (v : Int32) (S : St) => J K 18 [(0, .ref 122), (1, .int x1), (2, .int v)] [] S) (fun k hk v S hf => by
    unfold f_X11_sign_18b at hf
    refine j_iload_n hK dX11_sign_18 2 rfl rfl ?_
    refine j_iconst hK (4 : Int32) dX11_sign_19 ic_4 ?_
    refine j_icmp_ge hK 53 dX11_sign_20 (by decide) (fun hc => ?_) (fun hc => ?_)
    · replace hf := if_1 hc hf
      refine j_sub [0] rfl ?_
      exact he _ _ hf
    · replace hf := if_2 hc hf
      refine j_aload_n hK dX11_sign_23 0 rfl rfl ?_
      refine j_getR hK fl_X11_37 dX11_sign_24 zo_122 zf_11_9 zr_122_9 ?_
      refine j_aload_n hK dX11_sign_27 0 rfl rfl ?_
      refine j_getI hK fl_X11_137 dX11_sign_28 zo_122 zf_11_10 ?_
      refine j_iload_n hK dX11_sign_31 2 rfl rfl ?_
      refine j_iadd hK dX11_sign_32 ?_
      refine j_iload_n hK dX11_sign_33 1 rfl rfl ?_
      refine j_pc (pc' := 34) rfl ?_
      refine j_bipush hK (24 : Int32) dX11_sign_34 bi_24 ?_
      refine j_bipush hK (8 : Int32) dX11_sign_36 bi_8 ?_
      refine j_iload_n hK dX11_sign_38 2 rfl rfl ?_
      refine j_imul hK dX11_sign_39 ?_
      refine j_isub hK dX11_sign_40 ?_
      refine j_ishr hK dX11_sign_41 ?_
      refine j_sipush hK (255 : Int32) dX11_sign_42 si_255 ?_
      refine j_iand hK dX11_sign_45 ?_
      refine lt_I hf (fun y1 hf => ?_)
      refine j_pc (pc' := 46) rfl ?_
      obtain ⟨hi2, hf⟩ := gd hf
      refine k_iast hK dX11_sign_46 zb_128 hi2 rfl ?_
      refine lt_S hf (fun S3 hf => ?_)
      refine j_iinc hK (L' := [(2, .int (v + (1 : Int32))), (0, .ref 122), (1, .int x1)]) dX11_sign_47 2 rfl (congrArg (fun y => v + y) ic_1) (by decide) rfl ?_
      refine j_goto hK 18 dX11_sign_50 (by decide) ?_
      refine j_sub [1, 2, 0] rfl ?_
      exact hk _ _ hf)
def f_X11_sign (p1 : Int32) (S : St) : Option (Int32 × St) := lt (sI S 122 0 (0 : Int32)) (fun S4 => (if (gI S4 122 10) ≤ (76 : Int32) then lp (f_X11_sign_18b p1 (fun v5 S6 => lt (sI S6 122 10 ((gI S6 122 10) + (4 : Int32))) (fun S7 => some ((gI S7 122 10), S7)))) FU (0 : Int32) S4 else some ((-1 : Int32), S4)))
theorem c_X11_sign {p1 : Int32} {S : St} {r : Int32} {S' : St} (hf : f_X11_sign p1 S = some (r, S')) : zM yX11_sign cX11_sign 3 1 (some .int) [.ref 122, .int p1] S (some (.int r)) S' := by
  refine zM_of (zpl (by decide)) (Nat.le_of_ble_eq_true rfl) rfl (fun K hK hA => ?_)
  unfold f_X11_sign at hf
  refine j_aload_n hK dX11_sign_0 0 rfl rfl ?_
  refine j_iconst hK (0 : Int32) dX11_sign_1 ic_0 ?_
  refine j_putI hK fl_X11_3 dX11_sign_2 zo_122 zf_11_0 ?_
  refine lt_S hf (fun S4 hf => ?_)
  refine j_aload_n hK dX11_sign_5 0 rfl rfl ?_
  refine j_getI hK fl_X11_137 dX11_sign_6 zo_122 zf_11_10 ?_
  refine j_bipush hK (76 : Int32) dX11_sign_9 bi_76 ?_
  refine j_icmp_le hK 16 dX11_sign_11 (by decide) (fun hc => ?_) (fun hc => ?_)
  · replace hf := if_1 hc hf
    refine j_iconst hK (0 : Int32) dX11_sign_16 ic_0 ?_
    refine j_istore_n hK (L' := [(2, .int (0 : Int32)), (0, .ref 122), (1, .int p1)]) dX11_sign_17 rfl (by decide) rfl ?_
    refine j_sub [1, 2, 0] rfl ?_
    refine t_X11_sign_18 hK hA  (fun v5 S6 hf => ?_) _ _ _ hf
    refine j_aload_n hK dX11_sign_53 0 rfl rfl ?_
    refine j_dup hK dX11_sign_54 rfl ?_
    refine j_getI hK fl_X11_137 dX11_sign_55 zo_122 zf_11_10 ?_
    refine j_iconst hK (4 : Int32) dX11_sign_58 ic_4 ?_
    refine j_iadd hK dX11_sign_59 ?_
    refine j_putI hK fl_X11_137 dX11_sign_60 zo_122 zf_11_10 ?_
    refine lt_S hf (fun S7 hf => ?_)
    refine j_aload_n hK dX11_sign_63 0 rfl rfl ?_
    refine j_pc (pc' := 64) rfl ?_
    refine j_getI hK fl_X11_137 dX11_sign_64 zo_122 zf_11_10 ?_
    exact j_iret hK dX11_sign_67 rfl (rt_I hA hf)
  · replace hf := if_2 hc hf
    refine j_iconst hK (-1 : Int32) dX11_sign_14 ic_m1 ?_
    exact j_iret hK dX11_sign_15 rfl (rt_I hA hf)
def f_X11_end (p1 : Int32) (S : St) : Option (Int32 × St) := lt (sI S 122 0 (0 : Int32)) (fun S1 => bd (f_X11_in p1.toInt64 (0 : Int64) (gI S1 122 10).toInt64 S1) (fun r2 S3 => (if r2 = 0 then some ((0 : Int32), S3) else lt (sI S3 122 10 p1) (fun S5 => some ((1 : Int32), S5)))))
theorem c_X11_end {p1 : Int32} {S : St} {r : Int32} {S' : St} (hf : f_X11_end p1 S = some (r, S')) : zM yX11_end cX11_end 2 2 (some .boolean) [.ref 122, .int p1] S (some (.int r)) S' := by
  refine zM_of (zpl (by decide)) (Nat.le_of_ble_eq_true rfl) rfl (fun K hK hA => ?_)
  unfold f_X11_end at hf
  refine j_aload_n hK dX11_end_0 0 rfl rfl ?_
  refine j_iconst hK (0 : Int32) dX11_end_1 ic_0 ?_
  refine j_putI hK fl_X11_3 dX11_end_2 zo_122 zf_11_0 ?_
  refine lt_S hf (fun S1 hf => ?_)
  refine j_iload_n hK dX11_end_5 1 rfl rfl ?_
  refine j_i2l hK dX11_end_6 ?_
  refine j_lconst hK (0 : Int64) dX11_end_7 lc_0 ?_
  refine j_aload_n hK dX11_end_8 0 rfl rfl ?_
  refine j_getI hK fl_X11_137 dX11_end_9 zo_122 zf_11_10 ?_
  refine j_pc (pc' := 12) rfl ?_
  refine j_i2l hK dX11_end_12 ?_
  obtain ⟨r2, S3, h4, hf⟩ := bd_J hf
  refine k_callSi hK (c_X11_in h4) dX11_end_13 ml_X11_131 ms_X11_in in_X11 mc_X11_in hy_X11_in ⟨by decide, by decide⟩ rfl (Nat.le_of_ble_eq_true rfl) ?_
  refine j_if_ne hK 21 dX11_end_16 (by decide) (fun hc => ?_) (fun hc => ?_)
  · replace hf := if_2 hc hf
    refine j_aload_n hK dX11_end_21 0 rfl rfl ?_
    refine j_iload_n hK dX11_end_22 1 rfl rfl ?_
    refine j_putI hK fl_X11_137 dX11_end_23 zo_122 zf_11_10 ?_
    refine lt_S hf (fun S5 hf => ?_)
    refine j_iconst hK (1 : Int32) dX11_end_26 ic_1 ?_
    exact j_zret hK dX11_end_27 rfl rfl (rt_I hA hf)
  · replace hf := if_1 hc hf
    refine j_iconst hK (0 : Int32) dX11_end_19 ic_0 ?_
    exact j_zret hK dX11_end_20 rfl rfl (rt_I hA hf)
def f_X11_begins (p1 : Int32) (S : St) : Option (Int32 × St) := lt (gI S 122 10) (fun y1 => lt (sI S 122 10 (0 : Int32)) (fun S2 => lt (sI S2 122 11 (0 : Int32)) (fun S3 => lt (sI S3 122 13 (0 : Int32)) (fun S4 => lt (sI S4 122 12 (mnI y1 p1)) (fun S5 => some (y1, S5))))))
theorem c_X11_begins {p1 : Int32} {S : St} {r : Int32} {S' : St} (hf : f_X11_begins p1 S = some (r, S')) : zM yX11_begins cX11_begins 3 1 (some .int) [.ref 122, .int p1] S (some (.int r)) S' := by
  refine zM_of (zpl (by decide)) (Nat.le_of_ble_eq_true rfl) rfl (fun K hK hA => ?_)
  unfold f_X11_begins at hf
  refine j_aload_n hK dX11_begins_0 0 rfl rfl ?_
  refine j_getI hK fl_X11_137 dX11_begins_1 zo_122 zf_11_10 ?_
  refine lt_I hf (fun y1 hf => ?_)
  refine j_istore_n hK (L' := [(2, .int y1), (0, .ref 122), (1, .int p1)]) dX11_begins_4 rfl (by decide) rfl ?_
  refine j_aload_n hK dX11_begins_5 1 rfl rfl ?_
  refine j_iconst hK (0 : Int32) dX11_begins_6 ic_0 ?_
  refine j_putI hK fl_X11_137 dX11_begins_7 zo_122 zf_11_10 ?_
  refine lt_S hf (fun S2 hf => ?_)
  refine j_aload_n hK dX11_begins_10 1 rfl rfl ?_
  refine j_iconst hK (0 : Int32) dX11_begins_11 ic_0 ?_
  refine j_pc (pc' := 12) rfl ?_
  refine j_putI hK fl_X11_140 dX11_begins_12 zo_122 zf_11_11 ?_
  refine lt_S hf (fun S3 hf => ?_)
  refine j_aload_n hK dX11_begins_15 1 rfl rfl ?_
  refine j_iconst hK (0 : Int32) dX11_begins_16 ic_0 ?_
  refine j_putI hK fl_X11_143 dX11_begins_17 zo_122 zf_11_13 ?_
  refine lt_S hf (fun S4 hf => ?_)
  refine j_aload_n hK dX11_begins_20 1 rfl rfl ?_
  refine j_iload_n hK dX11_begins_21 0 rfl rfl ?_
  refine j_iload_n hK dX11_begins_22 2 rfl rfl ?_
  refine j_min hK ml_X11_146 dX11_begins_23 (by decide) (Nat.le_of_ble_eq_true rfl) ?_
  refine j_pc (pc' := 26) rfl ?_
  refine j_putI hK fl_X11_152 dX11_begins_26 zo_122 zf_11_12 ?_
  refine lt_S hf (fun S5 hf => ?_)
  refine j_iload_n hK dX11_begins_29 0 rfl rfl ?_
  exact j_iret hK dX11_begins_30 rfl (rt_I hA hf)
def f_X11_takes_29 (s0 : Int32) (S : St) : Option (Int32 × St) := bd (f_X11_flag s0 S) (fun r1 S2 => lt (sI S2 122 11 ((gI S 122 11) + r1)) (fun S4 => if s0 = 0 ∨ s0 = 1 then some (s0, S4) else none))
theorem t_X11_takes_29 {K : CT} (hK : KO K cX11_takes RX11 3 2 (some .boolean)) {r : Int32} {S' : St} (hA : zans K = (some (.int r), S')) {s0 : Int32} {S : St} (hf : f_X11_takes_29 s0 S = some (r, S')) : J K 29 [(0, .ref 122)] [.int s0] S := by
  unfold f_X11_takes_29 at hf
  refine j_istore_n hK (L' := [(2, .int s0), (0, .ref 122)]) dX11_takes_29 rfl (by decide) rfl ?_
  refine j_aload_n hK dX11_takes_30 1 rfl rfl ?_
  refine j_dup hK dX11_takes_31 rfl ?_
  refine j_getI hK fl_X11_140 dX11_takes_32 zo_122 zf_11_11 ?_
  refine j_iload_n hK dX11_takes_35 0 rfl rfl ?_
  obtain ⟨r1, S2, h3, hf⟩ := bd_J hf
  refine k_callSi hK (c_X11_flag h3) dX11_takes_36 ml_X11_155 ms_X11_flag in_X11 mc_X11_flag hy_X11_flag ⟨by decide, by decide⟩ rfl (Nat.le_of_ble_eq_true rfl) ?_
  refine j_iadd hK dX11_takes_39 ?_
  refine j_putI hK fl_X11_140 dX11_takes_40 zo_122 zf_11_11 ?_
  refine lt_S hf (fun S4 hf => ?_)
  refine j_pc (pc' := 43) rfl ?_
  refine j_iload_n hK dX11_takes_43 0 rfl rfl ?_
  obtain ⟨hz, hf⟩ := gd hf
  exact j_zret hK dX11_takes_44 rfl (nz hz) (rt_I hA hf)
def f_X11_takes_28 (S : St) : Option (Int32 × St) := f_X11_takes_29 (0 : Int32) S
theorem t_X11_takes_28 {K : CT} (hK : KO K cX11_takes RX11 3 2 (some .boolean)) {r : Int32} {S' : St} (hA : zans K = (some (.int r), S')) {S : St} (hf : f_X11_takes_28  S = some (r, S')) : J K 28 [(0, .ref 122)] [] S := by
  unfold f_X11_takes_28 at hf
  refine j_iconst hK (0 : Int32) dX11_takes_28 ic_0 ?_
  exact t_X11_takes_29 hK hA  hf
def f_X11_takes (p1 : Int32) (S : St) : Option (Int32 × St) := (if (gI S 122 12) ≤ (gI S 122 11) then f_X11_takes_28  S else if inb (gI S 122 11) 80 then (if (gI S 128 (gI S 122 11).toNatClampNeg) = p1 then f_X11_takes_29 (1 : Int32) S else f_X11_takes_28  S) else none)
theorem c_X11_takes {p1 : Int32} {S : St} {r : Int32} {S' : St} (hf : f_X11_takes p1 S = some (r, S')) : zM yX11_takes cX11_takes 3 2 (some .boolean) [.ref 122, .int p1] S (some (.int r)) S' := by
  refine zM_of (zpl (by decide)) (Nat.le_of_ble_eq_true rfl) rfl (fun K hK hA => ?_)
  unfold f_X11_takes at hf
  refine j_aload_n hK dX11_takes_0 0 rfl rfl ?_
  refine j_getI hK fl_X11_140 dX11_takes_1 zo_122 zf_11_11 ?_
  refine j_aload_n hK dX11_takes_4 0 rfl rfl ?_
  refine j_getI hK fl_X11_152 dX11_takes_5 zo_122 zf_11_12 ?_
  refine j_icmp_ge hK 28 dX11_takes_8 (by decide) (fun hc => ?_) (fun hc => ?_)
  · replace hf := if_1 hc hf
    refine j_sub [0] rfl ?_
    exact t_X11_takes_28 hK hA  hf
  · replace hf := if_2 hc hf
    refine j_aload_n hK dX11_takes_11 0 rfl rfl ?_
    refine j_getR hK fl_X11_37 dX11_takes_12 zo_122 zf_11_9 zr_122_9 ?_
    refine j_aload_n hK dX11_takes_15 0 rfl rfl ?_
    refine j_getI hK fl_X11_140 dX11_takes_16 zo_122 zf_11_11 ?_
    obtain ⟨hi5, hf⟩ := gd hf
    refine k_iald hK dX11_takes_19 zb_128 hi5 rfl ?_
    refine j_iload_n hK dX11_takes_20 1 rfl rfl ?_
    refine j_icmp_ne hK 28 dX11_takes_21 (by decide) (fun hc => ?_) (fun hc => ?_)
    · replace hf := if_2 hc hf
      refine j_sub [0] rfl ?_
      exact t_X11_takes_28 hK hA  hf
    · replace hf := if_1 hc hf
      refine j_iconst hK (1 : Int32) dX11_takes_24 ic_1 ?_
      refine j_goto hK 29 dX11_takes_25 (by decide) ?_
      refine j_sub [0] rfl ?_
      exact t_X11_takes_29 hK hA  hf
def f_X11_isDigit (S : St) : Option (Int32 × St) := (if (gI S 122 12) ≤ (gI S 122 11) then some ((0 : Int32), S) else if inb (gI S 122 11) 80 then bd (f_X11_in (gI S 128 (gI S 122 11).toNatClampNeg).toInt64 (48 : Int64) (57 : Int64) S) (fun r2 S3 => (if r2 = 0 then some ((0 : Int32), S3) else some ((1 : Int32), S3))) else none)
theorem c_X11_isDigit {S : St} {r : Int32} {S' : St} (hf : f_X11_isDigit S = some (r, S')) : zM yX11_isDigit cX11_isDigit 1 2 (some .boolean) [.ref 122] S (some (.int r)) S' := by
  refine zM_of (zpl (by decide)) (Nat.le_of_ble_eq_true rfl) rfl (fun K hK hA => ?_)
  unfold f_X11_isDigit at hf
  refine j_aload_n hK dX11_isDigit_0 0 rfl rfl ?_
  refine j_getI hK fl_X11_140 dX11_isDigit_1 zo_122 zf_11_11 ?_
  refine j_aload_n hK dX11_isDigit_4 0 rfl rfl ?_
  refine j_getI hK fl_X11_152 dX11_isDigit_5 zo_122 zf_11_12 ?_
  refine j_icmp_ge hK 37 dX11_isDigit_8 (by decide) (fun hc => ?_) (fun hc => ?_)
  · replace hf := if_1 hc hf
    refine j_iconst hK (0 : Int32) dX11_isDigit_37 ic_0 ?_
    exact j_zret hK dX11_isDigit_38 rfl rfl (rt_I hA hf)
  · replace hf := if_2 hc hf
    refine j_aload_n hK dX11_isDigit_11 0 rfl rfl ?_
    refine j_getR hK fl_X11_37 dX11_isDigit_12 zo_122 zf_11_9 zr_122_9 ?_
    refine j_aload_n hK dX11_isDigit_15 0 rfl rfl ?_
    refine j_getI hK fl_X11_140 dX11_isDigit_16 zo_122 zf_11_11 ?_
    obtain ⟨hi1, hf⟩ := gd hf
    refine k_iald hK dX11_isDigit_19 zb_128 hi1 rfl ?_
    refine j_i2l hK dX11_isDigit_20 ?_
    refine j_ldc2 hK (v := (48 : Int64)) cl_X11_159 dX11_isDigit_21 ?_
    refine j_pc (pc' := 24) rfl ?_
    refine j_ldc2 hK (v := (57 : Int64)) cl_X11_161 dX11_isDigit_24 ?_
    obtain ⟨r2, S3, h4, hf⟩ := bd_J hf
    refine k_callSi hK (c_X11_in h4) dX11_isDigit_27 ml_X11_131 ms_X11_in in_X11 mc_X11_in hy_X11_in ⟨by decide, by decide⟩ rfl (Nat.le_of_ble_eq_true rfl) ?_
    refine j_if_eq hK 37 dX11_isDigit_30 (by decide) (fun hc => ?_) (fun hc => ?_)
    · replace hf := if_1 hc hf
      refine j_iconst hK (0 : Int32) dX11_isDigit_37 ic_0 ?_
      exact j_zret hK dX11_isDigit_38 rfl rfl (rt_I hA hf)
    · replace hf := if_2 hc hf
      refine j_iconst hK (1 : Int32) dX11_isDigit_33 ic_1 ?_
      refine j_goto hK 38 dX11_isDigit_34 (by decide) ?_
      exact j_zret hK dX11_isDigit_38 rfl rfl (rt_I hA hf)
def f_X11_isLetter (S : St) : Option (Int32 × St) := (if (gI S 122 12) ≤ (gI S 122 11) then some ((0 : Int32), S) else if inb (gI S 122 11) 80 then bd (f_X11_in (gI S 128 (gI S 122 11).toNatClampNeg).toInt64 (97 : Int64) (104 : Int64) S) (fun r2 S3 => (if r2 = 0 then some ((0 : Int32), S3) else some ((1 : Int32), S3))) else none)
theorem c_X11_isLetter {S : St} {r : Int32} {S' : St} (hf : f_X11_isLetter S = some (r, S')) : zM yX11_isLetter cX11_isLetter 1 2 (some .boolean) [.ref 122] S (some (.int r)) S' := by
  refine zM_of (zpl (by decide)) (Nat.le_of_ble_eq_true rfl) rfl (fun K hK hA => ?_)
  unfold f_X11_isLetter at hf
  refine j_aload_n hK dX11_isLetter_0 0 rfl rfl ?_
  refine j_getI hK fl_X11_140 dX11_isLetter_1 zo_122 zf_11_11 ?_
  refine j_aload_n hK dX11_isLetter_4 0 rfl rfl ?_
  refine j_getI hK fl_X11_152 dX11_isLetter_5 zo_122 zf_11_12 ?_
  refine j_icmp_ge hK 37 dX11_isLetter_8 (by decide) (fun hc => ?_) (fun hc => ?_)
  · replace hf := if_1 hc hf
    refine j_iconst hK (0 : Int32) dX11_isLetter_37 ic_0 ?_
    exact j_zret hK dX11_isLetter_38 rfl rfl (rt_I hA hf)
  · replace hf := if_2 hc hf
    refine j_aload_n hK dX11_isLetter_11 0 rfl rfl ?_
    refine j_getR hK fl_X11_37 dX11_isLetter_12 zo_122 zf_11_9 zr_122_9 ?_
    refine j_aload_n hK dX11_isLetter_15 0 rfl rfl ?_
    refine j_getI hK fl_X11_140 dX11_isLetter_16 zo_122 zf_11_11 ?_
    obtain ⟨hi1, hf⟩ := gd hf
    refine k_iald hK dX11_isLetter_19 zb_128 hi1 rfl ?_
    refine j_i2l hK dX11_isLetter_20 ?_
    refine j_ldc2 hK (v := (97 : Int64)) cl_X11_163 dX11_isLetter_21 ?_
    refine j_pc (pc' := 24) rfl ?_
    refine j_ldc2 hK (v := (104 : Int64)) cl_X11_165 dX11_isLetter_24 ?_
    obtain ⟨r2, S3, h4, hf⟩ := bd_J hf
    refine k_callSi hK (c_X11_in h4) dX11_isLetter_27 ml_X11_131 ms_X11_in in_X11 mc_X11_in hy_X11_in ⟨by decide, by decide⟩ rfl (Nat.le_of_ble_eq_true rfl) ?_
    refine j_if_eq hK 37 dX11_isLetter_30 (by decide) (fun hc => ?_) (fun hc => ?_)
    · replace hf := if_1 hc hf
      refine j_iconst hK (0 : Int32) dX11_isLetter_37 ic_0 ?_
      exact j_zret hK dX11_isLetter_38 rfl rfl (rt_I hA hf)
    · replace hf := if_2 hc hf
      refine j_iconst hK (1 : Int32) dX11_isLetter_33 ic_1 ?_
      refine j_goto hK 38 dX11_isLetter_34 (by decide) ?_
      exact j_zret hK dX11_isLetter_38 rfl rfl (rt_I hA hf)
def f_X11_number_13b (x1 : Int32) (e : Int32 × Int32 → St → Option (Int32 × St)) (k : Int32 × Int32 → St → Option (Int32 × St)) (v : Int32 × Int32) (S : St) : Option (Int32 × St) := (if x1 ≤ v.2 then e (v.1, v.2) S else bd (f_X11_isDigit S) (fun r1 S2 => (if r1 = 0 then e (v.1, v.2) S2 else if inb (gI S2 122 11) 80 then lt ((((10 : Int32) * v.1) + (gI S2 128 (gI S2 122 11).toNatClampNeg)) - (48 : Int32)) (fun y5 => lt (sI S2 122 11 ((gI S2 122 11) + (1 : Int32))) (fun S6 => k (y5, (v.2 + (1 : Int32))) S6)) else none)))
theorem t_X11_number_13 {K : CT} (hK : KO K cX11_number RX11 4 3 (some .int)) {r : Int32} {S' : St} (hA : zans K = (some (.int r), S')) {x1 : Int32} {e : Int32 × Int32 → St → Option (Int32 × St)} (he : ∀ (v : Int32 × Int32) (S : St), e v S = some (r, S') → J K 59 [(2, .int v.1)] [] S) : ∀ (n : Nat) (v : Int32 × Int32) (S : St), lp (f_X11_number_13b x1 e) n v S = some (r, S') → J K 13 [(0, .ref 122), (1, .int x1), (2, .int v.1), (3, .int v.2)] [] S :=
  lp_J (P := fun (v : Int32 × Int32) (S : St) => J K 13 [(0, .ref 122), (1, .int x1), (2, .int v.1), (3, .int v.2)] [] S) (fun k hk v S hf => by
    unfold f_X11_number_13b at hf
    refine j_iload_n hK dX11_number_13 3 rfl rfl ?_
    refine j_iload_n hK dX11_number_14 1 rfl rfl ?_
    refine j_icmp_ge hK 59 dX11_number_15 (by decide) (fun hc => ?_) (fun hc => ?_)
    · replace hf := if_1 hc hf
      refine j_sub [2] rfl ?_
      exact he _ _ hf
    · replace hf := if_2 hc hf
      refine j_aload_n hK dX11_number_18 0 rfl rfl ?_
      obtain ⟨r1, S2, h3, hf⟩ := bd_J hf
      refine k_callVi hK (c_X11_isDigit h3) dX11_number_19 zclX11 zo_122 ml_X11_177 mi_X11_isDigit mx_X11_isDigit in_X11 mc_X11_isDigit hy_X11_isDigit ⟨by decide, by decide⟩ rfl (Nat.le_of_ble_eq_true rfl) ?_
      refine j_if_eq hK 59 dX11_number_22 (by decide) (fun hc => ?_) (fun hc => ?_)
      · replace hf := if_1 hc hf
        refine j_sub [2] rfl ?_
        exact he _ _ hf
      · replace hf := if_2 hc hf
        refine j_bipush hK (10 : Int32) dX11_number_25 bi_10 ?_
        refine j_iload_n hK dX11_number_27 2 rfl rfl ?_
        refine j_imul hK dX11_number_28 ?_
        refine j_aload_n hK dX11_number_29 0 rfl rfl ?_
        refine j_getR hK fl_X11_37 dX11_number_30 zo_122 zf_11_9 zr_122_9 ?_
        refine j_aload_n hK dX11_number_33 0 rfl rfl ?_
        refine j_getI hK fl_X11_140 dX11_number_34 zo_122 zf_11_11 ?_
        refine j_pc (pc' := 37) rfl ?_
        obtain ⟨hi4, hf⟩ := gd hf
        refine k_iald hK dX11_number_37 zb_128 hi4 rfl ?_
        refine j_iadd hK dX11_number_38 ?_
        refine j_bipush hK (48 : Int32) dX11_number_39 bi_48 ?_
        refine j_isub hK dX11_number_41 ?_
        refine lt_I hf (fun y5 hf => ?_)
        refine j_istore_n hK (L' := [(2, .int y5), (0, .ref 122), (1, .int x1), (3, .int v.2)]) dX11_number_42 rfl (by decide) rfl ?_
        refine j_aload_n hK dX11_number_43 1 rfl rfl ?_
        refine j_dup hK dX11_number_44 rfl ?_
        refine j_getI hK fl_X11_140 dX11_number_45 zo_122 zf_11_11 ?_
        refine j_pc (pc' := 48) rfl ?_
        refine j_iconst hK (1 : Int32) dX11_number_48 ic_1 ?_
        refine j_iadd hK dX11_number_49 ?_
        refine j_putI hK fl_X11_140 dX11_number_50 zo_122 zf_11_11 ?_
        refine lt_S hf (fun S6 hf => ?_)
        refine j_iinc hK (L' := [(3, .int (v.2 + (1 : Int32))), (2, .int y5), (0, .ref 122), (1, .int x1)]) dX11_number_53 3 rfl (congrArg (fun y => v.2 + y) ic_1) (by decide) rfl ?_
        refine j_goto hK 13 dX11_number_56 (by decide) ?_
        refine j_sub [2, 3, 1, 0] rfl ?_
        exact hk _ _ hf)
def f_X11_number (p1 : Int32) (S : St) : Option (Int32 × St) := bd (f_X11_isDigit S) (fun r7 S8 => (if r7 = 0 then some ((-1 : Int32), S8) else lp (f_X11_number_13b p1 (fun v10 S11 => some (v10.1, S11))) FU ((0 : Int32), (0 : Int32)) S8))
theorem c_X11_number {p1 : Int32} {S : St} {r : Int32} {S' : St} (hf : f_X11_number p1 S = some (r, S')) : zM yX11_number cX11_number 4 3 (some .int) [.ref 122, .int p1] S (some (.int r)) S' := by
  refine zM_of (zpl (by decide)) (Nat.le_of_ble_eq_true rfl) rfl (fun K hK hA => ?_)
  unfold f_X11_number at hf
  refine j_aload_n hK dX11_number_0 0 rfl rfl ?_
  obtain ⟨r7, S8, h9, hf⟩ := bd_J hf
  refine k_callVi hK (c_X11_isDigit h9) dX11_number_1 zclX11 zo_122 ml_X11_177 mi_X11_isDigit mx_X11_isDigit in_X11 mc_X11_isDigit hy_X11_isDigit ⟨by decide, by decide⟩ rfl (Nat.le_of_ble_eq_true rfl) ?_
  refine j_if_ne hK 9 dX11_number_4 (by decide) (fun hc => ?_) (fun hc => ?_)
  · replace hf := if_2 hc hf
    refine j_iconst hK (0 : Int32) dX11_number_9 ic_0 ?_
    refine j_istore_n hK (L' := [(2, .int (0 : Int32)), (0, .ref 122), (1, .int p1)]) dX11_number_10 rfl (by decide) rfl ?_
    refine j_iconst hK (0 : Int32) dX11_number_11 ic_0 ?_
    refine j_istore_n hK (L' := [(3, .int (0 : Int32)), (2, .int (0 : Int32)), (0, .ref 122), (1, .int p1)]) dX11_number_12 rfl (by decide) rfl ?_
    refine j_sub [2, 3, 1, 0] rfl ?_
    refine t_X11_number_13 hK hA  (fun v10 S11 hf => ?_) _ _ _ hf
    refine j_iload_n hK dX11_number_59 0 rfl rfl ?_
    exact j_iret hK dX11_number_60 rfl (rt_I hA hf)
  · replace hf := if_1 hc hf
    refine j_iconst hK (-1 : Int32) dX11_number_7 ic_m1 ?_
    exact j_iret hK dX11_number_8 rfl (rt_I hA hf)
def f_X11_digitIn (p1 : Int32) (p2 : Int32) (p3 : Int32) (S : St) : Option (Int32 × St) := (if (gI S 122 12) ≤ (gI S 122 11) then some ((-1 : Int32), S) else if inb (gI S 122 11) 80 then bd (f_X11_in ((gI S 128 (gI S 122 11).toNatClampNeg) - (48 : Int32)).toInt64 p1.toInt64 p2.toInt64 S) (fun r2 S3 => (if r2 = 0 then some ((-1 : Int32), S3) else if inb (gI S3 122 11) 80 then (if ((gI S3 128 (gI S3 122 11).toNatClampNeg) - (48 : Int32)) = p3 then some ((-1 : Int32), S3) else lt (sI S3 122 11 ((gI S3 122 11) + (1 : Int32))) (fun S6 => if inb ((gI S6 122 11) - (1 : Int32)) 80 then lt ((gI S6 128 ((gI S6 122 11) - (1 : Int32)).toNatClampNeg) - (48 : Int32)) (fun y8 => some (y8, S6)) else none)) else none)) else none)
theorem c_X11_digitIn {p1 : Int32} {p2 : Int32} {p3 : Int32} {S : St} {r : Int32} {S' : St} (hf : f_X11_digitIn p1 p2 p3 S = some (r, S')) : zM yX11_digitIn cX11_digitIn 4 2 (some .int) [.ref 122, .int p1, .int p2, .int p3] S (some (.int r)) S' := by
  refine zM_of (zpl (by decide)) (Nat.le_of_ble_eq_true rfl) rfl (fun K hK hA => ?_)
  unfold f_X11_digitIn at hf
  refine j_aload_n hK dX11_digitIn_0 0 rfl rfl ?_
  refine j_getI hK fl_X11_140 dX11_digitIn_1 zo_122 zf_11_11 ?_
  refine j_aload_n hK dX11_digitIn_4 0 rfl rfl ?_
  refine j_getI hK fl_X11_152 dX11_digitIn_5 zo_122 zf_11_12 ?_
  refine j_icmp_ge hK 50 dX11_digitIn_8 (by decide) (fun hc => ?_) (fun hc => ?_)
  · replace hf := if_1 hc hf
    refine j_iconst hK (-1 : Int32) dX11_digitIn_50 ic_m1 ?_
    exact j_iret hK dX11_digitIn_51 rfl (rt_I hA hf)
  · replace hf := if_2 hc hf
    refine j_aload_n hK dX11_digitIn_11 0 rfl rfl ?_
    refine j_getR hK fl_X11_37 dX11_digitIn_12 zo_122 zf_11_9 zr_122_9 ?_
    refine j_aload_n hK dX11_digitIn_15 0 rfl rfl ?_
    refine j_getI hK fl_X11_140 dX11_digitIn_16 zo_122 zf_11_11 ?_
    obtain ⟨hi1, hf⟩ := gd hf
    refine k_iald hK dX11_digitIn_19 zb_128 hi1 rfl ?_
    refine j_bipush hK (48 : Int32) dX11_digitIn_20 bi_48 ?_
    refine j_isub hK dX11_digitIn_22 ?_
    refine j_pc (pc' := 23) rfl ?_
    refine j_i2l hK dX11_digitIn_23 ?_
    refine j_iload_n hK dX11_digitIn_24 1 rfl rfl ?_
    refine j_i2l hK dX11_digitIn_25 ?_
    refine j_iload_n hK dX11_digitIn_26 2 rfl rfl ?_
    refine j_i2l hK dX11_digitIn_27 ?_
    obtain ⟨r2, S3, h4, hf⟩ := bd_J hf
    refine k_callSi hK (c_X11_in h4) dX11_digitIn_28 ml_X11_131 ms_X11_in in_X11 mc_X11_in hy_X11_in ⟨by decide, by decide⟩ rfl (Nat.le_of_ble_eq_true rfl) ?_
    refine j_if_eq hK 50 dX11_digitIn_31 (by decide) (fun hc => ?_) (fun hc => ?_)
    · replace hf := if_1 hc hf
      refine j_iconst hK (-1 : Int32) dX11_digitIn_50 ic_m1 ?_
      exact j_iret hK dX11_digitIn_51 rfl (rt_I hA hf)
    · replace hf := if_2 hc hf
      refine j_aload_n hK dX11_digitIn_34 0 rfl rfl ?_
      refine j_getR hK fl_X11_37 dX11_digitIn_35 zo_122 zf_11_9 zr_122_9 ?_
      refine j_aload_n hK dX11_digitIn_38 0 rfl rfl ?_
      refine j_getI hK fl_X11_140 dX11_digitIn_39 zo_122 zf_11_11 ?_
      obtain ⟨hi5, hf⟩ := gd hf
      refine k_iald hK dX11_digitIn_42 zb_128 hi5 rfl ?_
      refine j_bipush hK (48 : Int32) dX11_digitIn_43 bi_48 ?_
      refine j_isub hK dX11_digitIn_45 ?_
      refine j_pc (pc' := 46) rfl ?_
      refine j_iload_n hK dX11_digitIn_46 3 rfl rfl ?_
      refine j_icmp_ne hK 52 dX11_digitIn_47 (by decide) (fun hc => ?_) (fun hc => ?_)
      · replace hf := if_2 hc hf
        refine j_aload_n hK dX11_digitIn_52 0 rfl rfl ?_
        refine j_dup hK dX11_digitIn_53 rfl ?_
        refine j_getI hK fl_X11_140 dX11_digitIn_54 zo_122 zf_11_11 ?_
        refine j_iconst hK (1 : Int32) dX11_digitIn_57 ic_1 ?_
        refine j_iadd hK dX11_digitIn_58 ?_
        refine j_putI hK fl_X11_140 dX11_digitIn_59 zo_122 zf_11_11 ?_
        refine lt_S hf (fun S6 hf => ?_)
        refine j_aload_n hK dX11_digitIn_62 0 rfl rfl ?_
        refine j_pc (pc' := 63) rfl ?_
        refine j_getR hK fl_X11_37 dX11_digitIn_63 zo_122 zf_11_9 zr_122_9 ?_
        refine j_aload_n hK dX11_digitIn_66 0 rfl rfl ?_
        refine j_getI hK fl_X11_140 dX11_digitIn_67 zo_122 zf_11_11 ?_
        refine j_iconst hK (1 : Int32) dX11_digitIn_70 ic_1 ?_
        refine j_isub hK dX11_digitIn_71 ?_
        obtain ⟨hi7, hf⟩ := gd hf
        refine k_iald hK dX11_digitIn_72 zb_128 hi7 rfl ?_
        refine j_bipush hK (48 : Int32) dX11_digitIn_73 bi_48 ?_
        refine j_isub hK dX11_digitIn_75 ?_
        refine lt_I hf (fun y8 hf => ?_)
        refine j_pc (pc' := 76) rfl ?_
        exact j_iret hK dX11_digitIn_76 rfl (rt_I hA hf)
      · replace hf := if_1 hc hf
        refine j_iconst hK (-1 : Int32) dX11_digitIn_50 ic_m1 ?_
        exact j_iret hK dX11_digitIn_51 rfl (rt_I hA hf)
def f_X11_faultOf_44 (x4 : Int32) (S : St) : Option (Int32 × St) := (if x4 = 0 then some (((-1 : Int32) - (gI S 122 11)), S) else some ((0 : Int32), S))
theorem t_X11_faultOf_44 {K : CT} (hK : KO K cX11_faultOf RX11 5 1 (some .int)) {r : Int32} {S' : St} (hA : zans K = (some (.int r), S')) {x4 : Int32} {S : St} (hf : f_X11_faultOf_44 x4 S = some (r, S')) : J K 44 [(0, .ref 122), (4, .int x4)] [] S := by
  unfold f_X11_faultOf_44 at hf
  refine j_iload hK dX11_faultOf_44 1 rfl ?_
  refine j_if_eq hK 53 dX11_faultOf_46 (by decide) (fun hc => ?_) (fun hc => ?_)
  · replace hf := if_1 hc hf
    refine j_iconst hK (-1 : Int32) dX11_faultOf_53 ic_m1 ?_
    refine j_aload_n hK dX11_faultOf_54 0 rfl rfl ?_
    refine j_getI hK fl_X11_140 dX11_faultOf_55 zo_122 zf_11_11 ?_
    refine j_isub hK dX11_faultOf_58 ?_
    exact j_iret hK dX11_faultOf_59 rfl (rt_I hA hf)
  · replace hf := if_2 hc hf
    refine j_iconst hK (0 : Int32) dX11_faultOf_49 ic_0 ?_
    refine j_goto hK 59 dX11_faultOf_50 (by decide) ?_
    exact j_iret hK dX11_faultOf_59 rfl (rt_I hA hf)
def f_X11_faultOf_40 (x2 : Int32) (S : St) : Option (Int32 × St) := some (((-1 : Int32) - x2), S)
theorem t_X11_faultOf_40 {K : CT} (hK : KO K cX11_faultOf RX11 5 1 (some .int)) {r : Int32} {S' : St} (hA : zans K = (some (.int r), S')) {x2 : Int32} {S : St} (hf : f_X11_faultOf_40 x2 S = some (r, S')) : J K 40 [(2, .int x2)] [] S := by
  unfold f_X11_faultOf_40 at hf
  refine j_iconst hK (-1 : Int32) dX11_faultOf_40 ic_m1 ?_
  refine j_iload_n hK dX11_faultOf_41 0 rfl rfl ?_
  refine j_isub hK dX11_faultOf_42 ?_
  exact j_iret hK dX11_faultOf_43 rfl (rt_I hA hf)
def f_X11_faultOf_20 (x1 : Int32) (x2 : Int32) (s0 : Int32) (S : St) : Option (Int32 × St) := (if x1 ≤ x2 then f_X11_faultOf_44 s0 S else (if s0 = 0 then (if (gI S 122 11) < x2 then f_X11_faultOf_44 s0 S else f_X11_faultOf_40 x2 S) else f_X11_faultOf_40 x2 S))
theorem t_X11_faultOf_20 {K : CT} (hK : KO K cX11_faultOf RX11 5 1 (some .int)) {r : Int32} {S' : St} (hA : zans K = (some (.int r), S')) {x1 : Int32} {x2 : Int32} {s0 : Int32} {S : St} (hf : f_X11_faultOf_20 x1 x2 s0 S = some (r, S')) : J K 20 [(0, .ref 122), (1, .int x1), (2, .int x2)] [.int s0] S := by
  unfold f_X11_faultOf_20 at hf
  refine j_istore hK (L' := [(4, .int s0), (0, .ref 122), (1, .int x1), (2, .int x2)]) dX11_faultOf_20 (by decide) rfl ?_
  refine j_iload_n hK dX11_faultOf_22 2 rfl rfl ?_
  refine j_iload_n hK dX11_faultOf_23 3 rfl rfl ?_
  refine j_icmp_le hK 44 dX11_faultOf_24 (by decide) (fun hc => ?_) (fun hc => ?_)
  · replace hf := if_1 hc hf
    refine j_sub [1, 0] rfl ?_
    exact t_X11_faultOf_44 hK hA  hf
  · replace hf := if_2 hc hf
    refine j_iload hK dX11_faultOf_27 0 rfl ?_
    refine j_if_ne hK 40 dX11_faultOf_29 (by decide) (fun hc => ?_) (fun hc => ?_)
    · replace hf := if_2 hc hf
      refine j_sub [3] rfl ?_
      exact t_X11_faultOf_40 hK hA  hf
    · replace hf := if_1 hc hf
      refine j_aload_n hK dX11_faultOf_32 1 rfl rfl ?_
      refine j_getI hK fl_X11_140 dX11_faultOf_33 zo_122 zf_11_11 ?_
      refine j_iload_n hK dX11_faultOf_36 3 rfl rfl ?_
      refine j_icmp_lt hK 44 dX11_faultOf_37 (by decide) (fun hc => ?_) (fun hc => ?_)
      · replace hf := if_1 hc hf
        refine j_sub [1, 0] rfl ?_
        exact t_X11_faultOf_44 hK hA  hf
      · replace hf := if_2 hc hf
        refine j_sub [3] rfl ?_
        exact t_X11_faultOf_40 hK hA  hf
def f_X11_faultOf_19 (x1 : Int32) (x2 : Int32) (S : St) : Option (Int32 × St) := f_X11_faultOf_20 x1 x2 (0 : Int32) S
theorem t_X11_faultOf_19 {K : CT} (hK : KO K cX11_faultOf RX11 5 1 (some .int)) {r : Int32} {S' : St} (hA : zans K = (some (.int r), S')) {x1 : Int32} {x2 : Int32} {S : St} (hf : f_X11_faultOf_19 x1 x2 S = some (r, S')) : J K 19 [(0, .ref 122), (1, .int x1), (2, .int x2)] [] S := by
  unfold f_X11_faultOf_19 at hf
  refine j_iconst hK (0 : Int32) dX11_faultOf_19 ic_0 ?_
  exact t_X11_faultOf_20 hK hA  hf
def f_X11_faultOf (p1 : Int32) (p2 : Int32) (p3 : Int32) (S : St) : Option (Int32 × St) := (if p3 = 0 then f_X11_faultOf_19 p1 p2 S else (if (gI S 122 11) = (gI S 122 12) then f_X11_faultOf_20 p1 p2 (1 : Int32) S else f_X11_faultOf_19 p1 p2 S))
theorem c_X11_faultOf {p1 : Int32} {p2 : Int32} {p3 : Int32} {S : St} {r : Int32} {S' : St} (hf : f_X11_faultOf p1 p2 p3 S = some (r, S')) : zM yX11_faultOf cX11_faultOf 5 1 (some .int) [.ref 122, .int p1, .int p2, .int p3] S (some (.int r)) S' := by
  refine zM_of (zpl (by decide)) (Nat.le_of_ble_eq_true rfl) rfl (fun K hK hA => ?_)
  unfold f_X11_faultOf at hf
  refine j_iload_n hK dX11_faultOf_0 3 rfl rfl ?_
  refine j_if_eq hK 19 dX11_faultOf_1 (by decide) (fun hc => ?_) (fun hc => ?_)
  · replace hf := if_1 hc hf
    refine j_sub [0, 1, 2] rfl ?_
    exact t_X11_faultOf_19 hK hA  hf
  · replace hf := if_2 hc hf
    refine j_aload_n hK dX11_faultOf_4 0 rfl rfl ?_
    refine j_getI hK fl_X11_140 dX11_faultOf_5 zo_122 zf_11_11 ?_
    refine j_aload_n hK dX11_faultOf_8 0 rfl rfl ?_
    refine j_getI hK fl_X11_152 dX11_faultOf_9 zo_122 zf_11_12 ?_
    refine j_icmp_ne hK 19 dX11_faultOf_12 (by decide) (fun hc => ?_) (fun hc => ?_)
    · replace hf := if_2 hc hf
      refine j_sub [0, 1, 2] rfl ?_
      exact t_X11_faultOf_19 hK hA  hf
    · replace hf := if_1 hc hf
      refine j_iconst hK (1 : Int32) dX11_faultOf_15 ic_1 ?_
      refine j_goto hK 20 dX11_faultOf_16 (by decide) ?_
      refine j_sub [0, 1, 2] rfl ?_
      exact t_X11_faultOf_20 hK hA  hf
def f_X11_readsPassage_129 (x1 : Int32) (s1 : Int32) (s2 : Int32) (S : St) : Option (Int32 × St) := if inb s1 48 then lt (sI S 129 s1.toNatClampNeg s2) (fun S2 => lt (sI S2 122 15 ((gI S2 122 15) + (1 : Int32))) (fun S3 => if inb (x1 + (3 : Int32)) 48 then (if (gI S3 129 (x1 + (3 : Int32)).toNatClampNeg) < 0 then some ((0 : Int32), S3) else some ((1 : Int32), S3)) else none)) else none
theorem t_X11_readsPassage_129 {K : CT} (hK : KO K cX11_readsPassage RX11 2 4 (some .boolean)) {r : Int32} {S' : St} (hA : zans K = (some (.int r), S')) {x1 : Int32} {s1 : Int32} {s2 : Int32} {S : St} (hf : f_X11_readsPassage_129 x1 s1 s2 S = some (r, S')) : J K 129 [(0, .ref 122), (1, .int x1)] [.int s2, .int s1, .ref 129] S := by
  unfold f_X11_readsPassage_129 at hf
  obtain ⟨hi1, hf⟩ := gd hf
  refine k_iast hK dX11_readsPassage_129 zb_129 hi1 rfl ?_
  refine lt_S hf (fun S2 hf => ?_)
  refine j_aload_n hK dX11_readsPassage_130 0 rfl rfl ?_
  refine j_dup hK dX11_readsPassage_131 rfl ?_
  refine j_getI hK fl_X11_181 dX11_readsPassage_132 zo_122 zf_11_15 ?_
  refine j_iconst hK (1 : Int32) dX11_readsPassage_135 ic_1 ?_
  refine j_iadd hK dX11_readsPassage_136 ?_
  refine j_putI hK fl_X11_181 dX11_readsPassage_137 zo_122 zf_11_15 ?_
  refine lt_S hf (fun S3 hf => ?_)
  refine j_aload_n hK dX11_readsPassage_140 0 rfl rfl ?_
  refine j_pc (pc' := 141) rfl ?_
  refine j_getR hK fl_X11_40 dX11_readsPassage_141 zo_122 zf_11_14 zr_122_14 ?_
  refine j_iload_n hK dX11_readsPassage_144 1 rfl rfl ?_
  refine j_iconst hK (3 : Int32) dX11_readsPassage_145 ic_3 ?_
  refine j_iadd hK dX11_readsPassage_146 ?_
  obtain ⟨hi4, hf⟩ := gd hf
  refine k_iald hK dX11_readsPassage_147 zb_129 hi4 rfl ?_
  refine j_if_lt hK 155 dX11_readsPassage_148 (by decide) (fun hc => ?_) (fun hc => ?_)
  · replace hf := if_1 hc hf
    refine j_iconst hK (0 : Int32) dX11_readsPassage_155 ic_0 ?_
    exact j_zret hK dX11_readsPassage_156 rfl rfl (rt_I hA hf)
  · replace hf := if_2 hc hf
    refine j_iconst hK (1 : Int32) dX11_readsPassage_151 ic_1 ?_
    refine j_goto hK 156 dX11_readsPassage_152 (by decide) ?_
    exact j_zret hK dX11_readsPassage_156 rfl rfl (rt_I hA hf)
def f_X11_readsPassage_101 (x1 : Int32) (s1 : Int32) (s2 : Int32) (S : St) : Option (Int32 × St) := if inb s1 48 then lt (sI S 129 s1.toNatClampNeg s2) (fun S6 => if inb (x1 + (2 : Int32)) 48 then (if 0 ≤ (gI S6 129 (x1 + (2 : Int32)).toNatClampNeg) then bd (f_X11_number (1 : Int32) S6) (fun r8 S9 => f_X11_readsPassage_129 x1 (x1 + (3 : Int32)) r8 S9) else f_X11_readsPassage_129 x1 (x1 + (3 : Int32)) (-1 : Int32) S6) else none) else none
theorem t_X11_readsPassage_101 {K : CT} (hK : KO K cX11_readsPassage RX11 2 4 (some .boolean)) {r : Int32} {S' : St} (hA : zans K = (some (.int r), S')) {x1 : Int32} {s1 : Int32} {s2 : Int32} {S : St} (hf : f_X11_readsPassage_101 x1 s1 s2 S = some (r, S')) : J K 101 [(0, .ref 122), (1, .int x1)] [.int s2, .int s1, .ref 129] S := by
  unfold f_X11_readsPassage_101 at hf
  obtain ⟨hi5, hf⟩ := gd hf
  refine k_iast hK dX11_readsPassage_101 zb_129 hi5 rfl ?_
  refine lt_S hf (fun S6 hf => ?_)
  refine j_aload_n hK dX11_readsPassage_102 0 rfl rfl ?_
  refine j_getR hK fl_X11_40 dX11_readsPassage_103 zo_122 zf_11_14 zr_122_14 ?_
  refine j_iload_n hK dX11_readsPassage_106 1 rfl rfl ?_
  refine j_iconst hK (3 : Int32) dX11_readsPassage_107 ic_3 ?_
  refine j_iadd hK dX11_readsPassage_108 ?_
  refine j_aload_n hK dX11_readsPassage_109 0 rfl rfl ?_
  refine j_getR hK fl_X11_40 dX11_readsPassage_110 zo_122 zf_11_14 zr_122_14 ?_
  refine j_pc (pc' := 113) rfl ?_
  refine j_iload_n hK dX11_readsPassage_113 1 rfl rfl ?_
  refine j_iconst hK (2 : Int32) dX11_readsPassage_114 ic_2 ?_
  refine j_iadd hK dX11_readsPassage_115 ?_
  obtain ⟨hi7, hf⟩ := gd hf
  refine k_iald hK dX11_readsPassage_116 zb_129 hi7 rfl ?_
  refine j_if_ge hK 124 dX11_readsPassage_117 (by decide) (fun hc => ?_) (fun hc => ?_)
  · replace hf := if_1 hc hf
    refine j_aload_n hK dX11_readsPassage_124 0 rfl rfl ?_
    refine j_iconst hK (1 : Int32) dX11_readsPassage_125 ic_1 ?_
    obtain ⟨r8, S9, h10, hf⟩ := bd_J hf
    refine k_callVi hK (c_X11_number h10) dX11_readsPassage_126 zclX11 zo_122 ml_X11_188 mi_X11_number mx_X11_number in_X11 mc_X11_number hy_X11_number ⟨by decide, by decide⟩ rfl (Nat.le_of_ble_eq_true rfl) ?_
    exact t_X11_readsPassage_129 hK hA  hf
  · replace hf := if_2 hc hf
    refine j_iconst hK (-1 : Int32) dX11_readsPassage_120 ic_m1 ?_
    refine j_goto hK 129 dX11_readsPassage_121 (by decide) ?_
    exact t_X11_readsPassage_129 hK hA  hf
def f_X11_readsPassage_70 (x1 : Int32) (s1 : Int32) (s2 : Int32) (S : St) : Option (Int32 × St) := if inb s1 48 then lt (sI S 129 s1.toNatClampNeg s2) (fun S12 => if inb (x1 + (1 : Int32)) 48 then (if 0 ≤ (gI S12 129 (x1 + (1 : Int32)).toNatClampNeg) then bd (f_X11_digitIn (1 : Int32) (9 : Int32) (-1 : Int32) S12) (fun r14 S15 => f_X11_readsPassage_101 x1 (x1 + (2 : Int32)) r14 S15) else f_X11_readsPassage_101 x1 (x1 + (2 : Int32)) (-1 : Int32) S12) else none) else none
theorem t_X11_readsPassage_70 {K : CT} (hK : KO K cX11_readsPassage RX11 2 4 (some .boolean)) {r : Int32} {S' : St} (hA : zans K = (some (.int r), S')) {x1 : Int32} {s1 : Int32} {s2 : Int32} {S : St} (hf : f_X11_readsPassage_70 x1 s1 s2 S = some (r, S')) : J K 70 [(0, .ref 122), (1, .int x1)] [.int s2, .int s1, .ref 129] S := by
  unfold f_X11_readsPassage_70 at hf
  obtain ⟨hi11, hf⟩ := gd hf
  refine k_iast hK dX11_readsPassage_70 zb_129 hi11 rfl ?_
  refine lt_S hf (fun S12 hf => ?_)
  refine j_aload_n hK dX11_readsPassage_71 0 rfl rfl ?_
  refine j_getR hK fl_X11_40 dX11_readsPassage_72 zo_122 zf_11_14 zr_122_14 ?_
  refine j_iload_n hK dX11_readsPassage_75 1 rfl rfl ?_
  refine j_iconst hK (2 : Int32) dX11_readsPassage_76 ic_2 ?_
  refine j_iadd hK dX11_readsPassage_77 ?_
  refine j_aload_n hK dX11_readsPassage_78 0 rfl rfl ?_
  refine j_getR hK fl_X11_40 dX11_readsPassage_79 zo_122 zf_11_14 zr_122_14 ?_
  refine j_pc (pc' := 82) rfl ?_
  refine j_iload_n hK dX11_readsPassage_82 1 rfl rfl ?_
  refine j_iconst hK (1 : Int32) dX11_readsPassage_83 ic_1 ?_
  refine j_iadd hK dX11_readsPassage_84 ?_
  obtain ⟨hi13, hf⟩ := gd hf
  refine k_iald hK dX11_readsPassage_85 zb_129 hi13 rfl ?_
  refine j_if_ge hK 93 dX11_readsPassage_86 (by decide) (fun hc => ?_) (fun hc => ?_)
  · replace hf := if_1 hc hf
    refine j_aload_n hK dX11_readsPassage_93 0 rfl rfl ?_
    refine j_iconst hK (1 : Int32) dX11_readsPassage_94 ic_1 ?_
    refine j_bipush hK (9 : Int32) dX11_readsPassage_95 bi_9 ?_
    refine j_iconst hK (-1 : Int32) dX11_readsPassage_97 ic_m1 ?_
    obtain ⟨r14, S15, h16, hf⟩ := bd_J hf
    refine k_callVi hK (c_X11_digitIn h16) dX11_readsPassage_98 zclX11 zo_122 ml_X11_184 mi_X11_digitIn mx_X11_digitIn in_X11 mc_X11_digitIn hy_X11_digitIn ⟨by decide, by decide⟩ rfl (Nat.le_of_ble_eq_true rfl) ?_
    exact t_X11_readsPassage_101 hK hA  hf
  · replace hf := if_2 hc hf
    refine j_iconst hK (-1 : Int32) dX11_readsPassage_89 ic_m1 ?_
    refine j_goto hK 101 dX11_readsPassage_90 (by decide) ?_
    exact t_X11_readsPassage_101 hK hA  hf
def f_X11_readsPassage (S : St) : Option (Int32 × St) := (if ((gI S 122 3) + (gI S 122 15)) = (12 : Int32) then some ((0 : Int32), S) else lt ((4 : Int32) * (gI S 122 15)) (fun y17 => bd (f_X11_digitIn (0 : Int32) (7 : Int32) (-1 : Int32) S) (fun r18 S19 => if inb y17 48 then lt (sI S19 129 y17.toNatClampNeg r18) (fun S22 => if inb y17 48 then (if 0 ≤ (gI S22 129 y17.toNatClampNeg) then if inb y17 48 then bd (f_X11_digitIn (0 : Int32) (7 : Int32) (gI S22 129 y17.toNatClampNeg) S22) (fun r25 S26 => f_X11_readsPassage_70 y17 (y17 + (1 : Int32)) r25 S26) else none else f_X11_readsPassage_70 y17 (y17 + (1 : Int32)) (-1 : Int32) S22) else none) else none)))
theorem c_X11_readsPassage {S : St} {r : Int32} {S' : St} (hf : f_X11_readsPassage S = some (r, S')) : zM yX11_readsPassage cX11_readsPassage 2 4 (some .boolean) [.ref 122] S (some (.int r)) S' := by
  refine zM_of (zpl (by decide)) (Nat.le_of_ble_eq_true rfl) rfl (fun K hK hA => ?_)
  unfold f_X11_readsPassage at hf
  refine j_aload_n hK dX11_readsPassage_0 0 rfl rfl ?_
  refine j_getI hK fl_X11_128 dX11_readsPassage_1 zo_122 zf_11_3 ?_
  refine j_aload_n hK dX11_readsPassage_4 0 rfl rfl ?_
  refine j_getI hK fl_X11_181 dX11_readsPassage_5 zo_122 zf_11_15 ?_
  refine j_iadd hK dX11_readsPassage_8 ?_
  refine j_bipush hK (12 : Int32) dX11_readsPassage_9 bi_12 ?_
  refine j_icmp_ne hK 16 dX11_readsPassage_11 (by decide) (fun hc => ?_) (fun hc => ?_)
  · replace hf := if_2 hc hf
    refine j_iconst hK (4 : Int32) dX11_readsPassage_16 ic_4 ?_
    refine j_aload_n hK dX11_readsPassage_17 0 rfl rfl ?_
    refine j_getI hK fl_X11_181 dX11_readsPassage_18 zo_122 zf_11_15 ?_
    refine j_imul hK dX11_readsPassage_21 ?_
    refine lt_I hf (fun y17 hf => ?_)
    refine j_istore_n hK (L' := [(1, .int y17), (0, .ref 122)]) dX11_readsPassage_22 rfl (by decide) rfl ?_
    refine j_aload_n hK dX11_readsPassage_23 1 rfl rfl ?_
    refine j_getR hK fl_X11_40 dX11_readsPassage_24 zo_122 zf_11_14 zr_122_14 ?_
    refine j_pc (pc' := 27) rfl ?_
    refine j_iload_n hK dX11_readsPassage_27 0 rfl rfl ?_
    refine j_aload_n hK dX11_readsPassage_28 1 rfl rfl ?_
    refine j_iconst hK (0 : Int32) dX11_readsPassage_29 ic_0 ?_
    refine j_bipush hK (7 : Int32) dX11_readsPassage_30 bi_7 ?_
    refine j_iconst hK (-1 : Int32) dX11_readsPassage_32 ic_m1 ?_
    obtain ⟨r18, S19, h20, hf⟩ := bd_J hf
    refine k_callVi hK (c_X11_digitIn h20) dX11_readsPassage_33 zclX11 zo_122 ml_X11_184 mi_X11_digitIn mx_X11_digitIn in_X11 mc_X11_digitIn hy_X11_digitIn ⟨by decide, by decide⟩ rfl (Nat.le_of_ble_eq_true rfl) ?_
    obtain ⟨hi21, hf⟩ := gd hf
    refine k_iast hK dX11_readsPassage_36 zb_129 hi21 rfl ?_
    refine lt_S hf (fun S22 hf => ?_)
    refine j_aload_n hK dX11_readsPassage_37 1 rfl rfl ?_
    refine j_pc (pc' := 38) rfl ?_
    refine j_getR hK fl_X11_40 dX11_readsPassage_38 zo_122 zf_11_14 zr_122_14 ?_
    refine j_iload_n hK dX11_readsPassage_41 0 rfl rfl ?_
    refine j_iconst hK (1 : Int32) dX11_readsPassage_42 ic_1 ?_
    refine j_iadd hK dX11_readsPassage_43 ?_
    refine j_aload_n hK dX11_readsPassage_44 1 rfl rfl ?_
    refine j_getR hK fl_X11_40 dX11_readsPassage_45 zo_122 zf_11_14 zr_122_14 ?_
    refine j_iload_n hK dX11_readsPassage_48 0 rfl rfl ?_
    obtain ⟨hi23, hf⟩ := gd hf
    refine k_iald hK dX11_readsPassage_49 zb_129 hi23 rfl ?_
    refine j_pc (pc' := 50) rfl ?_
    refine j_if_ge hK 57 dX11_readsPassage_50 (by decide) (fun hc => ?_) (fun hc => ?_)
    · replace hf := if_1 hc hf
      refine j_aload_n hK dX11_readsPassage_57 1 rfl rfl ?_
      refine j_iconst hK (0 : Int32) dX11_readsPassage_58 ic_0 ?_
      refine j_bipush hK (7 : Int32) dX11_readsPassage_59 bi_7 ?_
      refine j_aload_n hK dX11_readsPassage_61 1 rfl rfl ?_
      refine j_getR hK fl_X11_40 dX11_readsPassage_62 zo_122 zf_11_14 zr_122_14 ?_
      refine j_iload_n hK dX11_readsPassage_65 0 rfl rfl ?_
      obtain ⟨hi24, hf⟩ := gd hf
      refine k_iald hK dX11_readsPassage_66 zb_129 hi24 rfl ?_
      refine j_pc (pc' := 67) rfl ?_
      obtain ⟨r25, S26, h27, hf⟩ := bd_J hf
      refine k_callVi hK (c_X11_digitIn h27) dX11_readsPassage_67 zclX11 zo_122 ml_X11_184 mi_X11_digitIn mx_X11_digitIn in_X11 mc_X11_digitIn hy_X11_digitIn ⟨by decide, by decide⟩ rfl (Nat.le_of_ble_eq_true rfl) ?_
      refine j_sub [1, 0] rfl ?_
      exact t_X11_readsPassage_70 hK hA  hf
    · replace hf := if_2 hc hf
      refine j_iconst hK (-1 : Int32) dX11_readsPassage_53 ic_m1 ?_
      refine j_goto hK 70 dX11_readsPassage_54 (by decide) ?_
      refine j_sub [1, 0] rfl ?_
      exact t_X11_readsPassage_70 hK hA  hf
  · replace hf := if_1 hc hf
    refine j_iconst hK (0 : Int32) dX11_readsPassage_14 ic_0 ?_
    exact j_zret hK dX11_readsPassage_15 rfl rfl (rt_I hA hf)
def f_X11_passages_252 (s1 : Int32) (s2 : Int32) (S : St) : Option (Int32 × St) := bd (f_X11_flag s2 S) (fun r1 S2 => lt (sI S2 122 4 (s1 + r1)) (fun S4 => some ((gI S4 122 15), S4)))
theorem t_X11_passages_252 {K : CT} (hK : KO K cX11_passages RX11 6 5 (some .int)) {r : Int32} {S' : St} (hA : zans K = (some (.int r), S')) {s1 : Int32} {s2 : Int32} {S : St} (hf : f_X11_passages_252 s1 s2 S = some (r, S')) : J K 252 [(0, .ref 122)] [.int s2, .int s1, .ref 122] S := by
  unfold f_X11_passages_252 at hf
  obtain ⟨r1, S2, h3, hf⟩ := bd_J hf
  refine k_callSi hK (c_X11_flag h3) dX11_passages_252 ml_X11_155 ms_X11_flag in_X11 mc_X11_flag hy_X11_flag ⟨by decide, by decide⟩ rfl (Nat.le_of_ble_eq_true rfl) ?_
  refine j_iadd hK dX11_passages_255 ?_
  refine j_putI hK fl_X11_209 dX11_passages_256 zo_122 zf_11_4 ?_
  refine lt_S hf (fun S4 hf => ?_)
  refine j_aload_n hK dX11_passages_259 0 rfl rfl ?_
  refine j_getI hK fl_X11_181 dX11_passages_260 zo_122 zf_11_15 ?_
  exact j_iret hK dX11_passages_263 rfl (rt_I hA hf)
def f_X11_passages_232 (s1 : Int32) (S : St) : Option (Int32 × St) := lt (sI S 122 28 s1) (fun S5 => (if (gI S5 122 15) ≤ 0 then f_X11_passages_252 (gI S5 122 4) (0 : Int32) S5 else f_X11_passages_252 (gI S5 122 4) (1 : Int32) S5))
theorem t_X11_passages_232 {K : CT} (hK : KO K cX11_passages RX11 6 5 (some .int)) {r : Int32} {S' : St} (hA : zans K = (some (.int r), S')) {s1 : Int32} {S : St} (hf : f_X11_passages_232 s1 S = some (r, S')) : J K 232 [(0, .ref 122)] [.int s1, .ref 122] S := by
  unfold f_X11_passages_232 at hf
  refine j_putI hK fl_X11_206 dX11_passages_232 zo_122 zf_11_28 ?_
  refine lt_S hf (fun S5 hf => ?_)
  refine j_aload_n hK dX11_passages_235 0 rfl rfl ?_
  refine j_dup hK dX11_passages_236 rfl ?_
  refine j_getI hK fl_X11_209 dX11_passages_237 zo_122 zf_11_4 ?_
  refine j_aload_n hK dX11_passages_240 0 rfl rfl ?_
  refine j_getI hK fl_X11_181 dX11_passages_241 zo_122 zf_11_15 ?_
  refine j_if_le hK 251 dX11_passages_244 (by decide) (fun hc => ?_) (fun hc => ?_)
  · replace hf := if_1 hc hf
    refine j_iconst hK (0 : Int32) dX11_passages_251 ic_0 ?_
    exact t_X11_passages_252 hK hA  hf
  · replace hf := if_2 hc hf
    refine j_iconst hK (1 : Int32) dX11_passages_247 ic_1 ?_
    refine j_goto hK 252 dX11_passages_248 (by decide) ?_
    exact t_X11_passages_252 hK hA  hf
def f_X11_passages_81b (e : Int32 → St → Option (Int32 × St)) (k : Int32 → St → Option (Int32 × St)) (v : Int32) (S : St) : Option (Int32 × St) := (if (gI S 122 15) ≤ v then e v S else if inb ((4 : Int32) * v) 48 then if inb (gI S 122 3) 12 then lt (sI S 124 (gI S 122 3).toNatClampNeg (gI S 129 ((4 : Int32) * v).toNatClampNeg)) (fun S8 => if inb (((4 : Int32) * v) + (1 : Int32)) 48 then if inb (gI S8 122 3) 12 then lt (sI S8 125 (gI S8 122 3).toNatClampNeg (gI S8 129 (((4 : Int32) * v) + (1 : Int32)).toNatClampNeg)) (fun S11 => if inb (((4 : Int32) * v) + (2 : Int32)) 48 then if inb (gI S11 122 3) 39 then lt (sI S11 126 (gI S11 122 3).toNatClampNeg (gI S11 129 (((4 : Int32) * v) + (2 : Int32)).toNatClampNeg)) (fun S14 => if inb (((4 : Int32) * v) + (3 : Int32)) 48 then if inb ((12 : Int32) + (gI S14 122 3)) 39 then lt (sI S14 126 ((12 : Int32) + (gI S14 122 3)).toNatClampNeg (gI S14 129 (((4 : Int32) * v) + (3 : Int32)).toNatClampNeg)) (fun S17 => if inb ((24 : Int32) + (gI S17 122 3)) 39 then lt (sI S17 126 ((24 : Int32) + (gI S17 122 3)).toNatClampNeg (0 : Int32)) (fun S19 => lt (sI S19 126 36 ((gI S19 126 36) ||| ((1 : Int32) <<< ((gI S19 122 3) &&& 31)))) (fun S20 => lt (sI S20 122 3 ((gI S20 122 3) + (1 : Int32))) (fun S21 => k (v + (1 : Int32)) S21))) else none) else none else none) else none else none) else none else none) else none else none)
theorem t_X11_passages_81 {K : CT} (hK : KO K cX11_passages RX11 6 5 (some .int)) {r : Int32} {S' : St} (hA : zans K = (some (.int r), S')) {e : Int32 → St → Option (Int32 × St)} (he : ∀ (v : Int32) (S : St), e v S = some (r, S') → J K 216 [(0, .ref 122)] [] S) : ∀ (n : Nat) (v : Int32) (S : St), lp (f_X11_passages_81b  e) n v S = some (r, S') → J K 81 [(0, .ref 122), (5, .int v)] [] S :=
  lp_J (P := fun (v : Int32) (S : St) => J K 81 [(0, .ref 122), (5, .int v)] [] S) (fun k hk v S hf => by
    unfold f_X11_passages_81b at hf
    refine j_iload hK dX11_passages_81 1 rfl ?_
    refine j_aload_n hK dX11_passages_83 0 rfl rfl ?_
    refine j_getI hK fl_X11_181 dX11_passages_84 zo_122 zf_11_15 ?_
    refine j_icmp_ge hK 216 dX11_passages_87 (by decide) (fun hc => ?_) (fun hc => ?_)
    · replace hf := if_1 hc hf
      refine j_sub [0] rfl ?_
      exact he _ _ hf
    · replace hf := if_2 hc hf
      refine j_aload_n hK dX11_passages_90 0 rfl rfl ?_
      refine j_getR hK fl_X11_24 dX11_passages_91 zo_122 zf_11_5 zr_122_5 ?_
      refine j_aload_n hK dX11_passages_94 0 rfl rfl ?_
      refine j_getI hK fl_X11_128 dX11_passages_95 zo_122 zf_11_3 ?_
      refine j_aload_n hK dX11_passages_98 0 rfl rfl ?_
      refine j_getR hK fl_X11_40 dX11_passages_99 zo_122 zf_11_14 zr_122_14 ?_
      refine j_iconst hK (4 : Int32) dX11_passages_102 ic_4 ?_
      refine j_pc (pc' := 103) rfl ?_
      refine j_iload hK dX11_passages_103 1 rfl ?_
      refine j_imul hK dX11_passages_105 ?_
      obtain ⟨hi6, hf⟩ := gd hf
      refine k_iald hK dX11_passages_106 zb_129 hi6 rfl ?_
      obtain ⟨hi7, hf⟩ := gd hf
      refine k_iast hK dX11_passages_107 zb_124 hi7 rfl ?_
      refine lt_S hf (fun S8 hf => ?_)
      refine j_aload_n hK dX11_passages_108 0 rfl rfl ?_
      refine j_getR hK fl_X11_28 dX11_passages_109 zo_122 zf_11_6 zr_122_6 ?_
      refine j_aload_n hK dX11_passages_112 0 rfl rfl ?_
      refine j_getI hK fl_X11_128 dX11_passages_113 zo_122 zf_11_3 ?_
      refine j_pc (pc' := 116) rfl ?_
      refine j_aload_n hK dX11_passages_116 0 rfl rfl ?_
      refine j_getR hK fl_X11_40 dX11_passages_117 zo_122 zf_11_14 zr_122_14 ?_
      refine j_iconst hK (4 : Int32) dX11_passages_120 ic_4 ?_
      refine j_iload hK dX11_passages_121 1 rfl ?_
      refine j_imul hK dX11_passages_123 ?_
      refine j_iconst hK (1 : Int32) dX11_passages_124 ic_1 ?_
      refine j_iadd hK dX11_passages_125 ?_
      obtain ⟨hi9, hf⟩ := gd hf
      refine k_iald hK dX11_passages_126 zb_129 hi9 rfl ?_
      refine j_pc (pc' := 127) rfl ?_
      obtain ⟨hi10, hf⟩ := gd hf
      refine k_iast hK dX11_passages_127 zb_125 hi10 rfl ?_
      refine lt_S hf (fun S11 hf => ?_)
      refine j_aload_n hK dX11_passages_128 0 rfl rfl ?_
      refine j_getR hK fl_X11_31 dX11_passages_129 zo_122 zf_11_7 zr_122_7 ?_
      refine j_aload_n hK dX11_passages_132 0 rfl rfl ?_
      refine j_getI hK fl_X11_128 dX11_passages_133 zo_122 zf_11_3 ?_
      refine j_aload_n hK dX11_passages_136 0 rfl rfl ?_
      refine j_getR hK fl_X11_40 dX11_passages_137 zo_122 zf_11_14 zr_122_14 ?_
      refine j_iconst hK (4 : Int32) dX11_passages_140 ic_4 ?_
      refine j_pc (pc' := 141) rfl ?_
      refine j_iload hK dX11_passages_141 1 rfl ?_
      refine j_imul hK dX11_passages_143 ?_
      refine j_iconst hK (2 : Int32) dX11_passages_144 ic_2 ?_
      refine j_iadd hK dX11_passages_145 ?_
      obtain ⟨hi12, hf⟩ := gd hf
      refine k_iald hK dX11_passages_146 zb_129 hi12 rfl ?_
      obtain ⟨hi13, hf⟩ := gd hf
      refine k_iast hK dX11_passages_147 zb_126 hi13 rfl ?_
      refine lt_S hf (fun S14 hf => ?_)
      refine j_aload_n hK dX11_passages_148 0 rfl rfl ?_
      refine j_getR hK fl_X11_31 dX11_passages_149 zo_122 zf_11_7 zr_122_7 ?_
      refine j_pc (pc' := 152) rfl ?_
      refine j_bipush hK (12 : Int32) dX11_passages_152 bi_12 ?_
      refine j_aload_n hK dX11_passages_154 0 rfl rfl ?_
      refine j_getI hK fl_X11_128 dX11_passages_155 zo_122 zf_11_3 ?_
      refine j_iadd hK dX11_passages_158 ?_
      refine j_aload_n hK dX11_passages_159 0 rfl rfl ?_
      refine j_getR hK fl_X11_40 dX11_passages_160 zo_122 zf_11_14 zr_122_14 ?_
      refine j_iconst hK (4 : Int32) dX11_passages_163 ic_4 ?_
      refine j_iload hK dX11_passages_164 1 rfl ?_
      refine j_pc (pc' := 166) rfl ?_
      refine j_imul hK dX11_passages_166 ?_
      refine j_iconst hK (3 : Int32) dX11_passages_167 ic_3 ?_
      refine j_iadd hK dX11_passages_168 ?_
      obtain ⟨hi15, hf⟩ := gd hf
      refine k_iald hK dX11_passages_169 zb_129 hi15 rfl ?_
      obtain ⟨hi16, hf⟩ := gd hf
      refine k_iast hK dX11_passages_170 zb_126 hi16 rfl ?_
      refine lt_S hf (fun S17 hf => ?_)
      refine j_aload_n hK dX11_passages_171 0 rfl rfl ?_
      refine j_getR hK fl_X11_31 dX11_passages_172 zo_122 zf_11_7 zr_122_7 ?_
      refine j_bipush hK (24 : Int32) dX11_passages_175 bi_24 ?_
      refine j_pc (pc' := 177) rfl ?_
      refine j_aload_n hK dX11_passages_177 0 rfl rfl ?_
      refine j_getI hK fl_X11_128 dX11_passages_178 zo_122 zf_11_3 ?_
      refine j_iadd hK dX11_passages_181 ?_
      refine j_iconst hK (0 : Int32) dX11_passages_182 ic_0 ?_
      obtain ⟨hi18, hf⟩ := gd hf
      refine k_iast hK dX11_passages_183 zb_126 hi18 rfl ?_
      refine lt_S hf (fun S19 hf => ?_)
      refine j_aload_n hK dX11_passages_184 0 rfl rfl ?_
      refine j_getR hK fl_X11_31 dX11_passages_185 zo_122 zf_11_7 zr_122_7 ?_
      refine j_bipush hK (36 : Int32) dX11_passages_188 bi_36 ?_
      refine j_pc (pc' := 190) rfl ?_
      refine j_dup2 hK dX11_passages_190 rfl rfl ?_
      refine k_iald hK dX11_passages_191 zb_126 (by decide) tn_36 ?_
      refine j_iconst hK (1 : Int32) dX11_passages_192 ic_1 ?_
      refine j_aload_n hK dX11_passages_193 0 rfl rfl ?_
      refine j_getI hK fl_X11_128 dX11_passages_194 zo_122 zf_11_3 ?_
      refine j_ishl hK dX11_passages_197 ?_
      refine j_ior hK dX11_passages_198 ?_
      refine k_iast hK dX11_passages_199 zb_126 (by decide) tn_36 ?_
      refine lt_S hf (fun S20 hf => ?_)
      refine j_pc (pc' := 200) rfl ?_
      refine j_aload_n hK dX11_passages_200 0 rfl rfl ?_
      refine j_dup hK dX11_passages_201 rfl ?_
      refine j_getI hK fl_X11_128 dX11_passages_202 zo_122 zf_11_3 ?_
      refine j_iconst hK (1 : Int32) dX11_passages_205 ic_1 ?_
      refine j_iadd hK dX11_passages_206 ?_
      refine j_putI hK fl_X11_128 dX11_passages_207 zo_122 zf_11_3 ?_
      refine lt_S hf (fun S21 hf => ?_)
      refine j_iinc hK (L' := [(5, .int (v + (1 : Int32))), (0, .ref 122)]) dX11_passages_210 1 rfl (congrArg (fun y => v + y) ic_1) (by decide) rfl ?_
      refine j_goto hK 81 dX11_passages_213 (by decide) ?_
      refine j_sub [1, 0] rfl ?_
      exact hk _ _ hf)
def f_X11_passages_56 (x1 : Int32) (x2 : Int32) (s0 : Int32) (k e : Int32 × Int32 → St → Option (Int32 × St)) (S : St) : Option (Int32 × St) := k (x2, s0) S
theorem t_X11_passages_56 {K : CT} (hK : KO K cX11_passages RX11 6 5 (some .int)) {r : Int32} {S' : St} (hA : zans K = (some (.int r), S')) {x1 : Int32} {x2 : Int32} {s0 : Int32} {k e : Int32 × Int32 → St → Option (Int32 × St)} (hk : ∀ (v : Int32 × Int32) (S : St), k v S = some (r, S') → J K 29 [(0, .ref 122), (1, .int x1), (2, .int v.1), (3, .int v.2)] [] S) (he : ∀ (v : Int32 × Int32) (S : St), e v S = some (r, S') → J K 60 [(0, .ref 122), (1, .int x1), (2, .int v.1)] [] S) {S : St} (hf : f_X11_passages_56 x1 x2 s0 k e S = some (r, S')) : J K 56 [(0, .ref 122), (1, .int x1), (2, .int x2)] [.int s0] S := by
  unfold f_X11_passages_56 at hf
  refine j_istore_n hK (L' := [(3, .int s0), (0, .ref 122), (1, .int x1), (2, .int x2)]) dX11_passages_56 rfl (by decide) rfl ?_
  refine j_goto hK 29 dX11_passages_57 (by decide) ?_
  refine j_sub [1, 2, 3, 0] rfl ?_
  exact hk _ _ hf
def f_X11_passages_55 (x1 : Int32) (x2 : Int32) (k e : Int32 × Int32 → St → Option (Int32 × St)) (S : St) : Option (Int32 × St) := f_X11_passages_56 x1 x2 (0 : Int32) k e S
theorem t_X11_passages_55 {K : CT} (hK : KO K cX11_passages RX11 6 5 (some .int)) {r : Int32} {S' : St} (hA : zans K = (some (.int r), S')) {x1 : Int32} {x2 : Int32} {k e : Int32 × Int32 → St → Option (Int32 × St)} (hk : ∀ (v : Int32 × Int32) (S : St), k v S = some (r, S') → J K 29 [(0, .ref 122), (1, .int x1), (2, .int v.1), (3, .int v.2)] [] S) (he : ∀ (v : Int32 × Int32) (S : St), e v S = some (r, S') → J K 60 [(0, .ref 122), (1, .int x1), (2, .int v.1)] [] S) {S : St} (hf : f_X11_passages_55 x1 x2 k e S = some (r, S')) : J K 55 [(0, .ref 122), (1, .int x1), (2, .int x2)] [] S := by
  unfold f_X11_passages_55 at hf
  refine j_iconst hK (0 : Int32) dX11_passages_55 ic_0 ?_
  exact t_X11_passages_56 hK hA hk he hf
def f_X11_passages_29b (x1 : Int32) (e : Int32 × Int32 → St → Option (Int32 × St)) (k : Int32 × Int32 → St → Option (Int32 × St)) (v : Int32 × Int32) (S : St) : Option (Int32 × St) := (if v.2 = 0 then e (v.1, v.2) S else bd (f_X11_readsPassage S) (fun r22 S23 => (if r22 = 0 then f_X11_passages_55 x1 r22 k e S23 else bd (f_X11_takes (59 : Int32) S23) (fun r25 S26 => (if r25 = 0 then f_X11_passages_55 x1 r22 k e S26 else f_X11_passages_56 x1 r22 (1 : Int32) k e S26)))))
theorem t_X11_passages_29 {K : CT} (hK : KO K cX11_passages RX11 6 5 (some .int)) {r : Int32} {S' : St} (hA : zans K = (some (.int r), S')) {x1 : Int32} {e : Int32 × Int32 → St → Option (Int32 × St)} (he : ∀ (v : Int32 × Int32) (S : St), e v S = some (r, S') → J K 60 [(0, .ref 122), (1, .int x1), (2, .int v.1)] [] S) : ∀ (n : Nat) (v : Int32 × Int32) (S : St), lp (f_X11_passages_29b x1 e) n v S = some (r, S') → J K 29 [(0, .ref 122), (1, .int x1), (2, .int v.1), (3, .int v.2)] [] S :=
  lp_J (P := fun (v : Int32 × Int32) (S : St) => J K 29 [(0, .ref 122), (1, .int x1), (2, .int v.1), (3, .int v.2)] [] S) (fun k hk v S hf => by
    unfold f_X11_passages_29b at hf
    refine j_iload_n hK dX11_passages_29 3 rfl rfl ?_
    refine j_if_eq hK 60 dX11_passages_30 (by decide) (fun hc => ?_) (fun hc => ?_)
    · replace hf := if_1 hc hf
      refine j_sub [0, 1, 2] rfl ?_
      exact he _ _ hf
    · replace hf := if_2 hc hf
      refine j_aload_n hK dX11_passages_33 0 rfl rfl ?_
      obtain ⟨r22, S23, h24, hf⟩ := bd_J hf
      refine k_callVi hK (c_X11_readsPassage h24) dX11_passages_34 zclX11 zo_122 ml_X11_195 mi_X11_readsPassage mx_X11_readsPassage in_X11 mc_X11_readsPassage hy_X11_readsPassage ⟨by decide, by decide⟩ rfl (Nat.le_of_ble_eq_true rfl) ?_
      refine j_istore_n hK (L' := [(2, .int r22), (0, .ref 122), (1, .int x1), (3, .int v.2)]) dX11_passages_37 rfl (by decide) rfl ?_
      refine j_iload_n hK dX11_passages_38 0 rfl rfl ?_
      refine j_if_eq hK 55 dX11_passages_39 (by decide) (fun hc => ?_) (fun hc => ?_)
      · replace hf := if_1 hc hf
        refine j_sub [1, 2, 0] rfl ?_
        exact t_X11_passages_55 hK hA hk he hf
      · replace hf := if_2 hc hf
        refine j_aload_n hK dX11_passages_42 1 rfl rfl ?_
        refine j_bipush hK (59 : Int32) dX11_passages_43 bi_59 ?_
        obtain ⟨r25, S26, h27, hf⟩ := bd_J hf
        refine k_callVi hK (c_X11_takes h27) dX11_passages_45 zclX11 zo_122 ml_X11_198 mi_X11_takes mx_X11_takes in_X11 mc_X11_takes hy_X11_takes ⟨by decide, by decide⟩ rfl (Nat.le_of_ble_eq_true rfl) ?_
        refine j_if_eq hK 55 dX11_passages_48 (by decide) (fun hc => ?_) (fun hc => ?_)
        · replace hf := if_1 hc hf
          refine j_sub [1, 2, 0] rfl ?_
          exact t_X11_passages_55 hK hA hk he hf
        · replace hf := if_2 hc hf
          refine j_iconst hK (1 : Int32) dX11_passages_51 ic_1 ?_
          refine j_goto hK 56 dX11_passages_52 (by decide) ?_
          refine j_sub [1, 2, 0] rfl ?_
          exact t_X11_passages_56 hK hA hk he hf)
def f_X11_passages_28 (x1 : Int32) (x2 : Int32) (s0 : Int32) (S : St) : Option (Int32 × St) := lp (f_X11_passages_29b x1 (fun v28 S29 => bd (f_X11_faultOf x1 (59 : Int32) v28.1 S29) (fun r30 S31 => (if 0 ≤ r30 then lp (f_X11_passages_81b  (fun v33 S34 => (if (gI S34 122 15) ≤ 0 then f_X11_passages_232 (gI S34 122 28) S34 else f_X11_passages_232 (0 : Int32) S34))) FU (0 : Int32) S31 else some (r30, S31))))) FU (x2, s0) S
theorem t_X11_passages_28 {K : CT} (hK : KO K cX11_passages RX11 6 5 (some .int)) {r : Int32} {S' : St} (hA : zans K = (some (.int r), S')) {x1 : Int32} {x2 : Int32} {s0 : Int32} {S : St} (hf : f_X11_passages_28 x1 x2 s0 S = some (r, S')) : J K 28 [(0, .ref 122), (1, .int x1), (2, .int x2)] [.int s0] S := by
  unfold f_X11_passages_28 at hf
  refine j_istore_n hK (L' := [(3, .int s0), (0, .ref 122), (1, .int x1), (2, .int x2)]) dX11_passages_28 rfl (by decide) rfl ?_
  refine j_sub [1, 2, 3, 0] rfl ?_
  refine t_X11_passages_29 hK hA  (fun v28 S29 hf => ?_) _ _ _ hf
  refine j_aload_n hK dX11_passages_60 0 rfl rfl ?_
  refine j_iload_n hK dX11_passages_61 1 rfl rfl ?_
  refine j_bipush hK (59 : Int32) dX11_passages_62 bi_59 ?_
  refine j_iload_n hK dX11_passages_64 2 rfl rfl ?_
  obtain ⟨r30, S31, h32, hf⟩ := bd_J hf
  refine k_callVi hK (c_X11_faultOf h32) dX11_passages_65 zclX11 zo_122 ml_X11_202 mi_X11_faultOf mx_X11_faultOf in_X11 mc_X11_faultOf hy_X11_faultOf ⟨by decide, by decide⟩ rfl (Nat.le_of_ble_eq_true rfl) ?_
  refine j_istore hK (L' := [(4, .int r30), (0, .ref 122), (1, .int x1), (2, .int v28.1)]) dX11_passages_68 (by decide) rfl ?_
  refine j_iload hK dX11_passages_70 0 rfl ?_
  refine j_pc (pc' := 72) rfl ?_
  refine j_if_ge hK 78 dX11_passages_72 (by decide) (fun hc => ?_) (fun hc => ?_)
  · replace hf := if_1 hc hf
    refine j_iconst hK (0 : Int32) dX11_passages_78 ic_0 ?_
    refine j_istore hK (L' := [(5, .int (0 : Int32)), (4, .int r30), (0, .ref 122), (1, .int x1), (2, .int v28.1)]) dX11_passages_79 (by decide) rfl ?_
    refine j_sub [2, 0] rfl ?_
    refine t_X11_passages_81 hK hA  (fun v33 S34 hf => ?_) _ _ _ hf
    refine j_aload_n hK dX11_passages_216 0 rfl rfl ?_
    refine j_aload_n hK dX11_passages_217 0 rfl rfl ?_
    refine j_getI hK fl_X11_181 dX11_passages_218 zo_122 zf_11_15 ?_
    refine j_if_le hK 228 dX11_passages_221 (by decide) (fun hc => ?_) (fun hc => ?_)
    · replace hf := if_1 hc hf
      refine j_aload_n hK dX11_passages_228 0 rfl rfl ?_
      refine j_getI hK fl_X11_206 dX11_passages_229 zo_122 zf_11_28 ?_
      exact t_X11_passages_232 hK hA  hf
    · replace hf := if_2 hc hf
      refine j_iconst hK (0 : Int32) dX11_passages_224 ic_0 ?_
      refine j_goto hK 232 dX11_passages_225 (by decide) ?_
      exact t_X11_passages_232 hK hA  hf
  · replace hf := if_2 hc hf
    refine j_iload hK dX11_passages_75 0 rfl ?_
    exact j_iret hK dX11_passages_77 rfl (rt_I hA hf)
def f_X11_passages (S : St) : Option (Int32 × St) := lt (sI S 122 0 (0 : Int32)) (fun S35 => bd (f_X11_begins (59 : Int32) S35) (fun r36 S37 => lt (sI S37 122 15 (0 : Int32)) (fun S39 => (if r36 ≤ 0 then f_X11_passages_28 r36 (1 : Int32) (0 : Int32) S39 else f_X11_passages_28 r36 (1 : Int32) (1 : Int32) S39))))
theorem c_X11_passages {S : St} {r : Int32} {S' : St} (hf : f_X11_passages S = some (r, S')) : zM yX11_passages cX11_passages 6 5 (some .int) [.ref 122] S (some (.int r)) S' := by
  refine zM_of (zpl (by decide)) (Nat.le_of_ble_eq_true rfl) rfl (fun K hK hA => ?_)
  unfold f_X11_passages at hf
  refine j_aload_n hK dX11_passages_0 0 rfl rfl ?_
  refine j_iconst hK (0 : Int32) dX11_passages_1 ic_0 ?_
  refine j_putI hK fl_X11_3 dX11_passages_2 zo_122 zf_11_0 ?_
  refine lt_S hf (fun S35 hf => ?_)
  refine j_aload_n hK dX11_passages_5 0 rfl rfl ?_
  refine j_bipush hK (59 : Int32) dX11_passages_6 bi_59 ?_
  obtain ⟨r36, S37, h38, hf⟩ := bd_J hf
  refine k_callVi hK (c_X11_begins h38) dX11_passages_8 zclX11 zo_122 ml_X11_192 mi_X11_begins mx_X11_begins in_X11 mc_X11_begins hy_X11_begins ⟨by decide, by decide⟩ rfl (Nat.le_of_ble_eq_true rfl) ?_
  refine j_istore_n hK (L' := [(1, .int r36), (0, .ref 122)]) dX11_passages_11 rfl (by decide) rfl ?_
  refine j_aload_n hK dX11_passages_12 1 rfl rfl ?_
  refine j_pc (pc' := 13) rfl ?_
  refine j_iconst hK (0 : Int32) dX11_passages_13 ic_0 ?_
  refine j_putI hK fl_X11_181 dX11_passages_14 zo_122 zf_11_15 ?_
  refine lt_S hf (fun S39 hf => ?_)
  refine j_iconst hK (1 : Int32) dX11_passages_17 ic_1 ?_
  refine j_istore_n hK (L' := [(2, .int (1 : Int32)), (1, .int r36), (0, .ref 122)]) dX11_passages_18 rfl (by decide) rfl ?_
  refine j_iload_n hK dX11_passages_19 1 rfl rfl ?_
  refine j_if_le hK 27 dX11_passages_20 (by decide) (fun hc => ?_) (fun hc => ?_)
  · replace hf := if_1 hc hf
    refine j_iconst hK (0 : Int32) dX11_passages_27 ic_0 ?_
    refine j_sub [2, 1, 0] rfl ?_
    exact t_X11_passages_28 hK hA  hf
  · replace hf := if_2 hc hf
    refine j_iconst hK (1 : Int32) dX11_passages_23 ic_1 ?_
    refine j_goto hK 28 dX11_passages_24 (by decide) ?_
    refine j_sub [2, 1, 0] rfl ?_
    exact t_X11_passages_28 hK hA  hf
