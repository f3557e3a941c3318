def f_X6_hold (o : Nat) (p1 : Int32) (S : St) : Option (Unit × St) := (if (40 : Int32) ≤ (gI S o 3) then some ((), S) else if inb (gI S o 3) 40 then lt (sI S (o + 2) (gI S o 3).toNatClampNeg (vp_nar .char p1)) (fun S2 => lt (sI S2 o 3 ((gI S2 o 3) + (1 : Int32))) (fun S3 => some ((), S3))) else none)
theorem c_X6_hold {o : Nat} (ho : isRule o) {p1 : Int32} {S : St} {r : Unit} {S' : St} (hf : f_X6_hold o p1 S = some (r, S')) : zM yX6_hold cX6_hold 2 1 none [.ref o, .int p1] S (none) S' := by
  refine zM_of (zpl (by decide)) (Nat.le_of_ble_eq_true rfl) rfl (fun K hK hA => ?_)
  unfold f_X6_hold at hf
  refine j_aload_n hK dX6_hold_0 0 rfl rfl ?_
  refine j_getI hK fl_X6_23 dX6_hold_1 (ru_o ho) zf_6_3 ?_
  refine j_bipush hK (40 : Int32) dX6_hold_4 bi_40 ?_
  refine j_icmp_ge hK 29 dX6_hold_6 (by decide) (fun hc => ?_) (fun hc => ?_)
  · replace hf := if_1 hc hf
    exact j_vret hK dX6_hold_29 rfl (rt_V hA hf)
  · replace hf := if_2 hc hf
    refine j_aload_n hK dX6_hold_9 0 rfl rfl ?_
    refine j_getR hK fl_X6_19 dX6_hold_10 (ru_o ho) zf_6_2 (ru_r2 ho) ?_
    refine j_aload_n hK dX6_hold_13 0 rfl rfl ?_
    refine j_getI hK fl_X6_23 dX6_hold_14 (ru_o ho) zf_6_3 ?_
    refine j_iload_n hK dX6_hold_17 1 rfl rfl ?_
    obtain ⟨hi1, hf⟩ := gd hf
    refine k_cast hK dX6_hold_18 (ru_b2 ho) hi1 rfl ?_
    refine lt_S hf (fun S2 hf => ?_)
    refine j_aload_n hK dX6_hold_19 0 rfl rfl ?_
    refine j_pc (pc' := 20) rfl ?_
    refine j_dup hK dX6_hold_20 rfl ?_
    refine j_getI hK fl_X6_23 dX6_hold_21 (ru_o ho) zf_6_3 ?_
    refine j_iconst hK (1 : Int32) dX6_hold_24 ic_1 ?_
    refine j_iadd hK dX6_hold_25 ?_
    refine j_putI hK fl_X6_23 dX6_hold_26 (ru_o ho) zf_6_3 ?_
    refine lt_S hf (fun S3 hf => ?_)
    exact j_vret hK dX6_hold_29 rfl (rt_V hA hf)
def f_X6_emit (o : Nat) (p1 : Int32) (S : St) : Option (Unit × St) := (if (40 : Int32) ≤ (gI S o 1) then some ((), S) else if inb (gI S o 1) 40 then lt (sI S (o + 1) (gI S o 1).toNatClampNeg p1) (fun S2 => lt (sI S2 o 1 ((gI S2 o 1) + (1 : Int32))) (fun S3 => some ((), S3))) else none)
theorem c_X6_emit {o : Nat} (ho : isRule o) {p1 : Int32} {S : St} {r : Unit} {S' : St} (hf : f_X6_emit o p1 S = some (r, S')) : zM yX6_emit cX6_emit 2 1 none [.ref o, .int p1] S (none) S' := by
  refine zM_of (zpl (by decide)) (Nat.le_of_ble_eq_true rfl) rfl (fun K hK hA => ?_)
  unfold f_X6_emit at hf
  refine j_aload_n hK dX6_emit_0 0 rfl rfl ?_
  refine j_getI hK fl_X6_15 dX6_emit_1 (ru_o ho) zf_6_1 ?_
  refine j_bipush hK (40 : Int32) dX6_emit_4 bi_40 ?_
  refine j_icmp_ge hK 29 dX6_emit_6 (by decide) (fun hc => ?_) (fun hc => ?_)
  · replace hf := if_1 hc hf
    exact j_vret hK dX6_emit_29 rfl (rt_V hA hf)
  · replace hf := if_2 hc hf
    refine j_aload_n hK dX6_emit_9 0 rfl rfl ?_
    refine j_getR hK fl_X6_11 dX6_emit_10 (ru_o ho) zf_6_0 (ru_r0 ho) ?_
    refine j_aload_n hK dX6_emit_13 0 rfl rfl ?_
    refine j_getI hK fl_X6_15 dX6_emit_14 (ru_o ho) zf_6_1 ?_
    refine j_iload_n hK dX6_emit_17 1 rfl rfl ?_
    obtain ⟨hi1, hf⟩ := gd hf
    refine k_iast hK dX6_emit_18 (ru_b1 ho) hi1 rfl ?_
    refine lt_S hf (fun S2 hf => ?_)
    refine j_aload_n hK dX6_emit_19 0 rfl rfl ?_
    refine j_pc (pc' := 20) rfl ?_
    refine j_dup hK dX6_emit_20 rfl ?_
    refine j_getI hK fl_X6_15 dX6_emit_21 (ru_o ho) zf_6_1 ?_
    refine j_iconst hK (1 : Int32) dX6_emit_24 ic_1 ?_
    refine j_iadd hK dX6_emit_25 ?_
    refine j_putI hK fl_X6_15 dX6_emit_26 (ru_o ho) zf_6_1 ?_
    refine lt_S hf (fun S3 hf => ?_)
    exact j_vret hK dX6_emit_29 rfl (rt_V hA hf)
def f_X6_takesDigit (o : Nat) (p1 : Int32) (S : St) : Option (Int32 × St) := (if (gI S o 6) = 0 then some ((0 : Int32), S) else (if (gI S o 6) = (3 : Int32) then some ((0 : Int32), S) else (if (gI S o 1) = 0 then some ((0 : Int32), S) else if inb ((gI S o 1) - (1 : Int32)) 40 then lt ((10 : Int32) * (gI S (o + 1) ((gI S o 1) - (1 : Int32)).toNatClampNeg)) (fun y2 => if inb ((gI S o 1) - (1 : Int32)) 40 then lt (sI S (o + 1) ((gI S o 1) - (1 : Int32)).toNatClampNeg (y2 + p1)) (fun S4 => lt (sI S4 o 6 ((gI S4 o 6) + (1 : Int32))) (fun S5 => some ((1 : Int32), S5))) else none) else none)))
theorem c_X6_takesDigit {o : Nat} (ho : isRule o) {p1 : Int32} {S : St} {r : Int32} {S' : St} (hf : f_X6_takesDigit o p1 S = some (r, S')) : zM yX6_takesDigit cX6_takesDigit 2 1 (some .boolean) [.ref o, .int p1] S (some (.int r)) S' := by
  refine zM_of (zpl (by decide)) (Nat.le_of_ble_eq_true rfl) rfl (fun K hK hA => ?_)
  unfold f_X6_takesDigit at hf
  refine j_aload_n hK dX6_takesDigit_0 0 rfl rfl ?_
  refine j_getI hK fl_X6_32 dX6_takesDigit_1 (ru_o ho) zf_6_6 ?_
  refine j_if_eq hK 22 dX6_takesDigit_4 (by decide) (fun hc => ?_) (fun hc => ?_)
  · replace hf := if_1 hc hf
    refine j_iconst hK (0 : Int32) dX6_takesDigit_22 ic_0 ?_
    exact j_zret hK dX6_takesDigit_23 rfl rfl (rt_I hA hf)
  · replace hf := if_2 hc hf
    refine j_aload_n hK dX6_takesDigit_7 0 rfl rfl ?_
    refine j_getI hK fl_X6_32 dX6_takesDigit_8 (ru_o ho) zf_6_6 ?_
    refine j_iconst hK (3 : Int32) dX6_takesDigit_11 ic_3 ?_
    refine j_icmp_eq hK 22 dX6_takesDigit_12 (by decide) (fun hc => ?_) (fun hc => ?_)
    · replace hf := if_1 hc hf
      refine j_iconst hK (0 : Int32) dX6_takesDigit_22 ic_0 ?_
      exact j_zret hK dX6_takesDigit_23 rfl rfl (rt_I hA hf)
    · replace hf := if_2 hc hf
      refine j_aload_n hK dX6_takesDigit_15 0 rfl rfl ?_
      refine j_getI hK fl_X6_15 dX6_takesDigit_16 (ru_o ho) zf_6_1 ?_
      refine j_if_ne hK 24 dX6_takesDigit_19 (by decide) (fun hc => ?_) (fun hc => ?_)
      · replace hf := if_2 hc hf
        refine j_aload_n hK dX6_takesDigit_24 0 rfl rfl ?_
        refine j_getR hK fl_X6_11 dX6_takesDigit_25 (ru_o ho) zf_6_0 (ru_r0 ho) ?_
        refine j_aload_n hK dX6_takesDigit_28 0 rfl rfl ?_
        refine j_getI hK fl_X6_15 dX6_takesDigit_29 (ru_o ho) zf_6_1 ?_
        refine j_iconst hK (1 : Int32) dX6_takesDigit_32 ic_1 ?_
        refine j_isub hK dX6_takesDigit_33 ?_
        refine j_bipush hK (10 : Int32) dX6_takesDigit_34 bi_10 ?_
        refine j_pc (pc' := 36) rfl ?_
        refine j_aload_n hK dX6_takesDigit_36 0 rfl rfl ?_
        refine j_getR hK fl_X6_11 dX6_takesDigit_37 (ru_o ho) zf_6_0 (ru_r0 ho) ?_
        refine j_aload_n hK dX6_takesDigit_40 0 rfl rfl ?_
        refine j_getI hK fl_X6_15 dX6_takesDigit_41 (ru_o ho) zf_6_1 ?_
        refine j_iconst hK (1 : Int32) dX6_takesDigit_44 ic_1 ?_
        refine j_isub hK dX6_takesDigit_45 ?_
        obtain ⟨hi1, hf⟩ := gd hf
        refine k_iald hK dX6_takesDigit_46 (ru_b1 ho) hi1 rfl ?_
        refine j_imul hK dX6_takesDigit_47 ?_
        refine lt_I hf (fun y2 hf => ?_)
        refine j_pc (pc' := 48) rfl ?_
        refine j_iload_n hK dX6_takesDigit_48 1 rfl rfl ?_
        refine j_iadd hK dX6_takesDigit_49 ?_
        obtain ⟨hi3, hf⟩ := gd hf
        refine k_iast hK dX6_takesDigit_50 (ru_b1 ho) hi3 rfl ?_
        refine lt_S hf (fun S4 hf => ?_)
        refine j_aload_n hK dX6_takesDigit_51 0 rfl rfl ?_
        refine j_dup hK dX6_takesDigit_52 rfl ?_
        refine j_getI hK fl_X6_32 dX6_takesDigit_53 (ru_o ho) zf_6_6 ?_
        refine j_iconst hK (1 : Int32) dX6_takesDigit_56 ic_1 ?_
        refine j_iadd hK dX6_takesDigit_57 ?_
        refine j_pc (pc' := 58) rfl ?_
        refine j_putI hK fl_X6_32 dX6_takesDigit_58 (ru_o ho) zf_6_6 ?_
        refine lt_S hf (fun S5 hf => ?_)
        refine j_iconst hK (1 : Int32) dX6_takesDigit_61 ic_1 ?_
        exact j_zret hK dX6_takesDigit_62 rfl rfl (rt_I hA hf)
      · replace hf := if_1 hc hf
        refine j_iconst hK (0 : Int32) dX6_takesDigit_22 ic_0 ?_
        exact j_zret hK dX6_takesDigit_23 rfl rfl (rt_I hA hf)
def f_X6_bindingOf (p0 : Int32) (S : St) : Option (Int32 × St) := (if p0 = (42 : Int32) then some ((3 : Int32), S) else (if p0 = (43 : Int32) then some ((2 : Int32), S) else (if p0 = (44 : Int32) then some ((0 : Int32), S) else (if p0 = (45 : Int32) then some ((2 : Int32), S) else (if p0 = (46 : Int32) then some ((0 : Int32), S) else (if p0 = (47 : Int32) then some ((3 : Int32), S) else (if p0 = (48 : Int32) then some ((0 : Int32), S) else (if p0 = (49 : Int32) then some ((0 : Int32), S) else (if p0 = (50 : Int32) then some ((0 : Int32), S) else (if p0 = (51 : Int32) then some ((0 : Int32), S) else (if p0 = (52 : Int32) then some ((0 : Int32), S) else (if p0 = (53 : Int32) then some ((0 : Int32), S) else (if p0 = (54 : Int32) then some ((0 : Int32), S) else (if p0 = (55 : Int32) then some ((0 : Int32), S) else (if p0 = (56 : Int32) then some ((0 : Int32), S) else (if p0 = (57 : Int32) then some ((0 : Int32), S) else (if p0 = (58 : Int32) then some ((0 : Int32), S) else (if p0 = (59 : Int32) then some ((0 : Int32), S) else (if p0 = (60 : Int32) then some ((1 : Int32), S) else (if p0 = (61 : Int32) then some ((1 : Int32), S) else (if p0 = (62 : Int32) then some ((1 : Int32), S) else some ((0 : Int32), S))))))))))))))))))))))
theorem c_X6_bindingOf {p0 : Int32} {S : St} {r : Int32} {S' : St} (hf : f_X6_bindingOf p0 S = some (r, S')) : zM yX6_bindingOf cX6_bindingOf 1 1 (some .int) [.int p0] S (some (.int r)) S' := by
  refine zM_of (zpl (by decide)) (Nat.le_of_ble_eq_true rfl) rfl (fun K hK hA => ?_)
  unfold f_X6_bindingOf at hf
  refine j_iload_n hK dX6_bindingOf_0 0 rfl rfl ?_
  by_cases hs1 : p0 = (42 : Int32)
  · replace hf := if_1 hs1 hf
    refine j_tabC hK (42 : Int32) 104 dX6_bindingOf_1 hs1 (by decide) rfl (by decide) ?_
    refine j_iconst hK (3 : Int32) dX6_bindingOf_104 ic_3 ?_
    exact j_iret hK dX6_bindingOf_105 rfl (rt_I hA hf)
  · replace hf := if_2 hs1 hf
    by_cases hs2 : p0 = (43 : Int32)
    · replace hf := if_1 hs2 hf
      refine j_tabC hK (43 : Int32) 102 dX6_bindingOf_1 hs2 (by decide) rfl (by decide) ?_
      refine j_iconst hK (2 : Int32) dX6_bindingOf_102 ic_2 ?_
      exact j_iret hK dX6_bindingOf_103 rfl (rt_I hA hf)
    · replace hf := if_2 hs2 hf
      by_cases hs3 : p0 = (44 : Int32)
      · replace hf := if_1 hs3 hf
        refine j_tabC hK (44 : Int32) 106 dX6_bindingOf_1 hs3 (by decide) rfl (by decide) ?_
        refine j_iconst hK (0 : Int32) dX6_bindingOf_106 ic_0 ?_
        exact j_iret hK dX6_bindingOf_107 rfl (rt_I hA hf)
      · replace hf := if_2 hs3 hf
        by_cases hs4 : p0 = (45 : Int32)
        · replace hf := if_1 hs4 hf
          refine j_tabC hK (45 : Int32) 102 dX6_bindingOf_1 hs4 (by decide) rfl (by decide) ?_
          refine j_iconst hK (2 : Int32) dX6_bindingOf_102 ic_2 ?_
          exact j_iret hK dX6_bindingOf_103 rfl (rt_I hA hf)
        · replace hf := if_2 hs4 hf
          by_cases hs5 : p0 = (46 : Int32)
          · replace hf := if_1 hs5 hf
            refine j_tabC hK (46 : Int32) 106 dX6_bindingOf_1 hs5 (by decide) rfl (by decide) ?_
            refine j_iconst hK (0 : Int32) dX6_bindingOf_106 ic_0 ?_
            exact j_iret hK dX6_bindingOf_107 rfl (rt_I hA hf)
          · replace hf := if_2 hs5 hf
            by_cases hs6 : p0 = (47 : Int32)
            · replace hf := if_1 hs6 hf
              refine j_tabC hK (47 : Int32) 104 dX6_bindingOf_1 hs6 (by decide) rfl (by decide) ?_
              refine j_iconst hK (3 : Int32) dX6_bindingOf_104 ic_3 ?_
              exact j_iret hK dX6_bindingOf_105 rfl (rt_I hA hf)
            · replace hf := if_2 hs6 hf
              by_cases hs7 : p0 = (48 : Int32)
              · replace hf := if_1 hs7 hf
                refine j_tabC hK (48 : Int32) 106 dX6_bindingOf_1 hs7 (by decide) rfl (by decide) ?_
                refine j_iconst hK (0 : Int32) dX6_bindingOf_106 ic_0 ?_
                exact j_iret hK dX6_bindingOf_107 rfl (rt_I hA hf)
              · replace hf := if_2 hs7 hf
                by_cases hs8 : p0 = (49 : Int32)
                · replace hf := if_1 hs8 hf
                  refine j_tabC hK (49 : Int32) 106 dX6_bindingOf_1 hs8 (by decide) rfl (by decide) ?_
                  refine j_iconst hK (0 : Int32) dX6_bindingOf_106 ic_0 ?_
                  exact j_iret hK dX6_bindingOf_107 rfl (rt_I hA hf)
                · replace hf := if_2 hs8 hf
                  by_cases hs9 : p0 = (50 : Int32)
                  · replace hf := if_1 hs9 hf
                    refine j_tabC hK (50 : Int32) 106 dX6_bindingOf_1 hs9 (by decide) rfl (by decide) ?_
                    refine j_iconst hK (0 : Int32) dX6_bindingOf_106 ic_0 ?_
                    exact j_iret hK dX6_bindingOf_107 rfl (rt_I hA hf)
                  · replace hf := if_2 hs9 hf
                    by_cases hs10 : p0 = (51 : Int32)
                    · replace hf := if_1 hs10 hf
                      refine j_tabC hK (51 : Int32) 106 dX6_bindingOf_1 hs10 (by decide) rfl (by decide) ?_
                      refine j_iconst hK (0 : Int32) dX6_bindingOf_106 ic_0 ?_
                      exact j_iret hK dX6_bindingOf_107 rfl (rt_I hA hf)
                    · replace hf := if_2 hs10 hf
                      by_cases hs11 : p0 = (52 : Int32)
                      · replace hf := if_1 hs11 hf
                        refine j_tabC hK (52 : Int32) 106 dX6_bindingOf_1 hs11 (by decide) rfl (by decide) ?_
                        refine j_iconst hK (0 : Int32) dX6_bindingOf_106 ic_0 ?_
                        exact j_iret hK dX6_bindingOf_107 rfl (rt_I hA hf)
                      · replace hf := if_2 hs11 hf
                        by_cases hs12 : p0 = (53 : Int32)
                        · replace hf := if_1 hs12 hf
                          refine j_tabC hK (53 : Int32) 106 dX6_bindingOf_1 hs12 (by decide) rfl (by decide) ?_
                          refine j_iconst hK (0 : Int32) dX6_bindingOf_106 ic_0 ?_
                          exact j_iret hK dX6_bindingOf_107 rfl (rt_I hA hf)
                        · replace hf := if_2 hs12 hf
                          by_cases hs13 : p0 = (54 : Int32)
                          · replace hf := if_1 hs13 hf
                            refine j_tabC hK (54 : Int32) 106 dX6_bindingOf_1 hs13 (by decide) rfl (by decide) ?_
                            refine j_iconst hK (0 : Int32) dX6_bindingOf_106 ic_0 ?_
                            exact j_iret hK dX6_bindingOf_107 rfl (rt_I hA hf)
                          · replace hf := if_2 hs13 hf
                            by_cases hs14 : p0 = (55 : Int32)
                            · replace hf := if_1 hs14 hf
                              refine j_tabC hK (55 : Int32) 106 dX6_bindingOf_1 hs14 (by decide) rfl (by decide) ?_
                              refine j_iconst hK (0 : Int32) dX6_bindingOf_106 ic_0 ?_
                              exact j_iret hK dX6_bindingOf_107 rfl (rt_I hA hf)
                            · replace hf := if_2 hs14 hf
                              by_cases hs15 : p0 = (56 : Int32)
                              · replace hf := if_1 hs15 hf
                                refine j_tabC hK (56 : Int32) 106 dX6_bindingOf_1 hs15 (by decide) rfl (by decide) ?_
                                refine j_iconst hK (0 : Int32) dX6_bindingOf_106 ic_0 ?_
                                exact j_iret hK dX6_bindingOf_107 rfl (rt_I hA hf)
                              · replace hf := if_2 hs15 hf
                                by_cases hs16 : p0 = (57 : Int32)
                                · replace hf := if_1 hs16 hf
                                  refine j_tabC hK (57 : Int32) 106 dX6_bindingOf_1 hs16 (by decide) rfl (by decide) ?_
                                  refine j_iconst hK (0 : Int32) dX6_bindingOf_106 ic_0 ?_
                                  exact j_iret hK dX6_bindingOf_107 rfl (rt_I hA hf)
                                · replace hf := if_2 hs16 hf
                                  by_cases hs17 : p0 = (58 : Int32)
                                  · replace hf := if_1 hs17 hf
                                    refine j_tabC hK (58 : Int32) 106 dX6_bindingOf_1 hs17 (by decide) rfl (by decide) ?_
                                    refine j_iconst hK (0 : Int32) dX6_bindingOf_106 ic_0 ?_
                                    exact j_iret hK dX6_bindingOf_107 rfl (rt_I hA hf)
                                  · replace hf := if_2 hs17 hf
                                    by_cases hs18 : p0 = (59 : Int32)
                                    · replace hf := if_1 hs18 hf
                                      refine j_tabC hK (59 : Int32) 106 dX6_bindingOf_1 hs18 (by decide) rfl (by decide) ?_
                                      refine j_iconst hK (0 : Int32) dX6_bindingOf_106 ic_0 ?_
                                      exact j_iret hK dX6_bindingOf_107 rfl (rt_I hA hf)
                                    · replace hf := if_2 hs18 hf
                                      by_cases hs19 : p0 = (60 : Int32)
                                      · replace hf := if_1 hs19 hf
                                        refine j_tabC hK (60 : Int32) 100 dX6_bindingOf_1 hs19 (by decide) rfl (by decide) ?_
                                        refine j_iconst hK (1 : Int32) dX6_bindingOf_100 ic_1 ?_
                                        exact j_iret hK dX6_bindingOf_101 rfl (rt_I hA hf)
                                      · replace hf := if_2 hs19 hf
                                        by_cases hs20 : p0 = (61 : Int32)
                                        · replace hf := if_1 hs20 hf
                                          refine j_tabC hK (61 : Int32) 100 dX6_bindingOf_1 hs20 (by decide) rfl (by decide) ?_
                                          refine j_iconst hK (1 : Int32) dX6_bindingOf_100 ic_1 ?_
                                          exact j_iret hK dX6_bindingOf_101 rfl (rt_I hA hf)
                                        · replace hf := if_2 hs20 hf
                                          by_cases hs21 : p0 = (62 : Int32)
                                          · replace hf := if_1 hs21 hf
                                            refine j_tabC hK (62 : Int32) 100 dX6_bindingOf_1 hs21 (by decide) rfl (by decide) ?_
                                            refine j_iconst hK (1 : Int32) dX6_bindingOf_100 ic_1 ?_
                                            exact j_iret hK dX6_bindingOf_101 rfl (rt_I hA hf)
                                          · replace hf := if_2 hs21 hf
                                            refine j_tabOut hK 106 dX6_bindingOf_1 (by have q := And.intro (ne_toInt 42 (by decide) hs1) (And.intro (ne_toInt 43 (by decide) hs2) (And.intro (ne_toInt 44 (by decide) hs3) (And.intro (ne_toInt 45 (by decide) hs4) (And.intro (ne_toInt 46 (by decide) hs5) (And.intro (ne_toInt 47 (by decide) hs6) (And.intro (ne_toInt 48 (by decide) hs7) (And.intro (ne_toInt 49 (by decide) hs8) (And.intro (ne_toInt 50 (by decide) hs9) (And.intro (ne_toInt 51 (by decide) hs10) (And.intro (ne_toInt 52 (by decide) hs11) (And.intro (ne_toInt 53 (by decide) hs12) (And.intro (ne_toInt 54 (by decide) hs13) (And.intro (ne_toInt 55 (by decide) hs14) (And.intro (ne_toInt 56 (by decide) hs15) (And.intro (ne_toInt 57 (by decide) hs16) (And.intro (ne_toInt 58 (by decide) hs17) (And.intro (ne_toInt 59 (by decide) hs18) (And.intro (ne_toInt 60 (by decide) hs19) (And.intro (ne_toInt 61 (by decide) hs20) (And.intro (ne_toInt 62 (by decide) hs21) trivial)))))))))))))))))))); omega) (by decide) ?_
                                            refine j_iconst hK (0 : Int32) dX6_bindingOf_106 ic_0 ?_
                                            exact j_iret hK dX6_bindingOf_107 rfl (rt_I hA hf)
def f_X6_bindsAtLeast_20 (S : St) : Option (Int32 × St) := some ((1 : Int32), S)
theorem t_X6_bindsAtLeast_20 {K : CT} (hK : KO K cX6_bindsAtLeast RX6 2 2 (some .boolean)) {r : Int32} {S' : St} (hA : zans K = (some (.int r), S')) {S : St} (hf : f_X6_bindsAtLeast_20  S = some (r, S')) : J K 20 [] [] S := by
  unfold f_X6_bindsAtLeast_20 at hf
  refine j_iconst hK (1 : Int32) dX6_bindsAtLeast_20 ic_1 ?_
  refine j_goto hK 25 dX6_bindsAtLeast_21 (by decide) ?_
  exact j_zret hK dX6_bindsAtLeast_25 rfl rfl (rt_I hA hf)
def f_X6_bindsAtLeast (p0 : Int32) (p1 : Int32) (S : St) : Option (Int32 × St) := (if p0 = (126 : Int32) then f_X6_bindsAtLeast_20  S else (if p0 = (40 : Int32) then some ((0 : Int32), S) else bd (f_X6_bindingOf p0 S) (fun r1 S2 => (if r1 < p1 then some ((0 : Int32), S2) else f_X6_bindsAtLeast_20  S2))))
theorem c_X6_bindsAtLeast {p0 : Int32} {p1 : Int32} {S : St} {r : Int32} {S' : St} (hf : f_X6_bindsAtLeast p0 p1 S = some (r, S')) : zM yX6_bindsAtLeast cX6_bindsAtLeast 2 2 (some .boolean) [.int p0, .int p1] S (some (.int r)) S' := by
  refine zM_of (zpl (by decide)) (Nat.le_of_ble_eq_true rfl) rfl (fun K hK hA => ?_)
  unfold f_X6_bindsAtLeast at hf
  refine j_iload_n hK dX6_bindsAtLeast_0 0 rfl rfl ?_
  refine j_bipush hK (126 : Int32) dX6_bindsAtLeast_1 bi_126 ?_
  refine j_icmp_eq hK 20 dX6_bindsAtLeast_3 (by decide) (fun hc => ?_) (fun hc => ?_)
  · replace hf := if_1 hc hf
    refine j_sub [] rfl ?_
    exact t_X6_bindsAtLeast_20 hK hA  hf
  · replace hf := if_2 hc hf
    refine j_iload_n hK dX6_bindsAtLeast_6 0 rfl rfl ?_
    refine j_bipush hK (40 : Int32) dX6_bindsAtLeast_7 bi_40 ?_
    refine j_icmp_eq hK 24 dX6_bindsAtLeast_9 (by decide) (fun hc => ?_) (fun hc => ?_)
    · replace hf := if_1 hc hf
      refine j_iconst hK (0 : Int32) dX6_bindsAtLeast_24 ic_0 ?_
      exact j_zret hK dX6_bindsAtLeast_25 rfl rfl (rt_I hA hf)
    · replace hf := if_2 hc hf
      refine j_iload_n hK dX6_bindsAtLeast_12 0 rfl rfl ?_
      obtain ⟨r1, S2, h3, hf⟩ := bd_J hf
      refine k_callSi hK (c_X6_bindingOf h3) dX6_bindsAtLeast_13 ml_X6_93 ms_X6_bindingOf in_X6 mc_X6_bindingOf hy_X6_bindingOf ⟨by decide, by decide⟩ rfl (Nat.le_of_ble_eq_true rfl) ?_
      refine j_iload_n hK dX6_bindsAtLeast_16 1 rfl rfl ?_
      refine j_icmp_lt hK 24 dX6_bindsAtLeast_17 (by decide) (fun hc => ?_) (fun hc => ?_)
      · replace hf := if_1 hc hf
        refine j_iconst hK (0 : Int32) dX6_bindsAtLeast_24 ic_0 ?_
        exact j_zret hK dX6_bindsAtLeast_25 rfl rfl (rt_I hA hf)
      · replace hf := if_2 hc hf
        refine j_sub [] rfl ?_
        exact t_X6_bindsAtLeast_20 hK hA  hf
def f_X6_release_0b (o : Nat) (x1 : Int32) (e : Unit → St → Option (Unit × St)) (k : Unit → St → Option (Unit × St)) (v : Unit) (S : St) : Option (Unit × St) := (if (gI S o 3) ≤ 0 then e () S else if inb ((gI S o 3) - (1 : Int32)) 40 then bd (f_X6_bindsAtLeast (gI S (o + 2) ((gI S o 3) - (1 : Int32)).toNatClampNeg) x1 S) (fun r2 S3 => (if r2 = 0 then e () S3 else lt (sI S3 o 3 ((gI S3 o 3) - (1 : Int32))) (fun S5 => if inb (gI S5 o 3) 40 then bd (f_X6_emit o ((2000 : Int32) + (gI S5 (o + 2) (gI S5 o 3).toNatClampNeg)) S5) (fun r7 S8 => k () S8) else none))) else none)
theorem t_X6_release_0 {K : CT} (hK : KO K cX6_release RX6 2 3 none) {r : Unit} {S' : St} (hA : zans K = (none, S')) {o : Nat} (ho : isRule o) {x1 : Int32} {e : Unit → St → Option (Unit × St)} (he : ∀ (v : Unit) (S : St), e v S = some (r, S') → J K 55 [] [] S) : ∀ (n : Nat) (v : Unit) (S : St), lp (f_X6_release_0b o x1 e) n v S = some (r, S') → J K 0 [(0, .ref o), (1, .int x1)] [] S :=
  lp_J (P := fun (v : Unit) (S : St) => J K 0 [(0, .ref o), (1, .int x1)] [] S) (fun k hk v S hf => by
    unfold f_X6_release_0b at hf
    refine j_aload_n hK dX6_release_0 0 rfl rfl ?_
    refine j_getI hK fl_X6_23 dX6_release_1 (ru_o ho) zf_6_3 ?_
    refine j_if_le hK 55 dX6_release_4 (by decide) (fun hc => ?_) (fun hc => ?_)
    · replace hf := if_1 hc hf
      refine j_sub [] rfl ?_
      exact he _ _ hf
    · replace hf := if_2 hc hf
      refine j_aload_n hK dX6_release_7 0 rfl rfl ?_
      refine j_getR hK fl_X6_19 dX6_release_8 (ru_o ho) zf_6_2 (ru_r2 ho) ?_
      refine j_aload_n hK dX6_release_11 0 rfl rfl ?_
      refine j_getI hK fl_X6_23 dX6_release_12 (ru_o ho) zf_6_3 ?_
      refine j_iconst hK (1 : Int32) dX6_release_15 ic_1 ?_
      refine j_isub hK dX6_release_16 ?_
      obtain ⟨hi1, hf⟩ := gd hf
      refine k_cald hK dX6_release_17 (ru_b2 ho) hi1 rfl ?_
      refine j_pc (pc' := 18) rfl ?_
      refine j_iload_n hK dX6_release_18 1 rfl rfl ?_
      obtain ⟨r2, S3, h4, hf⟩ := bd_J hf
      refine k_callSi hK (c_X6_bindsAtLeast h4) dX6_release_19 ml_X6_100 ms_X6_bindsAtLeast in_X6 mc_X6_bindsAtLeast hy_X6_bindsAtLeast ⟨by decide, by decide⟩ rfl (Nat.le_of_ble_eq_true rfl) ?_
      refine j_if_eq hK 55 dX6_release_22 (by decide) (fun hc => ?_) (fun hc => ?_)
      · replace hf := if_1 hc hf
        refine j_sub [] rfl ?_
        exact he _ _ hf
      · replace hf := if_2 hc hf
        refine j_aload_n hK dX6_release_25 0 rfl rfl ?_
        refine j_dup hK dX6_release_26 rfl ?_
        refine j_getI hK fl_X6_23 dX6_release_27 (ru_o ho) zf_6_3 ?_
        refine j_iconst hK (1 : Int32) dX6_release_30 ic_1 ?_
        refine j_isub hK dX6_release_31 ?_
        refine j_putI hK fl_X6_23 dX6_release_32 (ru_o ho) zf_6_3 ?_
        refine lt_S hf (fun S5 hf => ?_)
        refine j_aload_n hK dX6_release_35 0 rfl rfl ?_
        refine j_pc (pc' := 36) rfl ?_
        refine j_sipush hK (2000 : Int32) dX6_release_36 si_2000 ?_
        refine j_aload_n hK dX6_release_39 0 rfl rfl ?_
        refine j_getR hK fl_X6_19 dX6_release_40 (ru_o ho) zf_6_2 (ru_r2 ho) ?_
        refine j_aload_n hK dX6_release_43 0 rfl rfl ?_
        refine j_getI hK fl_X6_23 dX6_release_44 (ru_o ho) zf_6_3 ?_
        obtain ⟨hi6, hf⟩ := gd hf
        refine k_cald hK dX6_release_47 (ru_b2 ho) hi6 rfl ?_
        refine j_iadd hK dX6_release_48 ?_
        obtain ⟨r7, S8, h9, hf⟩ := bd_J hf
        refine k_callVv hK (c_X6_emit ho h9) dX6_release_49 zclX6 (ru_o ho) ml_X6_82 mi_X6_emit mx_X6_emit in_X6 mc_X6_emit hy_X6_emit ⟨by decide, by decide⟩ rfl (Nat.le_of_ble_eq_true rfl) ?_
        refine j_pc (pc' := 52) rfl ?_
        refine j_goto hK 0 dX6_release_52 (by decide) ?_
        exact hk _ _ hf)
def f_X6_release (o : Nat) (p1 : Int32) (S : St) : Option (Unit × St) := lp (f_X6_release_0b o p1 (fun v10 S11 => some ((), S11))) FU () S
theorem c_X6_release {o : Nat} (ho : isRule o) {p1 : Int32} {S : St} {r : Unit} {S' : St} (hf : f_X6_release o p1 S = some (r, S')) : zM yX6_release cX6_release 2 3 none [.ref o, .int p1] S (none) S' := by
  refine zM_of (zpl (by decide)) (Nat.le_of_ble_eq_true rfl) rfl (fun K hK hA => ?_)
  unfold f_X6_release at hf
  refine t_X6_release_0 hK hA ho (fun v10 S11 hf => ?_) _ _ _ hf
  exact j_vret hK dX6_release_55 rfl (rt_V hA hf)
def f_X6_closes (o : Nat) (S : St) : Option (Int32 × St) := (if (gI S o 4) = 0 then some ((0 : Int32), S) else bd (f_X6_release o (1 : Int32) S) (fun r1 S2 => lt (sI S2 o 3 (mxI (0 : Int32) ((gI S2 o 3) - (1 : Int32)))) (fun S4 => lt (sI S4 o 4 ((gI S4 o 4) - (1 : Int32))) (fun S5 => some ((1 : Int32), S5)))))
theorem c_X6_closes {o : Nat} (ho : isRule o) {S : St} {r : Int32} {S' : St} (hf : f_X6_closes o S = some (r, S')) : zM yX6_closes cX6_closes 1 4 (some .boolean) [.ref o] S (some (.int r)) S' := by
  refine zM_of (zpl (by decide)) (Nat.le_of_ble_eq_true rfl) rfl (fun K hK hA => ?_)
  unfold f_X6_closes at hf
  refine j_aload_n hK dX6_closes_0 0 rfl rfl ?_
  refine j_getI hK fl_X6_26 dX6_closes_1 (ru_o ho) zf_6_4 ?_
  refine j_if_ne hK 9 dX6_closes_4 (by decide) (fun hc => ?_) (fun hc => ?_)
  · replace hf := if_2 hc hf
    refine j_aload_n hK dX6_closes_9 0 rfl rfl ?_
    refine j_iconst hK (1 : Int32) dX6_closes_10 ic_1 ?_
    obtain ⟨r1, S2, h3, hf⟩ := bd_J hf
    refine k_callVv hK (c_X6_release ho h3) dX6_closes_11 zclX6 (ru_o ho) ml_X6_66 mi_X6_release mx_X6_release in_X6 mc_X6_release hy_X6_release ⟨by decide, by decide⟩ rfl (Nat.le_of_ble_eq_true rfl) ?_
    refine j_aload_n hK dX6_closes_14 0 rfl rfl ?_
    refine j_iconst hK (0 : Int32) dX6_closes_15 ic_0 ?_
    refine j_aload_n hK dX6_closes_16 0 rfl rfl ?_
    refine j_getI hK fl_X6_23 dX6_closes_17 (ru_o ho) zf_6_3 ?_
    refine j_pc (pc' := 20) rfl ?_
    refine j_iconst hK (1 : Int32) dX6_closes_20 ic_1 ?_
    refine j_isub hK dX6_closes_21 ?_
    refine j_max hK ml_X6_97 dX6_closes_22 (by decide) (Nat.le_of_ble_eq_true rfl) ?_
    refine j_putI hK fl_X6_23 dX6_closes_25 (ru_o ho) zf_6_3 ?_
    refine lt_S hf (fun S4 hf => ?_)
    refine j_aload_n hK dX6_closes_28 0 rfl rfl ?_
    refine j_dup hK dX6_closes_29 rfl ?_
    refine j_getI hK fl_X6_26 dX6_closes_30 (ru_o ho) zf_6_4 ?_
    refine j_iconst hK (1 : Int32) dX6_closes_33 ic_1 ?_
    refine j_pc (pc' := 34) rfl ?_
    refine j_isub hK dX6_closes_34 ?_
    refine j_putI hK fl_X6_26 dX6_closes_35 (ru_o ho) zf_6_4 ?_
    refine lt_S hf (fun S5 hf => ?_)
    refine j_iconst hK (1 : Int32) dX6_closes_38 ic_1 ?_
    exact j_zret hK dX6_closes_39 rfl rfl (rt_I hA hf)
  · replace hf := if_1 hc hf
    refine j_iconst hK (0 : Int32) dX6_closes_7 ic_0 ?_
    exact j_zret hK dX6_closes_8 rfl rfl (rt_I hA hf)
def f_X6_takesBehindThing_97 (o : Nat) (x1 : Int32) (x2 : Int32) (S : St) : Option (Int32 × St) := bd (f_X6_release o x2 S) (fun r1 S2 => bd (f_X6_hold o x1 S2) (fun r4 S5 => lt (sI S5 o 7 (1 : Int32)) (fun S7 => some ((1 : Int32), S7))))
theorem t_X6_takesBehindThing_97 {K : CT} (hK : KO K cX6_takesBehindThing RX6 4 5 (some .boolean)) {r : Int32} {S' : St} (hA : zans K = (some (.int r), S')) {o : Nat} (ho : isRule o) {x1 : Int32} {x2 : Int32} {S : St} (hf : f_X6_takesBehindThing_97 o x1 x2 S = some (r, S')) : J K 97 [(0, .ref o), (1, .int x1), (2, .int x2)] [] S := by
  unfold f_X6_takesBehindThing_97 at hf
  refine j_aload_n hK dX6_takesBehindThing_97 0 rfl rfl ?_
  refine j_iload_n hK dX6_takesBehindThing_98 2 rfl rfl ?_
  obtain ⟨r1, S2, h3, hf⟩ := bd_J hf
  refine k_callVv hK (c_X6_release ho h3) dX6_takesBehindThing_99 zclX6 (ru_o ho) ml_X6_66 mi_X6_release mx_X6_release in_X6 mc_X6_release hy_X6_release ⟨by decide, by decide⟩ rfl (Nat.le_of_ble_eq_true rfl) ?_
  refine j_aload_n hK dX6_takesBehindThing_102 0 rfl rfl ?_
  refine j_iload_n hK dX6_takesBehindThing_103 1 rfl rfl ?_
  obtain ⟨r4, S5, h6, hf⟩ := bd_J hf
  refine k_callVv hK (c_X6_hold ho h6) dX6_takesBehindThing_104 zclX6 (ru_o ho) ml_X6_70 mi_X6_hold mx_X6_hold in_X6 mc_X6_hold hy_X6_hold ⟨by decide, by decide⟩ rfl (Nat.le_of_ble_eq_true rfl) ?_
  refine j_aload_n hK dX6_takesBehindThing_107 0 rfl rfl ?_
  refine j_iconst hK (1 : Int32) dX6_takesBehindThing_108 ic_1 ?_
  refine j_pc (pc' := 109) rfl ?_
  refine j_putZ hK fl_X6_35 dX6_takesBehindThing_109 (ru_o ho) zf_6_7 (Or.inr rfl) ?_
  refine lt_S hf (fun S7 hf => ?_)
  refine j_iconst hK (1 : Int32) dX6_takesBehindThing_112 ic_1 ?_
  exact j_zret hK dX6_takesBehindThing_113 rfl rfl (rt_I hA hf)
def f_X6_takesBehindThing_78 (o : Nat) (x1 : Int32) (x2 : Int32) (x3 : Int32) (S : St) : Option (Int32 × St) := (if x3 = 0 then f_X6_takesBehindThing_97 o x1 x2 S else lt (sI S o 5 ((gI S o 5) ||| ((1 : Int32) <<< ((gI S o 4) &&& 31)))) (fun S8 => f_X6_takesBehindThing_97 o x1 x2 S8))
theorem t_X6_takesBehindThing_78 {K : CT} (hK : KO K cX6_takesBehindThing RX6 4 5 (some .boolean)) {r : Int32} {S' : St} (hA : zans K = (some (.int r), S')) {o : Nat} (ho : isRule o) {x1 : Int32} {x2 : Int32} {x3 : Int32} {S : St} (hf : f_X6_takesBehindThing_78 o x1 x2 x3 S = some (r, S')) : J K 78 [(0, .ref o), (1, .int x1), (2, .int x2), (3, .int x3)] [] S := by
  unfold f_X6_takesBehindThing_78 at hf
  refine j_iload_n hK dX6_takesBehindThing_78 3 rfl rfl ?_
  refine j_if_eq hK 97 dX6_takesBehindThing_79 (by decide) (fun hc => ?_) (fun hc => ?_)
  · replace hf := if_1 hc hf
    refine j_sub [0, 1, 2] rfl ?_
    exact t_X6_takesBehindThing_97 hK hA ho hf
  · replace hf := if_2 hc hf
    refine j_aload_n hK dX6_takesBehindThing_82 0 rfl rfl ?_
    refine j_dup hK dX6_takesBehindThing_83 rfl ?_
    refine j_getI hK fl_X6_29 dX6_takesBehindThing_84 (ru_o ho) zf_6_5 ?_
    refine j_iconst hK (1 : Int32) dX6_takesBehindThing_87 ic_1 ?_
    refine j_aload_n hK dX6_takesBehindThing_88 0 rfl rfl ?_
    refine j_getI hK fl_X6_26 dX6_takesBehindThing_89 (ru_o ho) zf_6_4 ?_
    refine j_ishl hK dX6_takesBehindThing_92 ?_
    refine j_pc (pc' := 93) rfl ?_
    refine j_ior hK dX6_takesBehindThing_93 ?_
    refine j_putI hK fl_X6_29 dX6_takesBehindThing_94 (ru_o ho) zf_6_5 ?_
    refine lt_S hf (fun S8 hf => ?_)
    refine j_sub [0, 1, 2] rfl ?_
    exact t_X6_takesBehindThing_97 hK hA ho hf
def f_X6_takesBehindThing_52 (o : Nat) (x1 : Int32) (x2 : Int32) (s0 : Int32) (S : St) : Option (Int32 × St) := (if x2 = 0 then some ((0 : Int32), S) else (if s0 = 0 then f_X6_takesBehindThing_78 o x1 x2 s0 S else (if (((gI S o 5) >>> ((gI S o 4) &&& 31)) &&& (1 : Int32)) = (1 : Int32) then some ((0 : Int32), S) else f_X6_takesBehindThing_78 o x1 x2 s0 S)))
theorem t_X6_takesBehindThing_52 {K : CT} (hK : KO K cX6_takesBehindThing RX6 4 5 (some .boolean)) {r : Int32} {S' : St} (hA : zans K = (some (.int r), S')) {o : Nat} (ho : isRule o) {x1 : Int32} {x2 : Int32} {s0 : Int32} {S : St} (hf : f_X6_takesBehindThing_52 o x1 x2 s0 S = some (r, S')) : J K 52 [(0, .ref o), (1, .int x1), (2, .int x2)] [.int s0] S := by
  unfold f_X6_takesBehindThing_52 at hf
  refine j_istore_n hK (L' := [(3, .int s0), (0, .ref o), (1, .int x1), (2, .int x2)]) dX6_takesBehindThing_52 rfl (by decide) rfl ?_
  refine j_iload_n hK dX6_takesBehindThing_53 3 rfl rfl ?_
  refine j_if_eq hK 76 dX6_takesBehindThing_54 (by decide) (fun hc => ?_) (fun hc => ?_)
  · replace hf := if_1 hc hf
    refine j_iconst hK (0 : Int32) dX6_takesBehindThing_76 ic_0 ?_
    exact j_zret hK dX6_takesBehindThing_77 rfl rfl (rt_I hA hf)
  · replace hf := if_2 hc hf
    refine j_iload_n hK dX6_takesBehindThing_57 0 rfl rfl ?_
    refine j_if_eq hK 78 dX6_takesBehindThing_58 (by decide) (fun hc => ?_) (fun hc => ?_)
    · replace hf := if_1 hc hf
      refine j_sub [1, 2, 3, 0] rfl ?_
      exact t_X6_takesBehindThing_78 hK hA ho hf
    · replace hf := if_2 hc hf
      refine j_aload_n hK dX6_takesBehindThing_61 1 rfl rfl ?_
      refine j_getI hK fl_X6_29 dX6_takesBehindThing_62 (ru_o ho) zf_6_5 ?_
      refine j_aload_n hK dX6_takesBehindThing_65 1 rfl rfl ?_
      refine j_getI hK fl_X6_26 dX6_takesBehindThing_66 (ru_o ho) zf_6_4 ?_
      refine j_ishr hK dX6_takesBehindThing_69 ?_
      refine j_iconst hK (1 : Int32) dX6_takesBehindThing_70 ic_1 ?_
      refine j_iand hK dX6_takesBehindThing_71 ?_
      refine j_pc (pc' := 72) rfl ?_
      refine j_iconst hK (1 : Int32) dX6_takesBehindThing_72 ic_1 ?_
      refine j_icmp_ne hK 78 dX6_takesBehindThing_73 (by decide) (fun hc => ?_) (fun hc => ?_)
      · replace hf := if_2 hc hf
        refine j_sub [1, 2, 3, 0] rfl ?_
        exact t_X6_takesBehindThing_78 hK hA ho hf
      · replace hf := if_1 hc hf
        refine j_iconst hK (0 : Int32) dX6_takesBehindThing_76 ic_0 ?_
        exact j_zret hK dX6_takesBehindThing_77 rfl rfl (rt_I hA hf)
def f_X6_takesBehindThing_21 (o : Nat) (x1 : Int32) (S : St) : Option (Int32 × St) := lt (sI S o 6 (0 : Int32)) (fun S9 => (if x1 = (41 : Int32) then bd (f_X6_closes o S9) (fun r13 S14 => if r13 = 0 ∨ r13 = 1 then some (r13, S14) else none) else bd (f_X6_bindingOf x1 S9) (fun r10 S11 => (if r10 = (1 : Int32) then f_X6_takesBehindThing_52 o x1 r10 (1 : Int32) S11 else f_X6_takesBehindThing_52 o x1 r10 (0 : Int32) S11))))
theorem t_X6_takesBehindThing_21 {K : CT} (hK : KO K cX6_takesBehindThing RX6 4 5 (some .boolean)) {r : Int32} {S' : St} (hA : zans K = (some (.int r), S')) {o : Nat} (ho : isRule o) {x1 : Int32} {S : St} (hf : f_X6_takesBehindThing_21 o x1 S = some (r, S')) : J K 21 [(0, .ref o), (1, .int x1)] [] S := by
  unfold f_X6_takesBehindThing_21 at hf
  refine j_aload_n hK dX6_takesBehindThing_21 0 rfl rfl ?_
  refine j_iconst hK (0 : Int32) dX6_takesBehindThing_22 ic_0 ?_
  refine j_putI hK fl_X6_32 dX6_takesBehindThing_23 (ru_o ho) zf_6_6 ?_
  refine lt_S hf (fun S9 hf => ?_)
  refine j_iload_n hK dX6_takesBehindThing_26 1 rfl rfl ?_
  refine j_bipush hK (41 : Int32) dX6_takesBehindThing_27 bi_41 ?_
  refine j_icmp_ne hK 37 dX6_takesBehindThing_29 (by decide) (fun hc => ?_) (fun hc => ?_)
  · replace hf := if_2 hc hf
    refine j_iload_n hK dX6_takesBehindThing_37 1 rfl rfl ?_
    obtain ⟨r10, S11, h12, hf⟩ := bd_J hf
    refine k_callSi hK (c_X6_bindingOf h12) dX6_takesBehindThing_38 ml_X6_93 ms_X6_bindingOf in_X6 mc_X6_bindingOf hy_X6_bindingOf ⟨by decide, by decide⟩ rfl (Nat.le_of_ble_eq_true rfl) ?_
    refine j_istore_n hK (L' := [(2, .int r10), (0, .ref o), (1, .int x1)]) dX6_takesBehindThing_41 rfl (by decide) rfl ?_
    refine j_iload_n hK dX6_takesBehindThing_42 0 rfl rfl ?_
    refine j_iconst hK (1 : Int32) dX6_takesBehindThing_43 ic_1 ?_
    refine j_icmp_ne hK 51 dX6_takesBehindThing_44 (by decide) (fun hc => ?_) (fun hc => ?_)
    · replace hf := if_2 hc hf
      refine j_iconst hK (0 : Int32) dX6_takesBehindThing_51 ic_0 ?_
      refine j_sub [1, 2, 0] rfl ?_
      exact t_X6_takesBehindThing_52 hK hA ho hf
    · replace hf := if_1 hc hf
      refine j_iconst hK (1 : Int32) dX6_takesBehindThing_47 ic_1 ?_
      refine j_goto hK 52 dX6_takesBehindThing_48 (by decide) ?_
      refine j_sub [1, 2, 0] rfl ?_
      exact t_X6_takesBehindThing_52 hK hA ho hf
  · replace hf := if_1 hc hf
    refine j_aload_n hK dX6_takesBehindThing_32 0 rfl rfl ?_
    obtain ⟨r13, S14, h15, hf⟩ := bd_J hf
    refine k_callVi hK (c_X6_closes ho h15) dX6_takesBehindThing_33 zclX6 (ru_o ho) ml_X6_89 mi_X6_closes mx_X6_closes in_X6 mc_X6_closes hy_X6_closes ⟨by decide, by decide⟩ rfl (Nat.le_of_ble_eq_true rfl) ?_
    obtain ⟨hz, hf⟩ := gd hf
    exact j_zret hK dX6_takesBehindThing_36 rfl (nz hz) (rt_I hA hf)
def f_X6_takesBehindThing (o : Nat) (p1 : Int32) (S : St) : Option (Int32 × St) := (if p1 < (48 : Int32) then f_X6_takesBehindThing_21 o p1 S else (if (57 : Int32) < p1 then f_X6_takesBehindThing_21 o p1 S else bd (f_X6_takesDigit o (p1 - (48 : Int32)) S) (fun r16 S17 => if r16 = 0 ∨ r16 = 1 then some (r16, S17) else none)))
theorem c_X6_takesBehindThing {o : Nat} (ho : isRule o) {p1 : Int32} {S : St} {r : Int32} {S' : St} (hf : f_X6_takesBehindThing o p1 S = some (r, S')) : zM yX6_takesBehindThing cX6_takesBehindThing 4 5 (some .boolean) [.ref o, .int p1] S (some (.int r)) S' := by
  refine zM_of (zpl (by decide)) (Nat.le_of_ble_eq_true rfl) rfl (fun K hK hA => ?_)
  unfold f_X6_takesBehindThing at hf
  refine j_iload_n hK dX6_takesBehindThing_0 1 rfl rfl ?_
  refine j_bipush hK (48 : Int32) dX6_takesBehindThing_1 bi_48 ?_
  refine j_icmp_lt hK 21 dX6_takesBehindThing_3 (by decide) (fun hc => ?_) (fun hc => ?_)
  · replace hf := if_1 hc hf
    exact t_X6_takesBehindThing_21 hK hA ho hf
  · replace hf := if_2 hc hf
    refine j_iload_n hK dX6_takesBehindThing_6 1 rfl rfl ?_
    refine j_bipush hK (57 : Int32) dX6_takesBehindThing_7 bi_57 ?_
    refine j_icmp_gt hK 21 dX6_takesBehindThing_9 (by decide) (fun hc => ?_) (fun hc => ?_)
    · replace hf := if_1 hc hf
      exact t_X6_takesBehindThing_21 hK hA ho hf
    · replace hf := if_2 hc hf
      refine j_aload_n hK dX6_takesBehindThing_12 0 rfl rfl ?_
      refine j_iload_n hK dX6_takesBehindThing_13 1 rfl rfl ?_
      refine j_bipush hK (48 : Int32) dX6_takesBehindThing_14 bi_48 ?_
      refine j_isub hK dX6_takesBehindThing_16 ?_
      obtain ⟨r16, S17, h18, hf⟩ := bd_J hf
      refine k_callVi hK (c_X6_takesDigit ho h18) dX6_takesBehindThing_17 zclX6 (ru_o ho) ml_X6_85 mi_X6_takesDigit mx_X6_takesDigit in_X6 mc_X6_takesDigit hy_X6_takesDigit ⟨by decide, by decide⟩ rfl (Nat.le_of_ble_eq_true rfl) ?_
      obtain ⟨hz, hf⟩ := gd hf
      exact j_zret hK dX6_takesBehindThing_20 rfl (nz hz) (rt_I hA hf)
def f_X6_joined (p0 : Int32) (p1 : Int32) (p2 : Int32) (S : St) : Option (Int32 × St) := (if p0 = (42 : Int32) then some ((p1 * p2), S) else (if p0 = (43 : Int32) then some ((p1 + p2), S) else (if p0 = (45 : Int32) then some ((p1 - p2), S) else (if p0 = (60 : Int32) then (if p2 ≤ p1 then some ((0 : Int32), S) else some ((1 : Int32), S)) else (if p0 = (61 : Int32) then (if p1 = p2 then some ((1 : Int32), S) else some ((0 : Int32), S)) else (if p0 = (62 : Int32) then (if p1 ≤ p2 then some ((0 : Int32), S) else some ((1 : Int32), S)) else (if p2 = 0 then some ((0 : Int32), S) else if ¬ p2 = 0 then some ((p1 / p2), S) else none)))))))
theorem c_X6_joined {p0 : Int32} {p1 : Int32} {p2 : Int32} {S : St} {r : Int32} {S' : St} (hf : f_X6_joined p0 p1 p2 S = some (r, S')) : zM yX6_joined cX6_joined 3 1 (some .int) [.int p0, .int p1, .int p2] S (some (.int r)) S' := by
  refine zM_of (zpl (by decide)) (Nat.le_of_ble_eq_true rfl) rfl (fun K hK hA => ?_)
  unfold f_X6_joined at hf
  refine j_iload_n hK dX6_joined_0 0 rfl rfl ?_
  by_cases hs1 : p0 = (42 : Int32)
  · replace hf := if_1 hs1 hf
    refine j_lookC hK (42 : Int32) 101 dX6_joined_1 hs1 (by decide) (by decide) (by decide) ?_
    refine j_iload_n hK dX6_joined_101 1 rfl rfl ?_
    refine j_iload_n hK dX6_joined_102 2 rfl rfl ?_
    refine j_imul hK dX6_joined_103 ?_
    exact j_iret hK dX6_joined_104 rfl (rt_I hA hf)
  · replace hf := if_2 hs1 hf
    by_cases hs2 : p0 = (43 : Int32)
    · replace hf := if_1 hs2 hf
      refine j_lookC hK (43 : Int32) 93 dX6_joined_1 hs2 (by decide) (by decide) (by decide) ?_
      refine j_iload_n hK dX6_joined_93 1 rfl rfl ?_
      refine j_iload_n hK dX6_joined_94 2 rfl rfl ?_
      refine j_iadd hK dX6_joined_95 ?_
      exact j_iret hK dX6_joined_96 rfl (rt_I hA hf)
    · replace hf := if_2 hs2 hf
      by_cases hs3 : p0 = (45 : Int32)
      · replace hf := if_1 hs3 hf
        refine j_lookC hK (45 : Int32) 97 dX6_joined_1 hs3 (by decide) (by decide) (by decide) ?_
        refine j_iload_n hK dX6_joined_97 1 rfl rfl ?_
        refine j_iload_n hK dX6_joined_98 2 rfl rfl ?_
        refine j_isub hK dX6_joined_99 ?_
        exact j_iret hK dX6_joined_100 rfl (rt_I hA hf)
      · replace hf := if_2 hs3 hf
        by_cases hs4 : p0 = (60 : Int32)
        · replace hf := if_1 hs4 hf
          refine j_lookC hK (60 : Int32) 60 dX6_joined_1 hs4 (by decide) (by decide) (by decide) ?_
          refine j_iload_n hK dX6_joined_60 1 rfl rfl ?_
          refine j_iload_n hK dX6_joined_61 2 rfl rfl ?_
          refine j_icmp_ge hK 69 dX6_joined_62 (by decide) (fun hc => ?_) (fun hc => ?_)
          · replace hf := if_1 hc hf
            refine j_iconst hK (0 : Int32) dX6_joined_69 ic_0 ?_
            exact j_iret hK dX6_joined_70 rfl (rt_I hA hf)
          · replace hf := if_2 hc hf
            refine j_iconst hK (1 : Int32) dX6_joined_65 ic_1 ?_
            refine j_goto hK 70 dX6_joined_66 (by decide) ?_
            exact j_iret hK dX6_joined_70 rfl (rt_I hA hf)
        · replace hf := if_2 hs4 hf
          by_cases hs5 : p0 = (61 : Int32)
          · replace hf := if_1 hs5 hf
            refine j_lookC hK (61 : Int32) 82 dX6_joined_1 hs5 (by decide) (by decide) (by decide) ?_
            refine j_iload_n hK dX6_joined_82 1 rfl rfl ?_
            refine j_iload_n hK dX6_joined_83 2 rfl rfl ?_
            refine j_icmp_ne hK 91 dX6_joined_84 (by decide) (fun hc => ?_) (fun hc => ?_)
            · replace hf := if_2 hc hf
              refine j_iconst hK (0 : Int32) dX6_joined_91 ic_0 ?_
              exact j_iret hK dX6_joined_92 rfl (rt_I hA hf)
            · replace hf := if_1 hc hf
              refine j_iconst hK (1 : Int32) dX6_joined_87 ic_1 ?_
              refine j_goto hK 92 dX6_joined_88 (by decide) ?_
              exact j_iret hK dX6_joined_92 rfl (rt_I hA hf)
          · replace hf := if_2 hs5 hf
            by_cases hs6 : p0 = (62 : Int32)
            · replace hf := if_1 hs6 hf
              refine j_lookC hK (62 : Int32) 71 dX6_joined_1 hs6 (by decide) (by decide) (by decide) ?_
              refine j_iload_n hK dX6_joined_71 1 rfl rfl ?_
              refine j_iload_n hK dX6_joined_72 2 rfl rfl ?_
              refine j_icmp_le hK 80 dX6_joined_73 (by decide) (fun hc => ?_) (fun hc => ?_)
              · replace hf := if_1 hc hf
                refine j_iconst hK (0 : Int32) dX6_joined_80 ic_0 ?_
                exact j_iret hK dX6_joined_81 rfl (rt_I hA hf)
              · replace hf := if_2 hc hf
                refine j_iconst hK (1 : Int32) dX6_joined_76 ic_1 ?_
                refine j_goto hK 81 dX6_joined_77 (by decide) ?_
                exact j_iret hK dX6_joined_81 rfl (rt_I hA hf)
            · replace hf := if_2 hs6 hf
              refine j_lookD hK 105 dX6_joined_1 hs1 hs2 hs3 hs4 hs5 hs6 ?_
              refine j_iload_n hK dX6_joined_105 2 rfl rfl ?_
              refine j_if_ne hK 113 dX6_joined_106 (by decide) (fun hc => ?_) (fun hc => ?_)
              · replace hf := if_2 hc hf
                refine j_iload_n hK dX6_joined_113 1 rfl rfl ?_
                refine j_iload_n hK dX6_joined_114 2 rfl rfl ?_
                obtain ⟨hn7, hf⟩ := gd hf
                refine j_idiv hK dX6_joined_115 hn7 ?_
                exact j_iret hK dX6_joined_116 rfl (rt_I hA hf)
              · replace hf := if_1 hc hf
                refine j_iconst hK (0 : Int32) dX6_joined_109 ic_0 ?_
                refine j_goto hK 116 dX6_joined_110 (by decide) ?_
                exact j_iret hK dX6_joined_116 rfl (rt_I hA hf)
def f_X6_valueOfThings_137 (o : Nat) (x1 : Int32) (x2 : Int32) (k e : Int32 × Int32 → St → Option (Int32 × St)) (S : St) : Option (Int32 × St) := k (x1, (x2 + (1 : Int32))) S
theorem t_X6_valueOfThings_137 {K : CT} (hK : KO K cX6_valueOfThings RX6 4 2 (some .int)) {r : Int32} {S' : St} (hA : zans K = (some (.int r), S')) {o : Nat} (ho : isRule o) {x1 : Int32} {x2 : Int32} {k e : Int32 × Int32 → St → Option (Int32 × St)} (hk : ∀ (v : Int32 × Int32) (S : St), k v S = some (r, S') → J K 4 [(0, .ref o), (1, .int v.1), (2, .int v.2)] [] S) (he : ∀ (v : Int32 × Int32) (S : St), e v S = some (r, S') → J K 143 [(0, .ref o)] [] S) {S : St} (hf : f_X6_valueOfThings_137 o x1 x2 k e S = some (r, S')) : J K 137 [(0, .ref o), (1, .int x1), (2, .int x2)] [] S := by
  unfold f_X6_valueOfThings_137 at hf
  refine j_iinc hK (L' := [(2, .int (x2 + (1 : Int32))), (0, .ref o), (1, .int x1)]) dX6_valueOfThings_137 2 rfl (congrArg (fun y => x2 + y) ic_1) (by decide) rfl ?_
  refine j_goto hK 4 dX6_valueOfThings_140 (by decide) ?_
  refine j_sub [1, 2, 0] rfl ?_
  exact hk _ _ hf
def f_X6_valueOfThings_99 (o : Nat) (x1 : Int32) (x2 : Int32) (x3 : Int32) (k e : Int32 × Int32 → St → Option (Int32 × St)) (S : St) : Option (Int32 × St) := (if x1 ≤ (1 : Int32) then f_X6_valueOfThings_137 o x1 x2 k e S else if inb ((x1 + (-1 : Int32)) - (1 : Int32)) 40 then if inb (x1 + (-1 : Int32)) 40 then bd (f_X6_joined (x3 - (2000 : Int32)) (gI S (o + 4) ((x1 + (-1 : Int32)) - (1 : Int32)).toNatClampNeg) (gI S (o + 4) (x1 + (-1 : Int32)).toNatClampNeg) S) (fun r3 S4 => if inb ((x1 + (-1 : Int32)) - (1 : Int32)) 40 then lt (sI S4 (o + 4) ((x1 + (-1 : Int32)) - (1 : Int32)).toNatClampNeg r3) (fun S7 => f_X6_valueOfThings_137 o (x1 + (-1 : Int32)) x2 k e S7) else none) else none else none)
theorem t_X6_valueOfThings_99 {K : CT} (hK : KO K cX6_valueOfThings RX6 4 2 (some .int)) {r : Int32} {S' : St} (hA : zans K = (some (.int r), S')) {o : Nat} (ho : isRule o) {x1 : Int32} {x2 : Int32} {x3 : Int32} {k e : Int32 × Int32 → St → Option (Int32 × St)} (hk : ∀ (v : Int32 × Int32) (S : St), k v S = some (r, S') → J K 4 [(0, .ref o), (1, .int v.1), (2, .int v.2)] [] S) (he : ∀ (v : Int32 × Int32) (S : St), e v S = some (r, S') → J K 143 [(0, .ref o)] [] S) {S : St} (hf : f_X6_valueOfThings_99 o x1 x2 x3 k e S = some (r, S')) : J K 99 [(0, .ref o), (1, .int x1), (2, .int x2), (3, .int x3)] [] S := by
  unfold f_X6_valueOfThings_99 at hf
  refine j_iload_n hK dX6_valueOfThings_99 1 rfl rfl ?_
  refine j_iconst hK (1 : Int32) dX6_valueOfThings_100 ic_1 ?_
  refine j_icmp_le hK 137 dX6_valueOfThings_101 (by decide) (fun hc => ?_) (fun hc => ?_)
  · replace hf := if_1 hc hf
    refine j_sub [0, 1, 2] rfl ?_
    exact t_X6_valueOfThings_137 hK hA ho hk he hf
  · replace hf := if_2 hc hf
    refine j_iinc hK (L' := [(1, .int (x1 + (-1 : Int32))), (0, .ref o), (2, .int x2), (3, .int x3)]) dX6_valueOfThings_104 1 rfl (congrArg (fun y => x1 + y) ic_m1) (by decide) rfl ?_
    refine j_aload_n hK dX6_valueOfThings_107 1 rfl rfl ?_
    refine j_getR hK fl_X6_42 dX6_valueOfThings_108 (ru_o ho) zf_6_9 (ru_r9 ho) ?_
    refine j_iload_n hK dX6_valueOfThings_111 0 rfl rfl ?_
    refine j_iconst hK (1 : Int32) dX6_valueOfThings_112 ic_1 ?_
    refine j_isub hK dX6_valueOfThings_113 ?_
    refine j_iload_n hK dX6_valueOfThings_114 3 rfl rfl ?_
    refine j_pc (pc' := 115) rfl ?_
    refine j_sipush hK (2000 : Int32) dX6_valueOfThings_115 si_2000 ?_
    refine j_isub hK dX6_valueOfThings_118 ?_
    refine j_aload_n hK dX6_valueOfThings_119 1 rfl rfl ?_
    refine j_getR hK fl_X6_42 dX6_valueOfThings_120 (ru_o ho) zf_6_9 (ru_r9 ho) ?_
    refine j_iload_n hK dX6_valueOfThings_123 0 rfl rfl ?_
    refine j_iconst hK (1 : Int32) dX6_valueOfThings_124 ic_1 ?_
    refine j_isub hK dX6_valueOfThings_125 ?_
    obtain ⟨hi1, hf⟩ := gd hf
    refine k_iald hK dX6_valueOfThings_126 (ru_b4 ho) hi1 rfl ?_
    refine j_pc (pc' := 127) rfl ?_
    refine j_aload_n hK dX6_valueOfThings_127 1 rfl rfl ?_
    refine j_getR hK fl_X6_42 dX6_valueOfThings_128 (ru_o ho) zf_6_9 (ru_r9 ho) ?_
    refine j_iload_n hK dX6_valueOfThings_131 0 rfl rfl ?_
    obtain ⟨hi2, hf⟩ := gd hf
    refine k_iald hK dX6_valueOfThings_132 (ru_b4 ho) hi2 rfl ?_
    obtain ⟨r3, S4, h5, hf⟩ := bd_J hf
    refine k_callSi hK (c_X6_joined h5) dX6_valueOfThings_133 ml_X6_122 ms_X6_joined in_X6 mc_X6_joined hy_X6_joined ⟨by decide, by decide⟩ rfl (Nat.le_of_ble_eq_true rfl) ?_
    obtain ⟨hi6, hf⟩ := gd hf
    refine k_iast hK dX6_valueOfThings_136 (ru_b4 ho) hi6 rfl ?_
    refine lt_S hf (fun S7 hf => ?_)
    refine j_sub [1, 0, 2] rfl ?_
    exact t_X6_valueOfThings_137 hK hA ho hk he hf
def f_X6_valueOfThings_4b (o : Nat) (e : Int32 × Int32 → St → Option (Int32 × St)) (k : Int32 × Int32 → St → Option (Int32 × St)) (v : Int32 × Int32) (S : St) : Option (Int32 × St) := (if (gI S o 1) ≤ v.2 then e (v.1, v.2) S else if inb v.2 40 then lt (gI S (o + 1) v.2.toNatClampNeg) (fun y9 => (if (1000 : Int32) ≤ y9 then (if (2000 : Int32) ≤ y9 then (if y9 = (2126 : Int32) then (if v.1 ≤ 0 then f_X6_valueOfThings_99 o v.1 v.2 y9 k e S else if inb (v.1 - (1 : Int32)) 40 then if inb (v.1 - (1 : Int32)) 40 then lt (sI S (o + 4) (v.1 - (1 : Int32)).toNatClampNeg (-(gI S (o + 4) (v.1 - (1 : Int32)).toNatClampNeg))) (fun S12 => f_X6_valueOfThings_137 o v.1 v.2 k e S12) else none else none) else f_X6_valueOfThings_99 o v.1 v.2 y9 k e S) else if inb (y9 - (1000 : Int32)) 7 then if inb v.1 40 then lt (sI S (o + 4) v.1.toNatClampNeg (gI S (o + 3) (y9 - (1000 : Int32)).toNatClampNeg)) (fun S15 => f_X6_valueOfThings_137 o (v.1 + (1 : Int32)) v.2 k e S15) else none else none) else if inb v.1 40 then lt (sI S (o + 4) v.1.toNatClampNeg y9) (fun S17 => f_X6_valueOfThings_137 o (v.1 + (1 : Int32)) v.2 k e S17) else none)) else none)
theorem t_X6_valueOfThings_4 {K : CT} (hK : KO K cX6_valueOfThings RX6 4 2 (some .int)) {r : Int32} {S' : St} (hA : zans K = (some (.int r), S')) {o : Nat} (ho : isRule o) {e : Int32 × Int32 → St → Option (Int32 × St)} (he : ∀ (v : Int32 × Int32) (S : St), e v S = some (r, S') → J K 143 [(0, .ref o)] [] S) : ∀ (n : Nat) (v : Int32 × Int32) (S : St), lp (f_X6_valueOfThings_4b o e) n v S = some (r, S') → J K 4 [(0, .ref o), (1, .int v.1), (2, .int v.2)] [] S :=
  lp_J (P := fun (v : Int32 × Int32) (S : St) => J K 4 [(0, .ref o), (1, .int v.1), (2, .int v.2)] [] S) (fun k hk v S hf => by
    unfold f_X6_valueOfThings_4b at hf
    refine j_iload_n hK dX6_valueOfThings_4 2 rfl rfl ?_
    refine j_aload_n hK dX6_valueOfThings_5 0 rfl rfl ?_
    refine j_getI hK fl_X6_15 dX6_valueOfThings_6 (ru_o ho) zf_6_1 ?_
    refine j_icmp_ge hK 143 dX6_valueOfThings_9 (by decide) (fun hc => ?_) (fun hc => ?_)
    · replace hf := if_1 hc hf
      refine j_sub [0] rfl ?_
      exact he _ _ hf
    · replace hf := if_2 hc hf
      refine j_aload_n hK dX6_valueOfThings_12 0 rfl rfl ?_
      refine j_getR hK fl_X6_11 dX6_valueOfThings_13 (ru_o ho) zf_6_0 (ru_r0 ho) ?_
      refine j_iload_n hK dX6_valueOfThings_16 2 rfl rfl ?_
      obtain ⟨hi8, hf⟩ := gd hf
      refine k_iald hK dX6_valueOfThings_17 (ru_b1 ho) hi8 rfl ?_
      refine lt_I hf (fun y9 hf => ?_)
      refine j_istore_n hK (L' := [(3, .int y9), (0, .ref o), (1, .int v.1), (2, .int v.2)]) dX6_valueOfThings_18 rfl (by decide) rfl ?_
      refine j_iload_n hK dX6_valueOfThings_19 0 rfl rfl ?_
      refine j_sipush hK (1000 : Int32) dX6_valueOfThings_20 si_1000 ?_
      refine j_pc (pc' := 23) rfl ?_
      refine j_icmp_ge hK 39 dX6_valueOfThings_23 (by decide) (fun hc => ?_) (fun hc => ?_)
      · replace hf := if_1 hc hf
        refine j_iload_n hK dX6_valueOfThings_39 0 rfl rfl ?_
        refine j_sipush hK (2000 : Int32) dX6_valueOfThings_40 si_2000 ?_
        refine j_icmp_ge hK 68 dX6_valueOfThings_43 (by decide) (fun hc => ?_) (fun hc => ?_)
        · replace hf := if_1 hc hf
          refine j_iload_n hK dX6_valueOfThings_68 0 rfl rfl ?_
          refine j_sipush hK (2126 : Int32) dX6_valueOfThings_69 si_2126 ?_
          refine j_icmp_ne hK 99 dX6_valueOfThings_72 (by decide) (fun hc => ?_) (fun hc => ?_)
          · replace hf := if_2 hc hf
            refine j_sub [1, 2, 3, 0] rfl ?_
            exact t_X6_valueOfThings_99 hK hA ho hk he hf
          · replace hf := if_1 hc hf
            refine j_iload_n hK dX6_valueOfThings_75 2 rfl rfl ?_
            refine j_if_le hK 99 dX6_valueOfThings_76 (by decide) (fun hc => ?_) (fun hc => ?_)
            · replace hf := if_1 hc hf
              refine j_sub [1, 2, 3, 0] rfl ?_
              exact t_X6_valueOfThings_99 hK hA ho hk he hf
            · replace hf := if_2 hc hf
              refine j_aload_n hK dX6_valueOfThings_79 1 rfl rfl ?_
              refine j_getR hK fl_X6_42 dX6_valueOfThings_80 (ru_o ho) zf_6_9 (ru_r9 ho) ?_
              refine j_iload_n hK dX6_valueOfThings_83 2 rfl rfl ?_
              refine j_iconst hK (1 : Int32) dX6_valueOfThings_84 ic_1 ?_
              refine j_isub hK dX6_valueOfThings_85 ?_
              refine j_aload_n hK dX6_valueOfThings_86 1 rfl rfl ?_
              refine j_getR hK fl_X6_42 dX6_valueOfThings_87 (ru_o ho) zf_6_9 (ru_r9 ho) ?_
              refine j_pc (pc' := 90) rfl ?_
              refine j_iload_n hK dX6_valueOfThings_90 2 rfl rfl ?_
              refine j_iconst hK (1 : Int32) dX6_valueOfThings_91 ic_1 ?_
              refine j_isub hK dX6_valueOfThings_92 ?_
              obtain ⟨hi10, hf⟩ := gd hf
              refine k_iald hK dX6_valueOfThings_93 (ru_b4 ho) hi10 rfl ?_
              refine j_ineg hK dX6_valueOfThings_94 ?_
              obtain ⟨hi11, hf⟩ := gd hf
              refine k_iast hK dX6_valueOfThings_95 (ru_b4 ho) hi11 rfl ?_
              refine lt_S hf (fun S12 hf => ?_)
              refine j_goto hK 137 dX6_valueOfThings_96 (by decide) ?_
              refine j_sub [1, 2, 3] rfl ?_
              exact t_X6_valueOfThings_137 hK hA ho hk he hf
        · replace hf := if_2 hc hf
          refine j_aload_n hK dX6_valueOfThings_46 1 rfl rfl ?_
          refine j_getR hK fl_X6_42 dX6_valueOfThings_47 (ru_o ho) zf_6_9 (ru_r9 ho) ?_
          refine j_iload_n hK dX6_valueOfThings_50 2 rfl rfl ?_
          refine j_aload_n hK dX6_valueOfThings_51 1 rfl rfl ?_
          refine j_getR hK fl_X6_39 dX6_valueOfThings_52 (ru_o ho) zf_6_8 (ru_r8 ho) ?_
          refine j_iload_n hK dX6_valueOfThings_55 0 rfl rfl ?_
          refine j_sipush hK (1000 : Int32) dX6_valueOfThings_56 si_1000 ?_
          refine j_pc (pc' := 59) rfl ?_
          refine j_isub hK dX6_valueOfThings_59 ?_
          obtain ⟨hi13, hf⟩ := gd hf
          refine k_iald hK dX6_valueOfThings_60 (ru_b3 ho) hi13 rfl ?_
          obtain ⟨hi14, hf⟩ := gd hf
          refine k_iast hK dX6_valueOfThings_61 (ru_b4 ho) hi14 rfl ?_
          refine lt_S hf (fun S15 hf => ?_)
          refine j_iinc hK (L' := [(1, .int (v.1 + (1 : Int32))), (3, .int y9), (0, .ref o), (2, .int v.2)]) dX6_valueOfThings_62 2 rfl (congrArg (fun y => v.1 + y) ic_1) (by decide) rfl ?_
          refine j_goto hK 137 dX6_valueOfThings_65 (by decide) ?_
          refine j_sub [2, 0, 3] rfl ?_
          exact t_X6_valueOfThings_137 hK hA ho hk he hf
      · replace hf := if_2 hc hf
        refine j_aload_n hK dX6_valueOfThings_26 1 rfl rfl ?_
        refine j_getR hK fl_X6_42 dX6_valueOfThings_27 (ru_o ho) zf_6_9 (ru_r9 ho) ?_
        refine j_iload_n hK dX6_valueOfThings_30 2 rfl rfl ?_
        refine j_iload_n hK dX6_valueOfThings_31 0 rfl rfl ?_
        obtain ⟨hi16, hf⟩ := gd hf
        refine k_iast hK dX6_valueOfThings_32 (ru_b4 ho) hi16 rfl ?_
        refine lt_S hf (fun S17 hf => ?_)
        refine j_iinc hK (L' := [(1, .int (v.1 + (1 : Int32))), (3, .int y9), (0, .ref o), (2, .int v.2)]) dX6_valueOfThings_33 2 rfl (congrArg (fun y => v.1 + y) ic_1) (by decide) rfl ?_
        refine j_goto hK 137 dX6_valueOfThings_36 (by decide) ?_
        refine j_sub [2, 0, 3] rfl ?_
        exact t_X6_valueOfThings_137 hK hA ho hk he hf)
def f_X6_valueOfThings (o : Nat) (S : St) : Option (Int32 × St) := lp (f_X6_valueOfThings_4b o (fun v18 S19 => some ((gI S19 (o + 4) 0), S19))) FU ((0 : Int32), (0 : Int32)) S
theorem c_X6_valueOfThings {o : Nat} (ho : isRule o) {S : St} {r : Int32} {S' : St} (hf : f_X6_valueOfThings o S = some (r, S')) : zM yX6_valueOfThings cX6_valueOfThings 4 2 (some .int) [.ref o] S (some (.int r)) S' := by
  refine zM_of (zpl (by decide)) (Nat.le_of_ble_eq_true rfl) rfl (fun K hK hA => ?_)
  unfold f_X6_valueOfThings at hf
  refine j_iconst hK (0 : Int32) dX6_valueOfThings_0 ic_0 ?_
  refine j_istore_n hK (L' := [(1, .int (0 : Int32)), (0, .ref o)]) dX6_valueOfThings_1 rfl (by decide) rfl ?_
  refine j_iconst hK (0 : Int32) dX6_valueOfThings_2 ic_0 ?_
  refine j_istore_n hK (L' := [(2, .int (0 : Int32)), (1, .int (0 : Int32)), (0, .ref o)]) dX6_valueOfThings_3 rfl (by decide) rfl ?_
  refine j_sub [2, 1, 0] rfl ?_
  refine t_X6_valueOfThings_4 hK hA ho (fun v18 S19 hf => ?_) _ _ _ hf
  refine j_aload_n hK dX6_valueOfThings_143 0 rfl rfl ?_
  refine j_getR hK fl_X6_42 dX6_valueOfThings_144 (ru_o ho) zf_6_9 (ru_r9 ho) ?_
  refine j_iconst hK (0 : Int32) dX6_valueOfThings_147 ic_0 ?_
  refine k_iald hK dX6_valueOfThings_148 (ru_b4 ho) (by decide) tn_0 ?_
  exact j_iret hK dX6_valueOfThings_149 rfl (rt_I hA hf)
def f_X6_changed (o : Nat) (p2 : Int32) (p3 : Int32) (p4 : Int32) (p5 : Int32) (S : St) : Option (Int32 × St) := (if (gI S o 1) = 0 then if inb p2 12 then if inb p2 12 then lt ((p5 + (gI S 8 p2.toNatClampNeg)) - ((gI S 9 p2.toNatClampNeg) / (3 : Int32))) (fun y16 => some ((y16 &&& (7 : Int32)), S)) else none else none else lt (sI S (o + 3) 0 p5) (fun S1 => if inb p2 12 then lt (sI S1 (o + 3) 1 (gI S1 8 p2.toNatClampNeg)) (fun S3 => if inb p2 12 then lt (sI S3 (o + 3) 2 (gI S3 9 p2.toNatClampNeg)) (fun S5 => if inb p2 12 then lt (sI S5 (o + 3) 3 (gI S5 7 p2.toNatClampNeg)) (fun S7 => lt (sI S7 (o + 3) 4 p4) (fun S8 => lt (sI S8 (o + 3) 5 ((gI S8 6 4) - (gI S8 6 4) / (7 : Int32) * (7 : Int32))) (fun S9 => lt (sI S9 (o + 3) 6 p3) (fun S10 => bd (f_X6_valueOfThings o S10) (fun r11 S12 => some ((r11 &&& (7 : Int32)), S12)))))) else none) else none) else none))
theorem c_X6_changed {o : Nat} (ho : isRule o) {p2 : Int32} {p3 : Int32} {p4 : Int32} {p5 : Int32} {S : St} {r : Int32} {S' : St} (hf : f_X6_changed o p2 p3 p4 p5 S = some (r, S')) : zM yX6_changed cX6_changed 6 3 (some .int) [.ref o, .ref 6, .int p2, .int p3, .int p4, .int p5] S (some (.int r)) S' := by
  refine zM_of (zpl (by decide)) (Nat.le_of_ble_eq_true rfl) rfl (fun K hK hA => ?_)
  unfold f_X6_changed at hf
  refine j_aload_n hK dX6_changed_0 0 rfl rfl ?_
  refine j_getI hK fl_X6_15 dX6_changed_1 (ru_o ho) zf_6_1 ?_
  refine j_if_ne hK 29 dX6_changed_4 (by decide) (fun hc => ?_) (fun hc => ?_)
  · replace hf := if_2 hc hf
    refine j_aload_n hK dX6_changed_29 0 rfl rfl ?_
    refine j_getR hK fl_X6_39 dX6_changed_30 (ru_o ho) zf_6_8 (ru_r8 ho) ?_
    refine j_iconst hK (0 : Int32) dX6_changed_33 ic_0 ?_
    refine j_iload hK dX6_changed_34 5 rfl ?_
    refine k_iast hK dX6_changed_36 (ru_b3 ho) (by decide) tn_0 ?_
    refine lt_S hf (fun S1 hf => ?_)
    refine j_aload_n hK dX6_changed_37 0 rfl rfl ?_
    refine j_getR hK fl_X6_39 dX6_changed_38 (ru_o ho) zf_6_8 (ru_r8 ho) ?_
    refine j_pc (pc' := 41) rfl ?_
    refine j_iconst hK (1 : Int32) dX6_changed_41 ic_1 ?_
    refine j_aload_n hK dX6_changed_42 1 rfl rfl ?_
    refine j_getR hK fl_X6_104 dX6_changed_43 zo_6 zf_7_1 zr_6_1 ?_
    refine j_iload_n hK dX6_changed_46 2 rfl rfl ?_
    obtain ⟨hi2, hf⟩ := gd hf
    refine k_iald hK dX6_changed_47 zb_8 hi2 rfl ?_
    refine k_iast hK dX6_changed_48 (ru_b3 ho) (by decide) tn_1 ?_
    refine lt_S hf (fun S3 hf => ?_)
    refine j_aload_n hK dX6_changed_49 0 rfl rfl ?_
    refine j_getR hK fl_X6_39 dX6_changed_50 (ru_o ho) zf_6_8 (ru_r8 ho) ?_
    refine j_pc (pc' := 53) rfl ?_
    refine j_iconst hK (2 : Int32) dX6_changed_53 ic_2 ?_
    refine j_aload_n hK dX6_changed_54 1 rfl rfl ?_
    refine j_getR hK fl_X6_109 dX6_changed_55 zo_6 zf_7_2 zr_6_2 ?_
    refine j_iload_n hK dX6_changed_58 2 rfl rfl ?_
    obtain ⟨hi4, hf⟩ := gd hf
    refine k_iald hK dX6_changed_59 zb_9 hi4 rfl ?_
    refine k_iast hK dX6_changed_60 (ru_b3 ho) (by decide) tn_2 ?_
    refine lt_S hf (fun S5 hf => ?_)
    refine j_aload_n hK dX6_changed_61 0 rfl rfl ?_
    refine j_getR hK fl_X6_39 dX6_changed_62 (ru_o ho) zf_6_8 (ru_r8 ho) ?_
    refine j_pc (pc' := 65) rfl ?_
    refine j_iconst hK (3 : Int32) dX6_changed_65 ic_3 ?_
    refine j_aload_n hK dX6_changed_66 1 rfl rfl ?_
    refine j_getR hK fl_X6_112 dX6_changed_67 zo_6 zf_7_0 zr_6_0 ?_
    refine j_iload_n hK dX6_changed_70 2 rfl rfl ?_
    obtain ⟨hi6, hf⟩ := gd hf
    refine k_iald hK dX6_changed_71 zb_7 hi6 rfl ?_
    refine k_iast hK dX6_changed_72 (ru_b3 ho) (by decide) tn_3 ?_
    refine lt_S hf (fun S7 hf => ?_)
    refine j_aload_n hK dX6_changed_73 0 rfl rfl ?_
    refine j_getR hK fl_X6_39 dX6_changed_74 (ru_o ho) zf_6_8 (ru_r8 ho) ?_
    refine j_pc (pc' := 77) rfl ?_
    refine j_iconst hK (4 : Int32) dX6_changed_77 ic_4 ?_
    refine j_iload hK dX6_changed_78 4 rfl ?_
    refine k_iast hK dX6_changed_80 (ru_b3 ho) (by decide) tn_4 ?_
    refine lt_S hf (fun S8 hf => ?_)
    refine j_aload_n hK dX6_changed_81 0 rfl rfl ?_
    refine j_getR hK fl_X6_39 dX6_changed_82 (ru_o ho) zf_6_8 (ru_r8 ho) ?_
    refine j_iconst hK (5 : Int32) dX6_changed_85 ic_5 ?_
    refine j_aload_n hK dX6_changed_86 1 rfl rfl ?_
    refine j_getI hK fl_X6_115 dX6_changed_87 zo_6 zf_7_4 ?_
    refine j_pc (pc' := 90) rfl ?_
    refine j_bipush hK (7 : Int32) dX6_changed_90 bi_7 ?_
    refine j_irem hK dX6_changed_92 (by decide) ?_
    refine k_iast hK dX6_changed_93 (ru_b3 ho) (by decide) tn_5 ?_
    refine lt_S hf (fun S9 hf => ?_)
    refine j_aload_n hK dX6_changed_94 0 rfl rfl ?_
    refine j_getR hK fl_X6_39 dX6_changed_95 (ru_o ho) zf_6_8 (ru_r8 ho) ?_
    refine j_bipush hK (6 : Int32) dX6_changed_98 bi_6 ?_
    refine j_iload_n hK dX6_changed_100 3 rfl rfl ?_
    refine k_iast hK dX6_changed_101 (ru_b3 ho) (by decide) tn_6 ?_
    refine lt_S hf (fun S10 hf => ?_)
    refine j_pc (pc' := 102) rfl ?_
    refine j_aload_n hK dX6_changed_102 0 rfl rfl ?_
    obtain ⟨r11, S12, h13, hf⟩ := bd_J hf
    refine k_callVi hK (c_X6_valueOfThings ho h13) dX6_changed_103 zclX6 (ru_o ho) ml_X6_118 mi_X6_valueOfThings mx_X6_valueOfThings in_X6 mc_X6_valueOfThings hy_X6_valueOfThings ⟨by decide, by decide⟩ rfl (Nat.le_of_ble_eq_true rfl) ?_
    refine j_bipush hK (7 : Int32) dX6_changed_106 bi_7 ?_
    refine j_iand hK dX6_changed_108 ?_
    exact j_iret hK dX6_changed_109 rfl (rt_I hA hf)
  · replace hf := if_1 hc hf
    refine j_iload hK dX6_changed_7 5 rfl ?_
    refine j_aload_n hK dX6_changed_9 1 rfl rfl ?_
    refine j_getR hK fl_X6_104 dX6_changed_10 zo_6 zf_7_1 zr_6_1 ?_
    refine j_iload_n hK dX6_changed_13 2 rfl rfl ?_
    obtain ⟨hi14, hf⟩ := gd hf
    refine k_iald hK dX6_changed_14 zb_8 hi14 rfl ?_
    refine j_iadd hK dX6_changed_15 ?_
    refine j_aload_n hK dX6_changed_16 1 rfl rfl ?_
    refine j_pc (pc' := 17) rfl ?_
    refine j_getR hK fl_X6_109 dX6_changed_17 zo_6 zf_7_2 zr_6_2 ?_
    refine j_iload_n hK dX6_changed_20 2 rfl rfl ?_
    obtain ⟨hi15, hf⟩ := gd hf
    refine k_iald hK dX6_changed_21 zb_9 hi15 rfl ?_
    refine j_iconst hK (3 : Int32) dX6_changed_22 ic_3 ?_
    refine j_idiv hK dX6_changed_23 (by decide) ?_
    refine j_isub hK dX6_changed_24 ?_
    refine lt_I hf (fun y16 hf => ?_)
    refine j_bipush hK (7 : Int32) dX6_changed_25 bi_7 ?_
    refine j_iand hK dX6_changed_27 ?_
    refine j_pc (pc' := 28) rfl ?_
    exact j_iret hK dX6_changed_28 rfl (rt_I hA hf)
