def f_X10_rests_69 (x1 : Int32) (x2 : Int32) (x3 : Int32) (x4 : Int32) (k e : Int32 × Int32 → St → Option (Int32 × St)) (S : St) : Option (Int32 × St) := k (x2, (x4 + (1 : Int32))) S
theorem t_X10_rests_69 {K : CT} (hK : KO K cX10_rests RX10 5 3 (some .int)) {r : Int32} {S' : St} (hA : zans K = (some (.int r), S')) {x1 : Int32} {x2 : Int32} {x3 : Int32} {x4 : Int32} {k e : Int32 × Int32 → St → Option (Int32 × St)} (hk : ∀ (v : Int32 × Int32) (S : St), k v S = some (r, S') → J K 32 [(0, .ref 0), (1, .int x1), (2, .int v.1), (3, .int x3), (4, .int v.2)] [] S) (he : ∀ (v : Int32 × Int32) (S : St), e v S = some (r, S') → J K 75 [(0, .ref 0), (1, .int x1), (2, .int v.1), (3, .int x3)] [] S) {S : St} (hf : f_X10_rests_69 x1 x2 x3 x4 k e S = some (r, S')) : J K 69 [(0, .ref 0), (1, .int x1), (2, .int x2), (3, .int x3), (4, .int x4)] [] S := by
  unfold f_X10_rests_69 at hf
  refine j_iinc hK (L' := [(4, .int (x4 + (1 : Int32))), (0, .ref 0), (1, .int x1), (2, .int x2), (3, .int x3)]) dX10_rests_69 4 rfl (congrArg (fun y => x4 + y) ic_1) (by decide) rfl ?_
  refine j_goto hK 32 dX10_rests_72 (by decide) ?_
  refine j_sub [1, 2, 3, 4, 0] rfl ?_
  exact hk _ _ hf
def f_X10_rests_32b (x1 : Int32) (x3 : Int32) (e : Int32 × Int32 → St → Option (Int32 × St)) (k : Int32 × Int32 → St → Option (Int32 × St)) (v : Int32 × Int32) (S : St) : Option (Int32 × St) := (if (10 : Int32) ≤ v.2 then e (v.1, v.2) S else bd (f_X10_isBestAnswer x3 v.2 x1 S) (fun r1 S2 => (if r1 = 0 then f_X10_rests_69 x1 v.1 x3 v.2 k e S2 else bd (f_X10_isBestAnswer v.2 x3 x1 S2) (fun r4 S5 => (if r4 = 0 then f_X10_rests_69 x1 v.1 x3 v.2 k e S5 else bd (f_X10_putIfFirst x3 v.2 S5) (fun r7 S8 => f_X10_rests_69 x1 (v.1 + (1 : Int32)) x3 v.2 k e S8))))))
theorem t_X10_rests_32 {K : CT} (hK : KO K cX10_rests RX10 5 3 (some .int)) {r : Int32} {S' : St} (hA : zans K = (some (.int r), S')) {x1 : Int32} {x3 : Int32} {e : Int32 × Int32 → St → Option (Int32 × St)} (he : ∀ (v : Int32 × Int32) (S : St), e v S = some (r, S') → J K 75 [(0, .ref 0), (1, .int x1), (2, .int v.1), (3, .int x3)] [] S) : ∀ (n : Nat) (v : Int32 × Int32) (S : St), lp (f_X10_rests_32b x1 x3 e) n v S = some (r, S') → J K 32 [(0, .ref 0), (1, .int x1), (2, .int v.1), (3, .int x3), (4, .int v.2)] [] S :=
  lp_J (P := fun (v : Int32 × Int32) (S : St) => J K 32 [(0, .ref 0), (1, .int x1), (2, .int v.1), (3, .int x3), (4, .int v.2)] [] S) (fun k hk v S hf => by
    unfold f_X10_rests_32b at hf
    refine j_iload hK dX10_rests_32 4 rfl ?_
    refine j_bipush hK (10 : Int32) dX10_rests_34 bi_10 ?_
    refine j_icmp_ge hK 75 dX10_rests_36 (by decide) (fun hc => ?_) (fun hc => ?_)
    · replace hf := if_1 hc hf
      refine j_sub [0, 1, 2, 3] rfl ?_
      exact he _ _ hf
    · replace hf := if_2 hc hf
      refine j_iload_n hK dX10_rests_39 3 rfl rfl ?_
      refine j_iload hK dX10_rests_40 4 rfl ?_
      refine j_iload_n hK dX10_rests_42 1 rfl rfl ?_
      obtain ⟨r1, S2, h3, hf⟩ := bd_J hf
      refine k_callSi hK (c_X10_isBestAnswer h3) dX10_rests_43 ml_X10_390 ms_X10_isBestAnswer in_X10 mc_X10_isBestAnswer hy_X10_isBestAnswer ⟨by decide, by decide⟩ rfl (Nat.le_of_ble_eq_true rfl) ?_
      refine j_if_eq hK 69 dX10_rests_46 (by decide) (fun hc => ?_) (fun hc => ?_)
      · replace hf := if_1 hc hf
        exact t_X10_rests_69 hK hA hk he hf
      · replace hf := if_2 hc hf
        refine j_iload hK dX10_rests_49 4 rfl ?_
        refine j_iload_n hK dX10_rests_51 3 rfl rfl ?_
        refine j_iload_n hK dX10_rests_52 1 rfl rfl ?_
        obtain ⟨r4, S5, h6, hf⟩ := bd_J hf
        refine k_callSi hK (c_X10_isBestAnswer h6) dX10_rests_53 ml_X10_390 ms_X10_isBestAnswer in_X10 mc_X10_isBestAnswer hy_X10_isBestAnswer ⟨by decide, by decide⟩ rfl (Nat.le_of_ble_eq_true rfl) ?_
        refine j_if_eq hK 69 dX10_rests_56 (by decide) (fun hc => ?_) (fun hc => ?_)
        · replace hf := if_1 hc hf
          exact t_X10_rests_69 hK hA hk he hf
        · replace hf := if_2 hc hf
          refine j_aload_n hK dX10_rests_59 0 rfl rfl ?_
          refine j_iload_n hK dX10_rests_60 3 rfl rfl ?_
          refine j_iload hK dX10_rests_61 4 rfl ?_
          obtain ⟨r7, S8, h9, hf⟩ := bd_J hf
          refine k_callVv hK (c_X10_putIfFirst h9) dX10_rests_63 zclX10 zo_0 ml_X10_292 mi_X10_putIfFirst mx_X10_putIfFirst in_X10 mc_X10_putIfFirst hy_X10_putIfFirst ⟨by decide, by decide⟩ rfl (Nat.le_of_ble_eq_true rfl) ?_
          refine j_iinc hK (L' := [(2, .int (v.1 + (1 : Int32))), (0, .ref 0), (1, .int x1), (3, .int x3), (4, .int v.2)]) dX10_rests_66 2 rfl (congrArg (fun y => v.1 + y) ic_1) (by decide) rfl ?_
          refine j_sub [1, 2, 0, 3, 4] rfl ?_
          exact t_X10_rests_69 hK hA hk he hf)
def f_X10_rests_23b (x1 : Int32) (e : Int32 × Int32 → St → Option (Int32 × St)) (k : Int32 × Int32 → St → Option (Int32 × St)) (v : Int32 × Int32) (S : St) : Option (Int32 × St) := (if (10 : Int32) ≤ v.2 then e (v.1, v.2) S else lp (f_X10_rests_32b x1 v.2 (fun v10 S11 => k (v10.1, (v.2 + (1 : Int32))) S11)) FU (v.1, (0 : Int32)) S)
theorem t_X10_rests_23 {K : CT} (hK : KO K cX10_rests RX10 5 3 (some .int)) {r : Int32} {S' : St} (hA : zans K = (some (.int r), S')) {x1 : Int32} {e : Int32 × Int32 → St → Option (Int32 × St)} (he : ∀ (v : Int32 × Int32) (S : St), e v S = some (r, S') → J K 81 [(2, .int v.1)] [] S) : ∀ (n : Nat) (v : Int32 × Int32) (S : St), lp (f_X10_rests_23b x1 e) n v S = some (r, S') → J K 23 [(0, .ref 0), (1, .int x1), (2, .int v.1), (3, .int v.2)] [] S :=
  lp_J (P := fun (v : Int32 × Int32) (S : St) => J K 23 [(0, .ref 0), (1, .int x1), (2, .int v.1), (3, .int v.2)] [] S) (fun k hk v S hf => by
    unfold f_X10_rests_23b at hf
    refine j_iload_n hK dX10_rests_23 3 rfl rfl ?_
    refine j_bipush hK (10 : Int32) dX10_rests_24 bi_10 ?_
    refine j_icmp_ge hK 81 dX10_rests_26 (by decide) (fun hc => ?_) (fun hc => ?_)
    · replace hf := if_1 hc hf
      refine j_sub [2] rfl ?_
      exact he _ _ hf
    · replace hf := if_2 hc hf
      refine j_iconst hK (0 : Int32) dX10_rests_29 ic_0 ?_
      refine j_istore hK (L' := [(4, .int (0 : Int32)), (0, .ref 0), (1, .int x1), (2, .int v.1), (3, .int v.2)]) dX10_rests_30 (by decide) rfl ?_
      refine j_sub [1, 2, 3, 4, 0] rfl ?_
      refine t_X10_rests_32 hK hA  (fun v10 S11 hf => ?_) _ _ _ hf
      refine j_iinc hK (L' := [(3, .int (v.2 + (1 : Int32))), (0, .ref 0), (1, .int x1), (2, .int v10.1)]) dX10_rests_75 3 rfl (congrArg (fun y => v.2 + y) ic_1) (by decide) rfl ?_
      refine j_goto hK 23 dX10_rests_78 (by decide) ?_
      refine j_sub [1, 2, 3, 0] rfl ?_
      exact hk _ _ hf)
def f_X10_rests (p1 : Int32) (S : St) : Option (Int32 × St) := (if p1 < 0 then some ((-1 : Int32), S) else (if p1 ≤ (20 : Int32) then bd (f_X5_begin S) (fun r12 S13 => lp (f_X10_rests_23b p1 (fun v15 S16 => some (v15.1, S16))) FU ((0 : Int32), (0 : Int32)) S13) else some ((-1 : Int32), S)))
theorem c_X10_rests {p1 : Int32} {S : St} {r : Int32} {S' : St} (hf : f_X10_rests p1 S = some (r, S')) : zM yX10_rests cX10_rests 5 3 (some .int) [.ref 0, .int p1] S (some (.int r)) S' := by
  refine zM_of (zpl (by decide)) (Nat.le_of_ble_eq_true rfl) rfl (fun K hK hA => ?_)
  unfold f_X10_rests at hf
  refine j_iload_n hK dX10_rests_0 1 rfl rfl ?_
  refine j_if_lt hK 10 dX10_rests_1 (by decide) (fun hc => ?_) (fun hc => ?_)
  · replace hf := if_1 hc hf
    refine j_iconst hK (-1 : Int32) dX10_rests_10 ic_m1 ?_
    exact j_iret hK dX10_rests_11 rfl (rt_I hA hf)
  · replace hf := if_2 hc hf
    refine j_iload_n hK dX10_rests_4 1 rfl rfl ?_
    refine j_bipush hK (20 : Int32) dX10_rests_5 bi_20 ?_
    refine j_icmp_le hK 12 dX10_rests_7 (by decide) (fun hc => ?_) (fun hc => ?_)
    · replace hf := if_1 hc hf
      refine j_aload_n hK dX10_rests_12 0 rfl rfl ?_
      refine j_getR hK fl_X10_26 dX10_rests_13 zo_0 zf_10_2 zr_0_2 ?_
      obtain ⟨r12, S13, h14, hf⟩ := bd_J hf
      refine k_callVv hK (c_X5_begin h14) dX10_rests_16 zclX5 zo_10 ml_X10_185 mi_X5_begin mx_X5_begin in_X5 mc_X5_begin hy_X5_begin ⟨by decide, by decide⟩ rfl (Nat.le_of_ble_eq_true rfl) ?_
      refine j_iconst hK (0 : Int32) dX10_rests_19 ic_0 ?_
      refine j_istore_n hK (L' := [(2, .int (0 : Int32)), (0, .ref 0), (1, .int p1)]) dX10_rests_20 rfl (by decide) rfl ?_
      refine j_iconst hK (0 : Int32) dX10_rests_21 ic_0 ?_
      refine j_istore_n hK (L' := [(3, .int (0 : Int32)), (2, .int (0 : Int32)), (0, .ref 0), (1, .int p1)]) dX10_rests_22 rfl (by decide) rfl ?_
      refine j_sub [2, 3, 1, 0] rfl ?_
      refine t_X10_rests_23 hK hA  (fun v15 S16 hf => ?_) _ _ _ hf
      refine j_iload_n hK dX10_rests_81 0 rfl rfl ?_
      exact j_iret hK dX10_rests_82 rfl (rt_I hA hf)
    · replace hf := if_2 hc hf
      refine j_iconst hK (-1 : Int32) dX10_rests_10 ic_m1 ?_
      exact j_iret hK dX10_rests_11 rfl (rt_I hA hf)
def f_X10_draw (p1 : Int32) (S : St) : Option (Int32 × St) := lt (sI S 0 12 (((gI S 0 12) * (1103515245 : Int32)) + (12345 : Int32))) (fun S1 => (if p1 ≤ 0 then some ((0 : Int32), S1) else if ¬ p1 = 0 then lt ((ushr (gI S1 0 12) (16 : Int32)) - (ushr (gI S1 0 12) (16 : Int32)) / p1 * p1) (fun y2 => some (y2, S1)) else none))
theorem c_X10_draw {p1 : Int32} {S : St} {r : Int32} {S' : St} (hf : f_X10_draw p1 S = some (r, S')) : zM yX10_draw cX10_draw 2 1 (some .int) [.ref 0, .int p1] S (some (.int r)) S' := by
  refine zM_of (zpl (by decide)) (Nat.le_of_ble_eq_true rfl) rfl (fun K hK hA => ?_)
  unfold f_X10_draw at hf
  refine j_aload_n hK dX10_draw_0 0 rfl rfl ?_
  refine j_aload_n hK dX10_draw_1 0 rfl rfl ?_
  refine j_getI hK fl_X10_84 dX10_draw_2 zo_0 zf_10_12 ?_
  refine j_ldcw hK (v := (1103515245 : Int32)) cn_X10_412 dX10_draw_5 ?_
  refine j_imul hK dX10_draw_8 ?_
  refine j_sipush hK (12345 : Int32) dX10_draw_9 si_12345 ?_
  refine j_iadd hK dX10_draw_12 ?_
  refine j_putI hK fl_X10_84 dX10_draw_13 zo_0 zf_10_12 ?_
  refine lt_S hf (fun S1 hf => ?_)
  refine j_pc (pc' := 16) rfl ?_
  refine j_iload_n hK dX10_draw_16 1 rfl rfl ?_
  refine j_if_le hK 32 dX10_draw_17 (by decide) (fun hc => ?_) (fun hc => ?_)
  · replace hf := if_1 hc hf
    refine j_iconst hK (0 : Int32) dX10_draw_32 ic_0 ?_
    exact j_iret hK dX10_draw_33 rfl (rt_I hA hf)
  · replace hf := if_2 hc hf
    refine j_aload_n hK dX10_draw_20 0 rfl rfl ?_
    refine j_getI hK fl_X10_84 dX10_draw_21 zo_0 zf_10_12 ?_
    refine j_bipush hK (16 : Int32) dX10_draw_24 bi_16 ?_
    refine j_iushr hK dX10_draw_26 ?_
    refine j_iload_n hK dX10_draw_27 1 rfl rfl ?_
    obtain ⟨hn3, hf⟩ := gd hf
    refine j_irem hK dX10_draw_28 hn3 ?_
    refine lt_I hf (fun y2 hf => ?_)
    refine j_goto hK 33 dX10_draw_29 (by decide) ?_
    exact j_iret hK dX10_draw_33 rfl (rt_I hA hf)
def f_X10_liveYear (S : St) : Option (Int32 × St) := bd (f_X10_draw (4 : Int32) S) (fun r1 S2 => (if r1 = 0 then bd (f_X0_heal (1 : Int32) S2) (fun r22 S23 => some ((0 : Int32), S23)) else (if (gI S2 3 2) = 0 then some ((0 : Int32), S2) else (if r1 = (3 : Int32) then bd (f_X10_draw (gI S2 3 2) S2) (fun r16 S17 => bd (f_X10_turnPassage r16 S17) (fun r19 S20 => some ((0 : Int32), S20))) else bd (f_X10_draw (8 : Int32) S2) (fun r4 S5 => bd (f_X10_draw (gI S5 3 2) S5) (fun r7 S8 => bd (f_X2_goes r4 r7 S8) (fun r10 S11 => (if r10 = 0 then some ((0 : Int32), S11) else bd (f_X0_wearOut S11) (fun r13 S14 => some ((1 : Int32), S14))))))))))
theorem c_X10_liveYear {S : St} {r : Int32} {S' : St} (hf : f_X10_liveYear S = some (r, S')) : zM yX10_liveYear cX10_liveYear 3 5 (some .int) [.ref 0] S (some (.int r)) S' := by
  refine zM_of (zpl (by decide)) (Nat.le_of_ble_eq_true rfl) rfl (fun K hK hA => ?_)
  unfold f_X10_liveYear at hf
  refine j_aload_n hK dX10_liveYear_0 0 rfl rfl ?_
  refine j_iconst hK (4 : Int32) dX10_liveYear_1 ic_4 ?_
  obtain ⟨r1, S2, h3, hf⟩ := bd_J hf
  refine k_callVi hK (c_X10_draw h3) dX10_liveYear_2 zclX10 zo_0 ml_X10_409 mi_X10_draw mx_X10_draw in_X10 mc_X10_draw hy_X10_draw ⟨by decide, by decide⟩ rfl (Nat.le_of_ble_eq_true rfl) ?_
  refine j_istore_n hK (L' := [(1, .int r1), (0, .ref 0)]) dX10_liveYear_5 rfl (by decide) rfl ?_
  refine j_iload_n hK dX10_liveYear_6 0 rfl rfl ?_
  refine j_if_ne hK 20 dX10_liveYear_7 (by decide) (fun hc => ?_) (fun hc => ?_)
  · replace hf := if_2 hc hf
    refine j_aload_n hK dX10_liveYear_20 1 rfl rfl ?_
    refine j_getR hK fl_X10_19 dX10_liveYear_21 zo_0 zf_10_1 zr_0_1 ?_
    refine j_getI hK fl_X10_95 dX10_liveYear_24 zo_3 zf_0_2 ?_
    refine j_if_ne hK 32 dX10_liveYear_27 (by decide) (fun hc => ?_) (fun hc => ?_)
    · replace hf := if_2 hc hf
      refine j_iload_n hK dX10_liveYear_32 0 rfl rfl ?_
      refine j_iconst hK (3 : Int32) dX10_liveYear_33 ic_3 ?_
      refine j_icmp_ne hK 55 dX10_liveYear_34 (by decide) (fun hc => ?_) (fun hc => ?_)
      · replace hf := if_2 hc hf
        refine j_aload_n hK dX10_liveYear_55 1 rfl rfl ?_
        refine j_bipush hK (8 : Int32) dX10_liveYear_56 bi_8 ?_
        obtain ⟨r4, S5, h6, hf⟩ := bd_J hf
        refine k_callVi hK (c_X10_draw h6) dX10_liveYear_58 zclX10 zo_0 ml_X10_409 mi_X10_draw mx_X10_draw in_X10 mc_X10_draw hy_X10_draw ⟨by decide, by decide⟩ rfl (Nat.le_of_ble_eq_true rfl) ?_
        refine j_istore_n hK (L' := [(2, .int r4), (1, .int r1), (0, .ref 0)]) dX10_liveYear_61 rfl (by decide) rfl ?_
        refine j_aload_n hK dX10_liveYear_62 2 rfl rfl ?_
        refine j_getR hK fl_X10_42 dX10_liveYear_63 zo_0 zf_10_4 zr_0_4 ?_
        refine j_iload_n hK dX10_liveYear_66 0 rfl rfl ?_
        refine j_pc (pc' := 67) rfl ?_
        refine j_aload_n hK dX10_liveYear_67 2 rfl rfl ?_
        refine j_aload_n hK dX10_liveYear_68 2 rfl rfl ?_
        refine j_getR hK fl_X10_19 dX10_liveYear_69 zo_0 zf_10_1 zr_0_1 ?_
        refine j_getI hK fl_X10_95 dX10_liveYear_72 zo_3 zf_0_2 ?_
        obtain ⟨r7, S8, h9, hf⟩ := bd_J hf
        refine k_callVi hK (c_X10_draw h9) dX10_liveYear_75 zclX10 zo_0 ml_X10_409 mi_X10_draw mx_X10_draw in_X10 mc_X10_draw hy_X10_draw ⟨by decide, by decide⟩ rfl (Nat.le_of_ble_eq_true rfl) ?_
        obtain ⟨r10, S11, h12, hf⟩ := bd_J hf
        refine k_callVi hK (c_X2_goes h12) dX10_liveYear_78 zclX2 zo_92 ml_X10_236 mi_X2_goes mx_X2_goes in_X2 mc_X2_goes hy_X2_goes ⟨by decide, by decide⟩ rfl (Nat.le_of_ble_eq_true rfl) ?_
        refine j_if_ne hK 86 dX10_liveYear_81 (by decide) (fun hc => ?_) (fun hc => ?_)
        · replace hf := if_2 hc hf
          refine j_aload_n hK dX10_liveYear_86 2 rfl rfl ?_
          refine j_getR hK fl_X10_19 dX10_liveYear_87 zo_0 zf_10_1 zr_0_1 ?_
          refine j_aload_n hK dX10_liveYear_90 2 rfl rfl ?_
          refine j_getR hK fl_X10_42 dX10_liveYear_91 zo_0 zf_10_4 zr_0_4 ?_
          obtain ⟨r13, S14, h15, hf⟩ := bd_J hf
          refine k_callVv hK (c_X0_wearOut h15) dX10_liveYear_94 zclX0 zo_3 ml_X10_250 mi_X0_wearOut mx_X0_wearOut in_X0 mc_X0_wearOut hy_X0_wearOut ⟨by decide, by decide⟩ rfl (Nat.le_of_ble_eq_true rfl) ?_
          refine j_iconst hK (1 : Int32) dX10_liveYear_97 ic_1 ?_
          exact j_iret hK dX10_liveYear_98 rfl (rt_I hA hf)
        · replace hf := if_1 hc hf
          refine j_iconst hK (0 : Int32) dX10_liveYear_84 ic_0 ?_
          exact j_iret hK dX10_liveYear_85 rfl (rt_I hA hf)
      · replace hf := if_1 hc hf
        refine j_aload_n hK dX10_liveYear_37 1 rfl rfl ?_
        refine j_aload_n hK dX10_liveYear_38 1 rfl rfl ?_
        refine j_aload_n hK dX10_liveYear_39 1 rfl rfl ?_
        refine j_getR hK fl_X10_19 dX10_liveYear_40 zo_0 zf_10_1 zr_0_1 ?_
        refine j_getI hK fl_X10_95 dX10_liveYear_43 zo_3 zf_0_2 ?_
        obtain ⟨r16, S17, h18, hf⟩ := bd_J hf
        refine k_callVi hK (c_X10_draw h18) dX10_liveYear_46 zclX10 zo_0 ml_X10_409 mi_X10_draw mx_X10_draw in_X10 mc_X10_draw hy_X10_draw ⟨by decide, by decide⟩ rfl (Nat.le_of_ble_eq_true rfl) ?_
        obtain ⟨r19, S20, h21, hf⟩ := bd_J hf
        refine k_callVi hK (c_X10_turnPassage h21) dX10_liveYear_49 zclX10 zo_0 ml_X10_209 mi_X10_turnPassage mx_X10_turnPassage in_X10 mc_X10_turnPassage hy_X10_turnPassage ⟨by decide, by decide⟩ rfl (Nat.le_of_ble_eq_true rfl) ?_
        refine j_pc (pc' := 52) rfl ?_
        refine j_pop hK dX10_liveYear_52 rfl ?_
        refine j_iconst hK (0 : Int32) dX10_liveYear_53 ic_0 ?_
        exact j_iret hK dX10_liveYear_54 rfl (rt_I hA hf)
    · replace hf := if_1 hc hf
      refine j_iconst hK (0 : Int32) dX10_liveYear_30 ic_0 ?_
      exact j_iret hK dX10_liveYear_31 rfl (rt_I hA hf)
  · replace hf := if_1 hc hf
    refine j_aload_n hK dX10_liveYear_10 1 rfl rfl ?_
    refine j_getR hK fl_X10_19 dX10_liveYear_11 zo_0 zf_10_1 zr_0_1 ?_
    refine j_iconst hK (1 : Int32) dX10_liveYear_14 ic_1 ?_
    obtain ⟨r22, S23, h24, hf⟩ := bd_J hf
    refine k_callVv hK (c_X0_heal h24) dX10_liveYear_15 zclX0 zo_3 ml_X10_257 mi_X0_heal mx_X0_heal in_X0 mc_X0_heal hy_X0_heal ⟨by decide, by decide⟩ rfl (Nat.le_of_ble_eq_true rfl) ?_
    refine j_iconst hK (0 : Int32) dX10_liveYear_18 ic_0 ?_
    exact j_iret hK dX10_liveYear_19 rfl (rt_I hA hf)
def f_X10_years_37b (x2 : Int32) (e : Int32 × Int32 → St → Option (Int32 × St)) (k : Int32 × Int32 → St → Option (Int32 × St)) (v : Int32 × Int32) (S : St) : Option (Int32 × St) := (if x2 ≤ v.2 then e (v.1, v.2) S else bd (f_X10_liveYear S) (fun r1 S2 => lt (v.1 + r1) (fun y4 => k (y4, (v.2 + (1 : Int32))) S2)))
theorem t_X10_years_37 {K : CT} (hK : KO K cX10_years RX10 5 6 (some .int)) {r : Int32} {S' : St} (hA : zans K = (some (.int r), S')) {x2 : Int32} {e : Int32 × Int32 → St → Option (Int32 × St)} (he : ∀ (v : Int32 × Int32) (S : St), e v S = some (r, S') → J K 56 [(0, .ref 0), (3, .int v.1)] [] S) : ∀ (n : Nat) (v : Int32 × Int32) (S : St), lp (f_X10_years_37b x2 e) n v S = some (r, S') → J K 37 [(0, .ref 0), (2, .int x2), (3, .int v.1), (4, .int v.2)] [] S :=
  lp_J (P := fun (v : Int32 × Int32) (S : St) => J K 37 [(0, .ref 0), (2, .int x2), (3, .int v.1), (4, .int v.2)] [] S) (fun k hk v S hf => by
    unfold f_X10_years_37b at hf
    refine j_iload hK dX10_years_37 3 rfl ?_
    refine j_iload_n hK dX10_years_39 1 rfl rfl ?_
    refine j_icmp_ge hK 56 dX10_years_40 (by decide) (fun hc => ?_) (fun hc => ?_)
    · replace hf := if_1 hc hf
      refine j_sub [0, 2] rfl ?_
      exact he _ _ hf
    · replace hf := if_2 hc hf
      refine j_iload_n hK dX10_years_43 2 rfl rfl ?_
      refine j_aload_n hK dX10_years_44 0 rfl rfl ?_
      obtain ⟨r1, S2, h3, hf⟩ := bd_J hf
      refine k_callVi hK (c_X10_liveYear h3) dX10_years_45 zclX10 zo_0 ml_X10_393 mi_X10_liveYear mx_X10_liveYear in_X10 mc_X10_liveYear hy_X10_liveYear ⟨by decide, by decide⟩ rfl (Nat.le_of_ble_eq_true rfl) ?_
      refine j_iadd hK dX10_years_48 ?_
      refine lt_I hf (fun y4 hf => ?_)
      refine j_istore_n hK (L' := [(3, .int y4), (0, .ref 0), (2, .int x2), (4, .int v.2)]) dX10_years_49 rfl (by decide) rfl ?_
      refine j_iinc hK (L' := [(4, .int (v.2 + (1 : Int32))), (3, .int y4), (0, .ref 0), (2, .int x2)]) dX10_years_50 3 rfl (congrArg (fun y => v.2 + y) ic_1) (by decide) rfl ?_
      refine j_goto hK 37 dX10_years_53 (by decide) ?_
      refine j_sub [2, 3, 1, 0] rfl ?_
      exact hk _ _ hf)
def f_X10_years (p1 : Int32) (p2 : Int32) (S : St) : Option (Int32 × St) := (if p2 < (1 : Int32) then some ((-1 : Int32), S) else (if p2 ≤ (60 : Int32) then bd (f_X4_mark S) (fun r5 S6 => lt (sI S6 0 12 p1) (fun S8 => lp (f_X10_years_37b p2 (fun v9 S10 => bd (f_X5_begin S10) (fun r11 S12 => bd (f_J6_bitCount_0f7a4 (gI S12 6 3) S12) (fun r14 S15 => bd (f_X5_put r14.toInt64 S15) (fun r17 S18 => bd (f_X5_put v9.1.toInt64 S18) (fun r20 S21 => bd (f_X0_wearOfAll S21) (fun r23 S24 => bd (f_X4_marked S24) (fun r26 S27 => if isState r26 then bd (f_X7_take 6 r26 S27) (fun r30 S31 => some (r23, S31)) else none)))))))) FU ((0 : Int32), (0 : Int32)) S8)) else some ((-1 : Int32), S)))
theorem c_X10_years {p1 : Int32} {p2 : Int32} {S : St} {r : Int32} {S' : St} (hf : f_X10_years p1 p2 S = some (r, S')) : zM yX10_years cX10_years 5 6 (some .int) [.ref 0, .int p1, .int p2] S (some (.int r)) S' := by
  refine zM_of (zpl (by decide)) (Nat.le_of_ble_eq_true rfl) rfl (fun K hK hA => ?_)
  unfold f_X10_years at hf
  refine j_iload_n hK dX10_years_0 2 rfl rfl ?_
  refine j_iconst hK (1 : Int32) dX10_years_1 ic_1 ?_
  refine j_icmp_lt hK 11 dX10_years_2 (by decide) (fun hc => ?_) (fun hc => ?_)
  · replace hf := if_1 hc hf
    refine j_iconst hK (-1 : Int32) dX10_years_11 ic_m1 ?_
    exact j_iret hK dX10_years_12 rfl (rt_I hA hf)
  · replace hf := if_2 hc hf
    refine j_iload_n hK dX10_years_5 2 rfl rfl ?_
    refine j_bipush hK (60 : Int32) dX10_years_6 bi_60 ?_
    refine j_icmp_le hK 13 dX10_years_8 (by decide) (fun hc => ?_) (fun hc => ?_)
    · replace hf := if_1 hc hf
      refine j_aload_n hK dX10_years_13 0 rfl rfl ?_
      refine j_getR hK fl_X10_33 dX10_years_14 zo_0 zf_10_3 zr_0_3 ?_
      refine j_aload_n hK dX10_years_17 0 rfl rfl ?_
      refine j_getR hK fl_X10_19 dX10_years_18 zo_0 zf_10_1 zr_0_1 ?_
      refine j_getR hK fl_X10_129 dX10_years_21 zo_3 zf_0_3 zr_3_3 ?_
      obtain ⟨r5, S6, h7, hf⟩ := bd_J hf
      refine k_callVv hK (c_X4_mark h7) dX10_years_24 zclX4 zo_12 ml_X10_181 mi_X4_mark mx_X4_mark in_X4 mc_X4_mark hy_X4_mark ⟨by decide, by decide⟩ rfl (Nat.le_of_ble_eq_true rfl) ?_
      refine j_aload_n hK dX10_years_27 0 rfl rfl ?_
      refine j_pc (pc' := 28) rfl ?_
      refine j_iload_n hK dX10_years_28 1 rfl rfl ?_
      refine j_putI hK fl_X10_84 dX10_years_29 zo_0 zf_10_12 ?_
      refine lt_S hf (fun S8 hf => ?_)
      refine j_iconst hK (0 : Int32) dX10_years_32 ic_0 ?_
      refine j_istore_n hK (L' := [(3, .int (0 : Int32)), (0, .ref 0), (1, .int p1), (2, .int p2)]) dX10_years_33 rfl (by decide) rfl ?_
      refine j_iconst hK (0 : Int32) dX10_years_34 ic_0 ?_
      refine j_istore hK (L' := [(4, .int (0 : Int32)), (3, .int (0 : Int32)), (0, .ref 0), (1, .int p1), (2, .int p2)]) dX10_years_35 (by decide) rfl ?_
      refine j_sub [2, 4, 1, 0] rfl ?_
      refine t_X10_years_37 hK hA  (fun v9 S10 hf => ?_) _ _ _ hf
      refine j_aload_n hK dX10_years_56 0 rfl rfl ?_
      refine j_getR hK fl_X10_26 dX10_years_57 zo_0 zf_10_2 zr_0_2 ?_
      obtain ⟨r11, S12, h13, hf⟩ := bd_J hf
      refine k_callVv hK (c_X5_begin h13) dX10_years_60 zclX5 zo_10 ml_X10_185 mi_X5_begin mx_X5_begin in_X5 mc_X5_begin hy_X5_begin ⟨by decide, by decide⟩ rfl (Nat.le_of_ble_eq_true rfl) ?_
      refine j_aload_n hK dX10_years_63 0 rfl rfl ?_
      refine j_getR hK fl_X10_26 dX10_years_64 zo_0 zf_10_2 zr_0_2 ?_
      refine j_aload_n hK dX10_years_67 0 rfl rfl ?_
      refine j_getR hK fl_X10_19 dX10_years_68 zo_0 zf_10_1 zr_0_1 ?_
      refine j_pc (pc' := 71) rfl ?_
      refine j_getR hK fl_X10_129 dX10_years_71 zo_3 zf_0_3 zr_3_3 ?_
      refine j_getI hK fl_X10_260 dX10_years_74 zo_6 zf_7_3 ?_
      obtain ⟨r14, S15, h16, hf⟩ := bd_J hf
      refine k_callSi hK (c_J6_bitCount_0f7a4 h16) dX10_years_77 ml_X10_263 ms_J6_bitCount_0f7a4 in_J6 mc_J6_bitCount_0f7a4 hy_J6_bitCount_0f7a4 ⟨by decide, by decide⟩ rfl (Nat.le_of_ble_eq_true rfl) ?_
      refine j_i2l hK dX10_years_80 ?_
      obtain ⟨r17, S18, h19, hf⟩ := bd_J hf
      refine k_callVv hK (c_X5_put h19) dX10_years_81 zclX5 zo_10 ml_X10_191 mi_X5_put mx_X5_put in_X5 mc_X5_put hy_X5_put ⟨by decide, by decide⟩ rfl (Nat.le_of_ble_eq_true rfl) ?_
      refine j_aload_n hK dX10_years_84 0 rfl rfl ?_
      refine j_getR hK fl_X10_26 dX10_years_85 zo_0 zf_10_2 zr_0_2 ?_
      refine j_iload_n hK dX10_years_88 1 rfl rfl ?_
      refine j_pc (pc' := 89) rfl ?_
      refine j_i2l hK dX10_years_89 ?_
      obtain ⟨r20, S21, h22, hf⟩ := bd_J hf
      refine k_callVv hK (c_X5_put h22) dX10_years_90 zclX5 zo_10 ml_X10_191 mi_X5_put mx_X5_put in_X5 mc_X5_put hy_X5_put ⟨by decide, by decide⟩ rfl (Nat.le_of_ble_eq_true rfl) ?_
      refine j_aload_n hK dX10_years_93 0 rfl rfl ?_
      refine j_getR hK fl_X10_19 dX10_years_94 zo_0 zf_10_1 zr_0_1 ?_
      obtain ⟨r23, S24, h25, hf⟩ := bd_J hf
      refine k_callVi hK (c_X0_wearOfAll h25) dX10_years_97 zclX0 zo_3 ml_X10_166 mi_X0_wearOfAll mx_X0_wearOfAll in_X0 mc_X0_wearOfAll hy_X0_wearOfAll ⟨by decide, by decide⟩ rfl (Nat.le_of_ble_eq_true rfl) ?_
      refine j_istore hK (L' := [(4, .int r23), (0, .ref 0), (3, .int v9.1)]) dX10_years_100 (by decide) rfl ?_
      refine j_aload_n hK dX10_years_102 1 rfl rfl ?_
      refine j_getR hK fl_X10_19 dX10_years_103 zo_0 zf_10_1 zr_0_1 ?_
      refine j_pc (pc' := 106) rfl ?_
      refine j_getR hK fl_X10_129 dX10_years_106 zo_3 zf_0_3 zr_3_3 ?_
      refine j_aload_n hK dX10_years_109 1 rfl rfl ?_
      refine j_getR hK fl_X10_33 dX10_years_110 zo_0 zf_10_3 zr_0_3 ?_
      obtain ⟨r26, S27, h28, hf⟩ := bd_J hf
      obtain ⟨hq29, hf⟩ := gd hf
      refine k_callVr hK (c_X4_marked h28) dX10_years_113 zclX4 zo_12 ml_X10_396 mi_X4_marked mx_X4_marked in_X4 mc_X4_marked hy_X4_marked ⟨by decide, by decide⟩ rfl (Nat.le_of_ble_eq_true rfl) ?_
      obtain ⟨r30, S31, h32, hf⟩ := bd_J hf
      refine k_callVv hK (c_X7_take zo_6 hq29 h32) dX10_years_116 zclX7 zo_6 ml_X10_233 mi_X7_take mx_X7_take in_X7 mc_X7_take hy_X7_take ⟨by decide, by decide⟩ rfl (Nat.le_of_ble_eq_true rfl) ?_
      refine j_iload hK dX10_years_119 0 rfl ?_
      exact j_iret hK dX10_years_121 rfl (rt_I hA hf)
    · replace hf := if_2 hc hf
      refine j_iconst hK (-1 : Int32) dX10_years_11 ic_m1 ?_
      exact j_iret hK dX10_years_12 rfl (rt_I hA hf)
def f_X10_keep (p1 : Int32) (S : St) : Option (Int32 × St) := bd (f_X4_store p1 S) (fun r1 S2 => if r1 = 0 ∨ r1 = 1 then some (r1, S2) else none)
theorem c_X10_keep {p1 : Int32} {S : St} {r : Int32} {S' : St} (hf : f_X10_keep p1 S = some (r, S')) : zM yX10_keep cX10_keep 2 3 (some .boolean) [.ref 0, .int p1] S (some (.int r)) S' := by
  refine zM_of (zpl (by decide)) (Nat.le_of_ble_eq_true rfl) rfl (fun K hK hA => ?_)
  unfold f_X10_keep at hf
  refine j_aload_n hK dX10_keep_0 0 rfl rfl ?_
  refine j_getR hK fl_X10_33 dX10_keep_1 zo_0 zf_10_3 zr_0_3 ?_
  refine j_iload_n hK dX10_keep_4 1 rfl rfl ?_
  refine j_aload_n hK dX10_keep_5 0 rfl rfl ?_
  refine j_getR hK fl_X10_19 dX10_keep_6 zo_0 zf_10_1 zr_0_1 ?_
  refine j_getR hK fl_X10_129 dX10_keep_9 zo_3 zf_0_3 zr_3_3 ?_
  obtain ⟨r1, S2, h3, hf⟩ := bd_J hf
  refine k_callVi hK (c_X4_store h3) dX10_keep_12 zclX4 zo_12 ml_X10_413 mi_X4_store mx_X4_store in_X4 mc_X4_store hy_X4_store ⟨by decide, by decide⟩ rfl (Nat.le_of_ble_eq_true rfl) ?_
  obtain ⟨hz, hf⟩ := gd hf
  exact j_zret hK dX10_keep_15 rfl (nz hz) (rt_I hA hf)
def f_X10_again (p1 : Int32) (S : St) : Option (Int32 × St) := bd (f_X4_hasStored p1 S) (fun r1 S2 => (if r1 = 0 then some ((0 : Int32), S2) else if inb p1 3 then bd (f_X7_take 6 (zr 78 p1.toNatClampNeg) S2) (fun r5 S6 => lt (sI S6 12 2 (0 : Int32)) (fun S8 => some ((1 : Int32), S8))) else none))
theorem c_X10_again {p1 : Int32} {S : St} {r : Int32} {S' : St} (hf : f_X10_again p1 S = some (r, S')) : zM yX10_again cX10_again 2 2 (some .boolean) [.ref 0, .int p1] S (some (.int r)) S' := by
  refine zM_of (zpl (by decide)) (Nat.le_of_ble_eq_true rfl) rfl (fun K hK hA => ?_)
  unfold f_X10_again at hf
  refine j_aload_n hK dX10_again_0 0 rfl rfl ?_
  refine j_getR hK fl_X10_33 dX10_again_1 zo_0 zf_10_3 zr_0_3 ?_
  refine j_iload_n hK dX10_again_4 1 rfl rfl ?_
  obtain ⟨r1, S2, h3, hf⟩ := bd_J hf
  refine k_callVi hK (c_X4_hasStored h3) dX10_again_5 zclX4 zo_12 ml_X10_417 mi_X4_hasStored mx_X4_hasStored in_X4 mc_X4_hasStored hy_X4_hasStored ⟨by decide, by decide⟩ rfl (Nat.le_of_ble_eq_true rfl) ?_
  refine j_if_ne hK 13 dX10_again_8 (by decide) (fun hc => ?_) (fun hc => ?_)
  · replace hf := if_2 hc hf
    refine j_aload_n hK dX10_again_13 0 rfl rfl ?_
    refine j_getR hK fl_X10_19 dX10_again_14 zo_0 zf_10_1 zr_0_1 ?_
    refine j_getR hK fl_X10_129 dX10_again_17 zo_3 zf_0_3 zr_3_3 ?_
    refine j_aload_n hK dX10_again_20 0 rfl rfl ?_
    refine j_getR hK fl_X10_33 dX10_again_21 zo_0 zf_10_3 zr_0_3 ?_
    refine j_getR hK fl_X10_420 dX10_again_24 zo_12 zf_4_3 zr_12_3 ?_
    refine j_iload_n hK dX10_again_27 1 rfl rfl ?_
    refine j_pc (pc' := 28) rfl ?_
    obtain ⟨hi4, hf⟩ := gd hf
    refine j_aald hK dX10_again_28 zb_78 hi4 ?_
    obtain ⟨r5, S6, h7, hf⟩ := bd_J hf
    refine k_callVv hK (c_X7_take zo_6 (st_a78 hi4) h7) dX10_again_29 zclX7 zo_6 ml_X10_233 mi_X7_take mx_X7_take in_X7 mc_X7_take hy_X7_take ⟨by decide, by decide⟩ rfl (Nat.le_of_ble_eq_true rfl) ?_
    refine j_aload_n hK dX10_again_32 0 rfl rfl ?_
    refine j_getR hK fl_X10_33 dX10_again_33 zo_0 zf_10_3 zr_0_3 ?_
    refine j_iconst hK (0 : Int32) dX10_again_36 ic_0 ?_
    refine j_putI hK fl_X10_228 dX10_again_37 zo_12 zf_4_2 ?_
    refine lt_S hf (fun S8 hf => ?_)
    refine j_iconst hK (1 : Int32) dX10_again_40 ic_1 ?_
    exact j_zret hK dX10_again_41 rfl rfl (rt_I hA hf)
  · replace hf := if_1 hc hf
    refine j_iconst hK (0 : Int32) dX10_again_11 ic_0 ?_
    exact j_zret hK dX10_again_12 rfl rfl (rt_I hA hf)
def f_X10_count (p1 : Int32) (S : St) : Option (Int32 × St) := (if p1 = (0 : Int32) then some ((gI S 3 2), S) else (if p1 = (1 : Int32) then bd (f_J6_bitCount_0f7a4 (gI S 6 3) S) (fun r3 S4 => some (r3, S4)) else (if p1 = (2 : Int32) then some ((gI S 6 4), S) else (if p1 = (3 : Int32) then some ((gI S 6 5), S) else (if p1 = (4 : Int32) then bd (f_X0_wearOfAll S) (fun r9 S10 => some (r9, S10)) else (if p1 = (5 : Int32) then bd (f_X0_delayOfAll S) (fun r13 S14 => some (r13, S14)) else (if p1 = (6 : Int32) then some ((gI S 101 3), S) else (if p1 = (7 : Int32) then some ((gI S 104 3), S) else (if p1 = (8 : Int32) then some ((gI S 12 2), S) else (if p1 = (9 : Int32) then some ((gI S 10 1), S) else (if p1 = (10 : Int32) then some ((gI S 1 1), S) else some ((-100 : Int32), S))))))))))))
theorem c_X10_count {p1 : Int32} {S : St} {r : Int32} {S' : St} (hf : f_X10_count p1 S = some (r, S')) : zM yX10_count cX10_count 2 2 (some .int) [.ref 0, .int p1] S (some (.int r)) S' := by
  refine zM_of (zpl (by decide)) (Nat.le_of_ble_eq_true rfl) rfl (fun K hK hA => ?_)
  unfold f_X10_count at hf
  refine j_iload_n hK dX10_count_0 1 rfl rfl ?_
  by_cases hs1 : p1 = (0 : Int32)
  · replace hf := if_1 hs1 hf
    refine j_tabC hK (0 : Int32) 60 dX10_count_1 hs1 (by decide) rfl (by decide) ?_
    refine j_aload_n hK dX10_count_60 0 rfl rfl ?_
    refine j_getR hK fl_X10_19 dX10_count_61 zo_0 zf_10_1 zr_0_1 ?_
    refine j_getI hK fl_X10_95 dX10_count_64 zo_3 zf_0_2 ?_
    exact j_iret hK dX10_count_67 rfl (rt_I hA hf)
  · replace hf := if_2 hs1 hf
    by_cases hs2 : p1 = (1 : Int32)
    · replace hf := if_1 hs2 hf
      refine j_tabC hK (1 : Int32) 68 dX10_count_1 hs2 (by decide) rfl (by decide) ?_
      refine j_aload_n hK dX10_count_68 0 rfl rfl ?_
      refine j_getR hK fl_X10_19 dX10_count_69 zo_0 zf_10_1 zr_0_1 ?_
      refine j_getR hK fl_X10_129 dX10_count_72 zo_3 zf_0_3 zr_3_3 ?_
      refine j_getI hK fl_X10_260 dX10_count_75 zo_6 zf_7_3 ?_
      obtain ⟨r3, S4, h5, hf⟩ := bd_J hf
      refine k_callSi hK (c_J6_bitCount_0f7a4 h5) dX10_count_78 ml_X10_263 ms_J6_bitCount_0f7a4 in_J6 mc_J6_bitCount_0f7a4 hy_J6_bitCount_0f7a4 ⟨by decide, by decide⟩ rfl (Nat.le_of_ble_eq_true rfl) ?_
      exact j_iret hK dX10_count_81 rfl (rt_I hA hf)
    · replace hf := if_2 hs2 hf
      by_cases hs6 : p1 = (2 : Int32)
      · replace hf := if_1 hs6 hf
        refine j_tabC hK (2 : Int32) 82 dX10_count_1 hs6 (by decide) rfl (by decide) ?_
        refine j_aload_n hK dX10_count_82 0 rfl rfl ?_
        refine j_getR hK fl_X10_19 dX10_count_83 zo_0 zf_10_1 zr_0_1 ?_
        refine j_getR hK fl_X10_129 dX10_count_86 zo_3 zf_0_3 zr_3_3 ?_
        refine j_getI hK fl_X10_424 dX10_count_89 zo_6 zf_7_4 ?_
        exact j_iret hK dX10_count_92 rfl (rt_I hA hf)
      · replace hf := if_2 hs6 hf
        by_cases hs7 : p1 = (3 : Int32)
        · replace hf := if_1 hs7 hf
          refine j_tabC hK (3 : Int32) 93 dX10_count_1 hs7 (by decide) rfl (by decide) ?_
          refine j_aload_n hK dX10_count_93 0 rfl rfl ?_
          refine j_getR hK fl_X10_19 dX10_count_94 zo_0 zf_10_1 zr_0_1 ?_
          refine j_getR hK fl_X10_129 dX10_count_97 zo_3 zf_0_3 zr_3_3 ?_
          refine j_getI hK fl_X10_225 dX10_count_100 zo_6 zf_7_5 ?_
          exact j_iret hK dX10_count_103 rfl (rt_I hA hf)
        · replace hf := if_2 hs7 hf
          by_cases hs8 : p1 = (4 : Int32)
          · replace hf := if_1 hs8 hf
            refine j_tabC hK (4 : Int32) 104 dX10_count_1 hs8 (by decide) rfl (by decide) ?_
            refine j_aload_n hK dX10_count_104 0 rfl rfl ?_
            refine j_getR hK fl_X10_19 dX10_count_105 zo_0 zf_10_1 zr_0_1 ?_
            obtain ⟨r9, S10, h11, hf⟩ := bd_J hf
            refine k_callVi hK (c_X0_wearOfAll h11) dX10_count_108 zclX0 zo_3 ml_X10_166 mi_X0_wearOfAll mx_X0_wearOfAll in_X0 mc_X0_wearOfAll hy_X0_wearOfAll ⟨by decide, by decide⟩ rfl (Nat.le_of_ble_eq_true rfl) ?_
            exact j_iret hK dX10_count_111 rfl (rt_I hA hf)
          · replace hf := if_2 hs8 hf
            by_cases hs12 : p1 = (5 : Int32)
            · replace hf := if_1 hs12 hf
              refine j_tabC hK (5 : Int32) 112 dX10_count_1 hs12 (by decide) rfl (by decide) ?_
              refine j_aload_n hK dX10_count_112 0 rfl rfl ?_
              refine j_getR hK fl_X10_19 dX10_count_113 zo_0 zf_10_1 zr_0_1 ?_
              obtain ⟨r13, S14, h15, hf⟩ := bd_J hf
              refine k_callVi hK (c_X0_delayOfAll h15) dX10_count_116 zclX0 zo_3 ml_X10_427 mi_X0_delayOfAll mx_X0_delayOfAll in_X0 mc_X0_delayOfAll hy_X0_delayOfAll ⟨by decide, by decide⟩ rfl (Nat.le_of_ble_eq_true rfl) ?_
              exact j_iret hK dX10_count_119 rfl (rt_I hA hf)
            · replace hf := if_2 hs12 hf
              by_cases hs16 : p1 = (6 : Int32)
              · replace hf := if_1 hs16 hf
                refine j_tabC hK (6 : Int32) 120 dX10_count_1 hs16 (by decide) rfl (by decide) ?_
                refine j_aload_n hK dX10_count_120 0 rfl rfl ?_
                refine j_getR hK fl_X10_56 dX10_count_121 zo_0 zf_10_6 zr_0_6 ?_
                refine j_getI hK fl_X10_342 dX10_count_124 zo_101 zf_1_3 ?_
                exact j_iret hK dX10_count_127 rfl (rt_I hA hf)
              · replace hf := if_2 hs16 hf
                by_cases hs17 : p1 = (7 : Int32)
                · replace hf := if_1 hs17 hf
                  refine j_tabC hK (7 : Int32) 128 dX10_count_1 hs17 (by decide) rfl (by decide) ?_
                  refine j_aload_n hK dX10_count_128 0 rfl rfl ?_
                  refine j_getR hK fl_X10_63 dX10_count_129 zo_0 zf_10_7 zr_0_7 ?_
                  refine j_getI hK fl_X10_352 dX10_count_132 zo_104 zf_3_3 ?_
                  exact j_iret hK dX10_count_135 rfl (rt_I hA hf)
                · replace hf := if_2 hs17 hf
                  by_cases hs18 : p1 = (8 : Int32)
                  · replace hf := if_1 hs18 hf
                    refine j_tabC hK (8 : Int32) 136 dX10_count_1 hs18 (by decide) rfl (by decide) ?_
                    refine j_aload_n hK dX10_count_136 0 rfl rfl ?_
                    refine j_getR hK fl_X10_33 dX10_count_137 zo_0 zf_10_3 zr_0_3 ?_
                    refine j_getI hK fl_X10_228 dX10_count_140 zo_12 zf_4_2 ?_
                    exact j_iret hK dX10_count_143 rfl (rt_I hA hf)
                  · replace hf := if_2 hs18 hf
                    by_cases hs19 : p1 = (9 : Int32)
                    · replace hf := if_1 hs19 hf
                      refine j_tabC hK (9 : Int32) 144 dX10_count_1 hs19 (by decide) rfl (by decide) ?_
                      refine j_aload_n hK dX10_count_144 0 rfl rfl ?_
                      refine j_getR hK fl_X10_26 dX10_count_145 zo_0 zf_10_2 zr_0_2 ?_
                      refine j_getI hK fl_X10_296 dX10_count_148 zo_10 zf_5_1 ?_
                      exact j_iret hK dX10_count_151 rfl (rt_I hA hf)
                    · replace hf := if_2 hs19 hf
                      by_cases hs20 : p1 = (10 : Int32)
                      · replace hf := if_1 hs20 hf
                        refine j_tabC hK (10 : Int32) 152 dX10_count_1 hs20 (by decide) rfl (by decide) ?_
                        refine j_aload_n hK dX10_count_152 0 rfl rfl ?_
                        refine j_getR hK fl_X10_10 dX10_count_153 zo_0 zf_10_0 zr_0_0 ?_
                        refine j_getI hK fl_X10_88 dX10_count_156 zo_1 zf_8_1 ?_
                        exact j_iret hK dX10_count_159 rfl (rt_I hA hf)
                      · replace hf := if_2 hs20 hf
                        refine j_tabOut hK 160 dX10_count_1 (by have q := And.intro (ne_toInt 0 (by decide) hs1) (And.intro (ne_toInt 1 (by decide) hs2) (And.intro (ne_toInt 2 (by decide) hs6) (And.intro (ne_toInt 3 (by decide) hs7) (And.intro (ne_toInt 4 (by decide) hs8) (And.intro (ne_toInt 5 (by decide) hs12) (And.intro (ne_toInt 6 (by decide) hs16) (And.intro (ne_toInt 7 (by decide) hs17) (And.intro (ne_toInt 8 (by decide) hs18) (And.intro (ne_toInt 9 (by decide) hs19) (And.intro (ne_toInt 10 (by decide) hs20) trivial)))))))))); omega) (by decide) ?_
                        refine j_bipush hK (-100 : Int32) dX10_count_160 bi_m100 ?_
                        exact j_iret hK dX10_count_162 rfl (rt_I hA hf)
