def f_X9_firstStep_78 (x1 : Int32) (x2 : Int32) (x3 : Int32) (k e : Int32 → St → Option (Int32 × St)) (S : St) : Option (Int32 × St) := k (x3 + (1 : Int32)) S
theorem t_X9_firstStep_78 {K : CT} (hK : KO K cX9_firstStep RX9 5 2 (some .int)) {r : Int32} {S' : St} (hA : zans K (some (.int r), S')) {x1 : Int32} {x2 : Int32} {x3 : Int32} {k e : Int32 → St → Option (Int32 × St)} (hk : ∀ (v : Int32) (S : St), k v S = some (r, S') → J K 2 [(0, .ref 98), (1, .int x1), (2, .int x2), (3, .int v)] [] S) (he : ∀ (v : Int32) (S : St), e v S = some (r, S') → J K 84 [] [] S) {S : St} (hf : f_X9_firstStep_78 x1 x2 x3 k e S = some (r, S')) : J K 78 [(0, .ref 98), (1, .int x1), (2, .int x2), (3, .int x3)] [] S := by
  unfold f_X9_firstStep_78 at hf
  refine j_iinc hK (L' := [(3, .int (x3 + (1 : Int32))), (0, .ref 98), (1, .int x1), (2, .int x2)]) dX9_firstStep_78 3 rfl (congrArg (fun y => x3 + y) ic_1) (by decide) rfl ?_
  refine j_goto hK 2 dX9_firstStep_81 (by decide) ?_
  refine j_sub [1, 2, 3, 0] rfl ?_
  exact hk _ _ hf
def f_X9_firstStep_2b (x1 : Int32) (x2 : Int32) (e : Int32 → St → Option (Int32 × St)) (k : Int32 → St → Option (Int32 × St)) (v : Int32) (S : St) : Option (Int32 × St) := (if (gI S 3 2) ≤ v then e v S else bd (f_X0_isOpen v S) (fun r1 S2 => (if r1 = 0 then f_X9_firstStep_78 x1 x2 v k e S2 else bd (f_X0_isEnd x1 v S2) (fun r4 S5 => (if r4 = 0 then f_X9_firstStep_78 x1 x2 v k e S5 else bd (f_X0_acrossFrom x1 v S5) (fun r7 S8 => bd (f_X9_farOf r7 x2 S8) (fun r10 S11 => if inb v 12 then bd (f_X9_farOf x1 x2 S11) (fun r14 S15 => (if ((gI S11 7 v.toNatClampNeg) + r10) = r14 then some (v, S15) else f_X9_firstStep_78 x1 x2 v k e S15)) else none)))))))
theorem t_X9_firstStep_2 {K : CT} (hK : KO K cX9_firstStep RX9 5 2 (some .int)) {r : Int32} {S' : St} (hA : zans K (some (.int r), S')) {x1 : Int32} {x2 : Int32} {e : Int32 → St → Option (Int32 × St)} (he : ∀ (v : Int32) (S : St), e v S = some (r, S') → J K 84 [] [] S) : ∀ (n : Nat) (v : Int32) (S : St), lp (f_X9_firstStep_2b x1 x2 e) n v S = some (r, S') → J K 2 [(0, .ref 98), (1, .int x1), (2, .int x2), (3, .int v)] [] S :=
  lp_J (P := fun (v : Int32) (S : St) => J K 2 [(0, .ref 98), (1, .int x1), (2, .int x2), (3, .int v)] [] S) (fun k hk v S hf => by
    unfold f_X9_firstStep_2b at hf
    refine j_iload_n hK dX9_firstStep_2 3 rfl rfl ?_
    refine j_aload_n hK dX9_firstStep_3 0 rfl rfl ?_
    refine j_getR hK fl_X9_9 dX9_firstStep_4 zo_98 zf_9_0 zr_98_0 ?_
    refine j_getI hK fl_X9_22 dX9_firstStep_7 zo_3 zf_0_2 ?_
    refine j_icmp_ge hK 84 dX9_firstStep_10 (by decide) (fun hc => ?_) (fun hc => ?_)
    · replace hf := if_1 hc hf
      refine j_sub [] rfl ?_
      exact he _ _ hf
    · replace hf := if_2 hc hf
      refine j_aload_n hK dX9_firstStep_13 0 rfl rfl ?_
      refine j_getR hK fl_X9_9 dX9_firstStep_14 zo_98 zf_9_0 zr_98_0 ?_
      refine j_iload_n hK dX9_firstStep_17 3 rfl rfl ?_
      obtain ⟨r1, S2, h3, hf⟩ := bd_J hf
      refine k_callVi hK (c_X0_isOpen h3) dX9_firstStep_18 zclX0 zo_3 ml_X9_28 mi_X0_isOpen mx_X0_isOpen in_X0 mc_X0_isOpen hy_X0_isOpen ⟨by decide, by decide⟩ rfl (Nat.le_of_ble_eq_true rfl) ?_
      refine j_if_eq hK 78 dX9_firstStep_21 (by decide) (fun hc => ?_) (fun hc => ?_)
      · replace hf := if_1 hc hf
        exact t_X9_firstStep_78 hK hA hk he hf
      · replace hf := if_2 hc hf
        refine j_aload_n hK dX9_firstStep_24 0 rfl rfl ?_
        refine j_getR hK fl_X9_9 dX9_firstStep_25 zo_98 zf_9_0 zr_98_0 ?_
        refine j_iload_n hK dX9_firstStep_28 1 rfl rfl ?_
        refine j_iload_n hK dX9_firstStep_29 3 rfl rfl ?_
        obtain ⟨r4, S5, h6, hf⟩ := bd_J hf
        refine k_callVi hK (c_X0_isEnd h6) dX9_firstStep_30 zclX0 zo_3 ml_X9_63 mi_X0_isEnd mx_X0_isEnd in_X0 mc_X0_isEnd hy_X0_isEnd ⟨by decide, by decide⟩ rfl (Nat.le_of_ble_eq_true rfl) ?_
        refine j_if_eq hK 78 dX9_firstStep_33 (by decide) (fun hc => ?_) (fun hc => ?_)
        · replace hf := if_1 hc hf
          exact t_X9_firstStep_78 hK hA hk he hf
        · replace hf := if_2 hc hf
          refine j_aload_n hK dX9_firstStep_36 0 rfl rfl ?_
          refine j_aload_n hK dX9_firstStep_37 0 rfl rfl ?_
          refine j_getR hK fl_X9_9 dX9_firstStep_38 zo_98 zf_9_0 zr_98_0 ?_
          refine j_iload_n hK dX9_firstStep_41 1 rfl rfl ?_
          refine j_iload_n hK dX9_firstStep_42 3 rfl rfl ?_
          obtain ⟨r7, S8, h9, hf⟩ := bd_J hf
          refine k_callVi hK (c_X0_acrossFrom h9) dX9_firstStep_43 zclX0 zo_3 ml_X9_67 mi_X0_acrossFrom mx_X0_acrossFrom in_X0 mc_X0_acrossFrom hy_X0_acrossFrom ⟨by decide, by decide⟩ rfl (Nat.le_of_ble_eq_true rfl) ?_
          refine j_iload_n hK dX9_firstStep_46 2 rfl rfl ?_
          refine j_pc (pc' := 47) rfl ?_
          obtain ⟨r10, S11, h12, hf⟩ := bd_J hf
          refine k_callVi hK (c_X9_farOf h12) dX9_firstStep_47 zclX9 zo_98 ml_X9_51 mi_X9_farOf mx_X9_farOf in_X9 mc_X9_farOf hy_X9_farOf ⟨by decide, by decide⟩ rfl (Nat.le_of_ble_eq_true rfl) ?_
          refine j_istore hK (L' := [(4, .int r10), (0, .ref 98), (1, .int x1), (2, .int x2), (3, .int v)]) dX9_firstStep_50 (by decide) rfl ?_
          refine j_aload_n hK dX9_firstStep_52 1 rfl rfl ?_
          refine j_getR hK fl_X9_9 dX9_firstStep_53 zo_98 zf_9_0 zr_98_0 ?_
          refine j_getR hK fl_X9_38 dX9_firstStep_56 zo_3 zf_0_3 zr_3_3 ?_
          refine j_getR hK fl_X9_42 dX9_firstStep_59 zo_6 zf_7_0 zr_6_0 ?_
          refine j_iload_n hK dX9_firstStep_62 4 rfl rfl ?_
          obtain ⟨hi13, hf⟩ := gd hf
          refine k_iald hK dX9_firstStep_63 zb_7 hi13 rfl ?_
          refine j_pc (pc' := 64) rfl ?_
          refine j_iload hK dX9_firstStep_64 0 rfl ?_
          refine j_iadd hK dX9_firstStep_66 ?_
          refine j_aload_n hK dX9_firstStep_67 1 rfl rfl ?_
          refine j_iload_n hK dX9_firstStep_68 2 rfl rfl ?_
          refine j_iload_n hK dX9_firstStep_69 3 rfl rfl ?_
          obtain ⟨r14, S15, h16, hf⟩ := bd_J hf
          refine k_callVi hK (c_X9_farOf h16) dX9_firstStep_70 zclX9 zo_98 ml_X9_51 mi_X9_farOf mx_X9_farOf in_X9 mc_X9_farOf hy_X9_farOf ⟨by decide, by decide⟩ rfl (Nat.le_of_ble_eq_true rfl) ?_
          refine j_icmp_ne hK 78 dX9_firstStep_73 (by decide) (fun hc => ?_) (fun hc => ?_)
          · replace hf := if_2 hc hf
            refine j_sub [1, 2, 3, 4] rfl ?_
            exact t_X9_firstStep_78 hK hA hk he hf
          · replace hf := if_1 hc hf
            refine j_iload_n hK dX9_firstStep_76 4 rfl rfl ?_
            exact j_iret hK dX9_firstStep_77 rfl (rt_I hA hf))
def f_X9_firstStep (p1 : Int32) (p2 : Int32) (S : St) : Option (Int32 × St) := lp (f_X9_firstStep_2b p1 p2 (fun v17 S18 => some ((-1 : Int32), S18))) FU (0 : Int32) S
theorem c_X9_firstStep {p1 : Int32} {p2 : Int32} {S : St} {r : Int32} {S' : St} (hf : f_X9_firstStep p1 p2 S = some (r, S')) : zM yX9_firstStep cX9_firstStep 5 2 (some .int) [.ref 98, .int p1, .int p2] S (some (.int r)) S' := by
  refine zM_of (zpl (by decide)) (Nat.le_of_ble_eq_true rfl) rfl (fun K hK hA => ?_)
  unfold f_X9_firstStep at hf
  refine j_iconst hK (0 : Int32) dX9_firstStep_0 ic_0 ?_
  refine j_istore_n hK (L' := [(3, .int (0 : Int32)), (0, .ref 98), (1, .int p1), (2, .int p2)]) dX9_firstStep_1 rfl (by decide) rfl ?_
  refine j_sub [1, 2, 3, 0] rfl ?_
  refine t_X9_firstStep_2 hK hA  (fun v17 S18 hf => ?_) _ _ _ hf
  refine j_iconst hK (-1 : Int32) dX9_firstStep_84 ic_m1 ?_
  exact j_iret hK dX9_firstStep_85 rfl (rt_I hA hf)
def f_X10_way_110 (x2 : Int32) (x3 : Int32) (x4 : Int32) (x5 : Int32) (k e : Int32 × Int32 → St → Option (Int32 × St)) (S : St) : Option (Int32 × St) := k (x4, (x5 + (1 : Int32))) S
theorem t_X10_way_110 {K : CT} (hK : KO K cX10_way RX10 7 3 (some .int)) {r : Int32} {S' : St} (hA : zans K (some (.int r), S')) {x2 : Int32} {x3 : Int32} {x4 : Int32} {x5 : Int32} {k e : Int32 × Int32 → St → Option (Int32 × St)} (hk : ∀ (v : Int32 × Int32) (S : St), k v S = some (r, S') → J K 56 [(0, .ref 0), (2, .int x2), (3, .int x3), (4, .int v.1), (5, .int v.2)] [] S) (he : ∀ (v : Int32 × Int32) (S : St), e v S = some (r, S') → J K 116 [(3, .int x3)] [] S) {S : St} (hf : f_X10_way_110 x2 x3 x4 x5 k e S = some (r, S')) : J K 110 [(0, .ref 0), (2, .int x2), (3, .int x3), (4, .int x4), (5, .int x5)] [] S := by
  unfold f_X10_way_110 at hf
  refine j_iinc hK (L' := [(5, .int (x5 + (1 : Int32))), (0, .ref 0), (2, .int x2), (3, .int x3), (4, .int x4)]) dX10_way_110 4 rfl (congrArg (fun y => x5 + y) ic_1) (by decide) rfl ?_
  refine j_goto hK 56 dX10_way_113 (by decide) ?_
  refine j_sub [1, 2, 3, 4, 0] rfl ?_
  exact hk _ _ hf
def f_X10_way_56b (x2 : Int32) (x3 : Int32) (e : Int32 × Int32 → St → Option (Int32 × St)) (k : Int32 × Int32 → St → Option (Int32 × St)) (v : Int32 × Int32) (S : St) : Option (Int32 × St) := (if (8 : Int32) ≤ v.2 then e (v.1, v.2) S else (if v.1 = x2 then e (v.1, v.2) S else bd (f_X9_firstStep v.1 x2 S) (fun r1 S2 => (if r1 = (-1 : Int32) then f_X10_way_110 x2 x3 v.1 v.2 k e S2 else bd (f_X5_put r1.toInt64 S2) (fun r4 S5 => bd (f_X0_acrossFrom v.1 r1 S5) (fun r7 S8 => f_X10_way_110 x2 x3 r7 v.2 k e S8))))))
theorem t_X10_way_56 {K : CT} (hK : KO K cX10_way RX10 7 3 (some .int)) {r : Int32} {S' : St} (hA : zans K (some (.int r), S')) {x2 : Int32} {x3 : Int32} {e : Int32 × Int32 → St → Option (Int32 × St)} (he : ∀ (v : Int32 × Int32) (S : St), e v S = some (r, S') → J K 116 [(3, .int x3)] [] S) : ∀ (n : Nat) (v : Int32 × Int32) (S : St), lp (f_X10_way_56b x2 x3 e) n v S = some (r, S') → J K 56 [(0, .ref 0), (2, .int x2), (3, .int x3), (4, .int v.1), (5, .int v.2)] [] S :=
  lp_J (P := fun (v : Int32 × Int32) (S : St) => J K 56 [(0, .ref 0), (2, .int x2), (3, .int x3), (4, .int v.1), (5, .int v.2)] [] S) (fun k hk v S hf => by
    unfold f_X10_way_56b at hf
    refine j_iload hK dX10_way_56 4 rfl ?_
    refine j_bipush hK (8 : Int32) dX10_way_58 bi_8 ?_
    refine j_icmp_ge hK 116 dX10_way_60 (by decide) (fun hc => ?_) (fun hc => ?_)
    · replace hf := if_1 hc hf
      refine j_sub [2] rfl ?_
      exact he _ _ hf
    · replace hf := if_2 hc hf
      refine j_iload hK dX10_way_63 3 rfl ?_
      refine j_iload_n hK dX10_way_65 1 rfl rfl ?_
      refine j_icmp_eq hK 116 dX10_way_66 (by decide) (fun hc => ?_) (fun hc => ?_)
      · replace hf := if_1 hc hf
        refine j_sub [2] rfl ?_
        exact he _ _ hf
      · replace hf := if_2 hc hf
        refine j_aload_n hK dX10_way_69 0 rfl rfl ?_
        refine j_getR hK fl_X10_49 dX10_way_70 zo_0 zf_10_5 zr_0_5 ?_
        refine j_iload hK dX10_way_73 3 rfl ?_
        refine j_iload_n hK dX10_way_75 1 rfl rfl ?_
        obtain ⟨r1, S2, h3, hf⟩ := bd_J hf
        refine k_callVi hK (c_X9_firstStep h3) dX10_way_76 zclX9 zo_98 ml_X10_300 mi_X9_firstStep mx_X9_firstStep in_X9 mc_X9_firstStep hy_X9_firstStep ⟨by decide, by decide⟩ rfl (Nat.le_of_ble_eq_true rfl) ?_
        refine j_istore hK (L' := [(6, .int r1), (0, .ref 0), (2, .int x2), (3, .int x3), (4, .int v.1), (5, .int v.2)]) dX10_way_79 (by decide) rfl ?_
        refine j_iload hK dX10_way_81 0 rfl ?_
        refine j_pc (pc' := 83) rfl ?_
        refine j_iconst hK (-1 : Int32) dX10_way_83 ic_m1 ?_
        refine j_icmp_eq hK 110 dX10_way_84 (by decide) (fun hc => ?_) (fun hc => ?_)
        · replace hf := if_1 hc hf
          refine j_sub [1, 2, 3, 4, 5] rfl ?_
          exact t_X10_way_110 hK hA hk he hf
        · replace hf := if_2 hc hf
          refine j_aload_n hK dX10_way_87 1 rfl rfl ?_
          refine j_getR hK fl_X10_26 dX10_way_88 zo_0 zf_10_2 zr_0_2 ?_
          refine j_iload hK dX10_way_91 0 rfl ?_
          refine j_i2l hK dX10_way_93 ?_
          obtain ⟨r4, S5, h6, hf⟩ := bd_J hf
          refine k_callVv hK (c_X5_put h6) dX10_way_94 zclX5 zo_10 ml_X10_191 mi_X5_put mx_X5_put in_X5 mc_X5_put hy_X5_put ⟨by decide, by decide⟩ rfl (Nat.le_of_ble_eq_true rfl) ?_
          refine j_aload_n hK dX10_way_97 1 rfl rfl ?_
          refine j_getR hK fl_X10_19 dX10_way_98 zo_0 zf_10_1 zr_0_1 ?_
          refine j_pc (pc' := 101) rfl ?_
          refine j_iload hK dX10_way_101 4 rfl ?_
          refine j_iload hK dX10_way_103 0 rfl ?_
          obtain ⟨r7, S8, h9, hf⟩ := bd_J hf
          refine k_callVi hK (c_X0_acrossFrom h9) dX10_way_105 zclX0 zo_3 ml_X10_303 mi_X0_acrossFrom mx_X0_acrossFrom in_X0 mc_X0_acrossFrom hy_X0_acrossFrom ⟨by decide, by decide⟩ rfl (Nat.le_of_ble_eq_true rfl) ?_
          refine j_istore hK (L' := [(4, .int r7), (6, .int r1), (0, .ref 0), (2, .int x2), (3, .int x3), (5, .int v.2)]) dX10_way_108 (by decide) rfl ?_
          refine j_sub [2, 3, 4, 0, 5] rfl ?_
          exact t_X10_way_110 hK hA hk he hf)
def f_X10_way (p1 : Int32) (p2 : Int32) (S : St) : Option (Int32 × St) := bd (f_X10_isCavern p1 S) (fun r10 S11 => (if r10 = 0 then some ((-1 : Int32), S11) else bd (f_X10_isCavern p2 S11) (fun r13 S14 => (if r13 = 0 then some ((-1 : Int32), S14) else bd (f_X9_measure S14) (fun r16 S17 => bd (f_X9_farOf p1 p2 S17) (fun r19 S20 => (if r19 = (1000 : Int32) then some ((-2 : Int32), S20) else bd (f_X5_begin S20) (fun r22 S23 => lp (f_X10_way_56b p2 r19 (fun v25 S26 => some (r19, S26))) FU (p1, (0 : Int32)) S23))))))))
theorem c_X10_way {p1 : Int32} {p2 : Int32} {S : St} {r : Int32} {S' : St} (hf : f_X10_way p1 p2 S = some (r, S')) : zM yX10_way cX10_way 7 3 (some .int) [.ref 0, .int p1, .int p2] S (some (.int r)) S' := by
  refine zM_of (zpl (by decide)) (Nat.le_of_ble_eq_true rfl) rfl (fun K hK hA => ?_)
  unfold f_X10_way at hf
  refine j_iload_n hK dX10_way_0 1 rfl rfl ?_
  obtain ⟨r10, S11, h12, hf⟩ := bd_J hf
  refine k_callSi hK (c_X10_isCavern h12) dX10_way_1 ml_X10_147 ms_X10_isCavern in_X10 mc_X10_isCavern hy_X10_isCavern ⟨by decide, by decide⟩ rfl (Nat.le_of_ble_eq_true rfl) ?_
  refine j_if_eq hK 14 dX10_way_4 (by decide) (fun hc => ?_) (fun hc => ?_)
  · replace hf := if_1 hc hf
    refine j_iconst hK (-1 : Int32) dX10_way_14 ic_m1 ?_
    exact j_iret hK dX10_way_15 rfl (rt_I hA hf)
  · replace hf := if_2 hc hf
    refine j_iload_n hK dX10_way_7 2 rfl rfl ?_
    obtain ⟨r13, S14, h15, hf⟩ := bd_J hf
    refine k_callSi hK (c_X10_isCavern h15) dX10_way_8 ml_X10_147 ms_X10_isCavern in_X10 mc_X10_isCavern hy_X10_isCavern ⟨by decide, by decide⟩ rfl (Nat.le_of_ble_eq_true rfl) ?_
    refine j_if_ne hK 16 dX10_way_11 (by decide) (fun hc => ?_) (fun hc => ?_)
    · replace hf := if_2 hc hf
      refine j_aload_n hK dX10_way_16 0 rfl rfl ?_
      refine j_getR hK fl_X10_49 dX10_way_17 zo_0 zf_10_5 zr_0_5 ?_
      obtain ⟨r16, S17, h18, hf⟩ := bd_J hf
      refine k_callVv hK (c_X9_measure h18) dX10_way_20 zclX9 zo_98 ml_X10_153 mi_X9_measure mx_X9_measure in_X9 mc_X9_measure hy_X9_measure ⟨by decide, by decide⟩ rfl (Nat.le_of_ble_eq_true rfl) ?_
      refine j_aload_n hK dX10_way_23 0 rfl rfl ?_
      refine j_getR hK fl_X10_49 dX10_way_24 zo_0 zf_10_5 zr_0_5 ?_
      refine j_iload_n hK dX10_way_27 1 rfl rfl ?_
      refine j_iload_n hK dX10_way_28 2 rfl rfl ?_
      refine j_pc (pc' := 29) rfl ?_
      obtain ⟨r19, S20, h21, hf⟩ := bd_J hf
      refine k_callVi hK (c_X9_farOf h21) dX10_way_29 zclX9 zo_98 ml_X10_297 mi_X9_farOf mx_X9_farOf in_X9 mc_X9_farOf hy_X9_farOf ⟨by decide, by decide⟩ rfl (Nat.le_of_ble_eq_true rfl) ?_
      refine j_istore_n hK (L' := [(3, .int r19), (0, .ref 0), (1, .int p1), (2, .int p2)]) dX10_way_32 rfl (by decide) rfl ?_
      refine j_iload_n hK dX10_way_33 0 rfl rfl ?_
      refine j_sipush hK (1000 : Int32) dX10_way_34 si_1000 ?_
      refine j_icmp_ne hK 43 dX10_way_37 (by decide) (fun hc => ?_) (fun hc => ?_)
      · replace hf := if_2 hc hf
        refine j_aload_n hK dX10_way_43 1 rfl rfl ?_
        refine j_getR hK fl_X10_26 dX10_way_44 zo_0 zf_10_2 zr_0_2 ?_
        obtain ⟨r22, S23, h24, hf⟩ := bd_J hf
        refine k_callVv hK (c_X5_begin h24) dX10_way_47 zclX5 zo_10 ml_X10_185 mi_X5_begin mx_X5_begin in_X5 mc_X5_begin hy_X5_begin ⟨by decide, by decide⟩ rfl (Nat.le_of_ble_eq_true rfl) ?_
        refine j_iload_n hK dX10_way_50 2 rfl rfl ?_
        refine j_istore hK (L' := [(4, .int p1), (3, .int r19), (0, .ref 0), (1, .int p1), (2, .int p2)]) dX10_way_51 (by decide) rfl ?_
        refine j_iconst hK (0 : Int32) dX10_way_53 ic_0 ?_
        refine j_istore hK (L' := [(5, .int (0 : Int32)), (4, .int p1), (3, .int r19), (0, .ref 0), (1, .int p1), (2, .int p2)]) dX10_way_54 (by decide) rfl ?_
        refine j_sub [3, 5, 2, 1, 0] rfl ?_
        refine t_X10_way_56 hK hA  (fun v25 S26 hf => ?_) _ _ _ hf
        refine j_iload_n hK dX10_way_116 0 rfl rfl ?_
        exact j_iret hK dX10_way_117 rfl (rt_I hA hf)
      · replace hf := if_1 hc hf
        refine j_bipush hK (-2 : Int32) dX10_way_40 bi_m2 ?_
        exact j_iret hK dX10_way_42 rfl (rt_I hA hf)
    · replace hf := if_1 hc hf
      refine j_iconst hK (-1 : Int32) dX10_way_14 ic_m1 ?_
      exact j_iret hK dX10_way_15 rfl (rt_I hA hf)
def f_X9_laterOf (p1 : Int32) (p2 : Int32) (p3 : Int32) (S : St) : Option (Int32 × St) := bd (f_X9_farOf p1 p3 S) (fun r1 S2 => bd (f_X9_farOf p2 p3 S2) (fun r4 S5 => some ((mxI r1 r4), S5)))
theorem c_X9_laterOf {p1 : Int32} {p2 : Int32} {p3 : Int32} {S : St} {r : Int32} {S' : St} (hf : f_X9_laterOf p1 p2 p3 S = some (r, S')) : zM yX9_laterOf cX9_laterOf 4 2 (some .int) [.ref 98, .int p1, .int p2, .int p3] S (some (.int r)) S' := by
  refine zM_of (zpl (by decide)) (Nat.le_of_ble_eq_true rfl) rfl (fun K hK hA => ?_)
  unfold f_X9_laterOf at hf
  refine j_aload_n hK dX9_laterOf_0 0 rfl rfl ?_
  refine j_iload_n hK dX9_laterOf_1 1 rfl rfl ?_
  refine j_iload_n hK dX9_laterOf_2 3 rfl rfl ?_
  obtain ⟨r1, S2, h3, hf⟩ := bd_J hf
  refine k_callVi hK (c_X9_farOf h3) dX9_laterOf_3 zclX9 zo_98 ml_X9_51 mi_X9_farOf mx_X9_farOf in_X9 mc_X9_farOf hy_X9_farOf ⟨by decide, by decide⟩ rfl (Nat.le_of_ble_eq_true rfl) ?_
  refine j_aload_n hK dX9_laterOf_6 0 rfl rfl ?_
  refine j_iload_n hK dX9_laterOf_7 2 rfl rfl ?_
  refine j_iload_n hK dX9_laterOf_8 3 rfl rfl ?_
  obtain ⟨r4, S5, h6, hf⟩ := bd_J hf
  refine k_callVi hK (c_X9_farOf h6) dX9_laterOf_9 zclX9 zo_98 ml_X9_51 mi_X9_farOf mx_X9_farOf in_X9 mc_X9_farOf hy_X9_farOf ⟨by decide, by decide⟩ rfl (Nat.le_of_ble_eq_true rfl) ?_
  refine j_pc (pc' := 12) rfl ?_
  refine j_max hK ml_X9_60 dX9_laterOf_12 (by decide) (Nat.le_of_ble_eq_true rfl) ?_
  exact j_iret hK dX9_laterOf_15 rfl (rt_I hA hf)
def f_X10_meets_80 (x1 : Int32) (x2 : Int32) (x3 : Int32) (x4 : Int32) (k e : Int32 × Int32 → St → Option (Int32 × St)) (S : St) : Option (Int32 × St) := k (x3, (x4 + (1 : Int32))) S
theorem t_X10_meets_80 {K : CT} (hK : KO K cX10_meets RX10 5 3 (some .int)) {r : Int32} {S' : St} (hA : zans K (some (.int r), S')) {x1 : Int32} {x2 : Int32} {x3 : Int32} {x4 : Int32} {k e : Int32 × Int32 → St → Option (Int32 × St)} (hk : ∀ (v : Int32 × Int32) (S : St), k v S = some (r, S') → J K 46 [(0, .ref 0), (1, .int x1), (2, .int x2), (3, .int v.1), (4, .int v.2)] [] S) (he : ∀ (v : Int32 × Int32) (S : St), e v S = some (r, S') → J K 86 [(0, .ref 0), (1, .int x1), (2, .int x2), (3, .int v.1)] [] S) {S : St} (hf : f_X10_meets_80 x1 x2 x3 x4 k e S = some (r, S')) : J K 80 [(0, .ref 0), (1, .int x1), (2, .int x2), (3, .int x3), (4, .int x4)] [] S := by
  unfold f_X10_meets_80 at hf
  refine j_iinc hK (L' := [(4, .int (x4 + (1 : Int32))), (0, .ref 0), (1, .int x1), (2, .int x2), (3, .int x3)]) dX10_meets_80 4 rfl (congrArg (fun y => x4 + y) ic_1) (by decide) rfl ?_
  refine j_goto hK 46 dX10_meets_83 (by decide) ?_
  refine j_sub [1, 2, 3, 4, 0] rfl ?_
  exact hk _ _ hf
def f_X10_meets_46b (x1 : Int32) (x2 : Int32) (e : Int32 × Int32 → St → Option (Int32 × St)) (k : Int32 × Int32 → St → Option (Int32 × St)) (v : Int32 × Int32) (S : St) : Option (Int32 × St) := (if (8 : Int32) ≤ v.2 then e (v.1, v.2) S else bd (f_X9_laterOf x1 x2 v.2 S) (fun r1 S2 => bd (f_X9_laterOf x1 x2 v.1 S2) (fun r4 S5 => (if r4 ≤ r1 then f_X10_meets_80 x1 x2 v.1 v.2 k e S5 else f_X10_meets_80 x1 x2 v.2 v.2 k e S5))))
theorem t_X10_meets_46 {K : CT} (hK : KO K cX10_meets RX10 5 3 (some .int)) {r : Int32} {S' : St} (hA : zans K (some (.int r), S')) {x1 : Int32} {x2 : Int32} {e : Int32 × Int32 → St → Option (Int32 × St)} (he : ∀ (v : Int32 × Int32) (S : St), e v S = some (r, S') → J K 86 [(0, .ref 0), (1, .int x1), (2, .int x2), (3, .int v.1)] [] S) : ∀ (n : Nat) (v : Int32 × Int32) (S : St), lp (f_X10_meets_46b x1 x2 e) n v S = some (r, S') → J K 46 [(0, .ref 0), (1, .int x1), (2, .int x2), (3, .int v.1), (4, .int v.2)] [] S :=
  lp_J (P := fun (v : Int32 × Int32) (S : St) => J K 46 [(0, .ref 0), (1, .int x1), (2, .int x2), (3, .int v.1), (4, .int v.2)] [] S) (fun k hk v S hf => by
    unfold f_X10_meets_46b at hf
    refine j_iload hK dX10_meets_46 4 rfl ?_
    refine j_bipush hK (8 : Int32) dX10_meets_48 bi_8 ?_
    refine j_icmp_ge hK 86 dX10_meets_50 (by decide) (fun hc => ?_) (fun hc => ?_)
    · replace hf := if_1 hc hf
      refine j_sub [0, 1, 2, 3] rfl ?_
      exact he _ _ hf
    · replace hf := if_2 hc hf
      refine j_aload_n hK dX10_meets_53 0 rfl rfl ?_
      refine j_getR hK fl_X10_49 dX10_meets_54 zo_0 zf_10_5 zr_0_5 ?_
      refine j_iload_n hK dX10_meets_57 1 rfl rfl ?_
      refine j_iload_n hK dX10_meets_58 2 rfl rfl ?_
      refine j_iload hK dX10_meets_59 4 rfl ?_
      obtain ⟨r1, S2, h3, hf⟩ := bd_J hf
      refine k_callVi hK (c_X9_laterOf h3) dX10_meets_61 zclX9 zo_98 ml_X10_306 mi_X9_laterOf mx_X9_laterOf in_X9 mc_X9_laterOf hy_X9_laterOf ⟨by decide, by decide⟩ rfl (Nat.le_of_ble_eq_true rfl) ?_
      refine j_aload_n hK dX10_meets_64 0 rfl rfl ?_
      refine j_pc (pc' := 65) rfl ?_
      refine j_getR hK fl_X10_49 dX10_meets_65 zo_0 zf_10_5 zr_0_5 ?_
      refine j_iload_n hK dX10_meets_68 1 rfl rfl ?_
      refine j_iload_n hK dX10_meets_69 2 rfl rfl ?_
      refine j_iload_n hK dX10_meets_70 3 rfl rfl ?_
      obtain ⟨r4, S5, h6, hf⟩ := bd_J hf
      refine k_callVi hK (c_X9_laterOf h6) dX10_meets_71 zclX9 zo_98 ml_X10_306 mi_X9_laterOf mx_X9_laterOf in_X9 mc_X9_laterOf hy_X9_laterOf ⟨by decide, by decide⟩ rfl (Nat.le_of_ble_eq_true rfl) ?_
      refine j_icmp_ge hK 80 dX10_meets_74 (by decide) (fun hc => ?_) (fun hc => ?_)
      · replace hf := if_1 hc hf
        exact t_X10_meets_80 hK hA hk he hf
      · replace hf := if_2 hc hf
        refine j_iload hK dX10_meets_77 4 rfl ?_
        refine j_istore_n hK (L' := [(3, .int v.2), (0, .ref 0), (1, .int x1), (2, .int x2), (4, .int v.2)]) dX10_meets_79 rfl (by decide) rfl ?_
        refine j_sub [1, 2, 3, 0, 4] rfl ?_
        exact t_X10_meets_80 hK hA hk he hf)
def f_X10_meets (p1 : Int32) (p2 : Int32) (S : St) : Option (Int32 × St) := bd (f_X10_isCavern p1 S) (fun r7 S8 => (if r7 = 0 then some ((-1 : Int32), S8) else bd (f_X10_isCavern p2 S8) (fun r10 S11 => (if r10 = 0 then some ((-1 : Int32), S11) else bd (f_X9_measure S11) (fun r13 S14 => bd (f_X9_farOf p1 p2 S14) (fun r16 S17 => (if r16 = (1000 : Int32) then some ((-2 : Int32), S17) else lp (f_X10_meets_46b p1 p2 (fun v19 S20 => bd (f_X5_begin S20) (fun r21 S22 => bd (f_X9_farOf p1 v19.1 S22) (fun r24 S25 => bd (f_X5_put r24.toInt64 S25) (fun r27 S28 => bd (f_X9_farOf p2 v19.1 S28) (fun r30 S31 => bd (f_X5_put r30.toInt64 S31) (fun r33 S34 => some (v19.1, S34)))))))) FU ((0 : Int32), (1 : Int32)) S17)))))))
theorem c_X10_meets {p1 : Int32} {p2 : Int32} {S : St} {r : Int32} {S' : St} (hf : f_X10_meets p1 p2 S = some (r, S')) : zM yX10_meets cX10_meets 5 3 (some .int) [.ref 0, .int p1, .int p2] S (some (.int r)) S' := by
  refine zM_of (zpl (by decide)) (Nat.le_of_ble_eq_true rfl) rfl (fun K hK hA => ?_)
  unfold f_X10_meets at hf
  refine j_iload_n hK dX10_meets_0 1 rfl rfl ?_
  obtain ⟨r7, S8, h9, hf⟩ := bd_J hf
  refine k_callSi hK (c_X10_isCavern h9) dX10_meets_1 ml_X10_147 ms_X10_isCavern in_X10 mc_X10_isCavern hy_X10_isCavern ⟨by decide, by decide⟩ rfl (Nat.le_of_ble_eq_true rfl) ?_
  refine j_if_eq hK 14 dX10_meets_4 (by decide) (fun hc => ?_) (fun hc => ?_)
  · replace hf := if_1 hc hf
    refine j_iconst hK (-1 : Int32) dX10_meets_14 ic_m1 ?_
    exact j_iret hK dX10_meets_15 rfl (rt_I hA hf)
  · replace hf := if_2 hc hf
    refine j_iload_n hK dX10_meets_7 2 rfl rfl ?_
    obtain ⟨r10, S11, h12, hf⟩ := bd_J hf
    refine k_callSi hK (c_X10_isCavern h12) dX10_meets_8 ml_X10_147 ms_X10_isCavern in_X10 mc_X10_isCavern hy_X10_isCavern ⟨by decide, by decide⟩ rfl (Nat.le_of_ble_eq_true rfl) ?_
    refine j_if_ne hK 16 dX10_meets_11 (by decide) (fun hc => ?_) (fun hc => ?_)
    · replace hf := if_2 hc hf
      refine j_aload_n hK dX10_meets_16 0 rfl rfl ?_
      refine j_getR hK fl_X10_49 dX10_meets_17 zo_0 zf_10_5 zr_0_5 ?_
      obtain ⟨r13, S14, h15, hf⟩ := bd_J hf
      refine k_callVv hK (c_X9_measure h15) dX10_meets_20 zclX9 zo_98 ml_X10_153 mi_X9_measure mx_X9_measure in_X9 mc_X9_measure hy_X9_measure ⟨by decide, by decide⟩ rfl (Nat.le_of_ble_eq_true rfl) ?_
      refine j_aload_n hK dX10_meets_23 0 rfl rfl ?_
      refine j_getR hK fl_X10_49 dX10_meets_24 zo_0 zf_10_5 zr_0_5 ?_
      refine j_iload_n hK dX10_meets_27 1 rfl rfl ?_
      refine j_iload_n hK dX10_meets_28 2 rfl rfl ?_
      refine j_pc (pc' := 29) rfl ?_
      obtain ⟨r16, S17, h18, hf⟩ := bd_J hf
      refine k_callVi hK (c_X9_farOf h18) dX10_meets_29 zclX9 zo_98 ml_X10_297 mi_X9_farOf mx_X9_farOf in_X9 mc_X9_farOf hy_X9_farOf ⟨by decide, by decide⟩ rfl (Nat.le_of_ble_eq_true rfl) ?_
      refine j_sipush hK (1000 : Int32) dX10_meets_32 si_1000 ?_
      refine j_icmp_ne hK 41 dX10_meets_35 (by decide) (fun hc => ?_) (fun hc => ?_)
      · replace hf := if_2 hc hf
        refine j_iconst hK (0 : Int32) dX10_meets_41 ic_0 ?_
        refine j_istore_n hK (L' := [(3, .int (0 : Int32)), (0, .ref 0), (1, .int p1), (2, .int p2)]) dX10_meets_42 rfl (by decide) rfl ?_
        refine j_iconst hK (1 : Int32) dX10_meets_43 ic_1 ?_
        refine j_istore hK (L' := [(4, .int (1 : Int32)), (3, .int (0 : Int32)), (0, .ref 0), (1, .int p1), (2, .int p2)]) dX10_meets_44 (by decide) rfl ?_
        refine j_sub [2, 3, 4, 1, 0] rfl ?_
        refine t_X10_meets_46 hK hA  (fun v19 S20 hf => ?_) _ _ _ hf
        refine j_aload_n hK dX10_meets_86 0 rfl rfl ?_
        refine j_getR hK fl_X10_26 dX10_meets_87 zo_0 zf_10_2 zr_0_2 ?_
        obtain ⟨r21, S22, h23, hf⟩ := bd_J hf
        refine k_callVv hK (c_X5_begin h23) dX10_meets_90 zclX5 zo_10 ml_X10_185 mi_X5_begin mx_X5_begin in_X5 mc_X5_begin hy_X5_begin ⟨by decide, by decide⟩ rfl (Nat.le_of_ble_eq_true rfl) ?_
        refine j_aload_n hK dX10_meets_93 0 rfl rfl ?_
        refine j_getR hK fl_X10_26 dX10_meets_94 zo_0 zf_10_2 zr_0_2 ?_
        refine j_aload_n hK dX10_meets_97 0 rfl rfl ?_
        refine j_getR hK fl_X10_49 dX10_meets_98 zo_0 zf_10_5 zr_0_5 ?_
        refine j_pc (pc' := 101) rfl ?_
        refine j_iload_n hK dX10_meets_101 1 rfl rfl ?_
        refine j_iload_n hK dX10_meets_102 3 rfl rfl ?_
        obtain ⟨r24, S25, h26, hf⟩ := bd_J hf
        refine k_callVi hK (c_X9_farOf h26) dX10_meets_103 zclX9 zo_98 ml_X10_297 mi_X9_farOf mx_X9_farOf in_X9 mc_X9_farOf hy_X9_farOf ⟨by decide, by decide⟩ rfl (Nat.le_of_ble_eq_true rfl) ?_
        refine j_i2l hK dX10_meets_106 ?_
        obtain ⟨r27, S28, h29, hf⟩ := bd_J hf
        refine k_callVv hK (c_X5_put h29) dX10_meets_107 zclX5 zo_10 ml_X10_191 mi_X5_put mx_X5_put in_X5 mc_X5_put hy_X5_put ⟨by decide, by decide⟩ rfl (Nat.le_of_ble_eq_true rfl) ?_
        refine j_aload_n hK dX10_meets_110 0 rfl rfl ?_
        refine j_getR hK fl_X10_26 dX10_meets_111 zo_0 zf_10_2 zr_0_2 ?_
        refine j_aload_n hK dX10_meets_114 0 rfl rfl ?_
        refine j_pc (pc' := 115) rfl ?_
        refine j_getR hK fl_X10_49 dX10_meets_115 zo_0 zf_10_5 zr_0_5 ?_
        refine j_iload_n hK dX10_meets_118 2 rfl rfl ?_
        refine j_iload_n hK dX10_meets_119 3 rfl rfl ?_
        obtain ⟨r30, S31, h32, hf⟩ := bd_J hf
        refine k_callVi hK (c_X9_farOf h32) dX10_meets_120 zclX9 zo_98 ml_X10_297 mi_X9_farOf mx_X9_farOf in_X9 mc_X9_farOf hy_X9_farOf ⟨by decide, by decide⟩ rfl (Nat.le_of_ble_eq_true rfl) ?_
        refine j_i2l hK dX10_meets_123 ?_
        obtain ⟨r33, S34, h35, hf⟩ := bd_J hf
        refine k_callVv hK (c_X5_put h35) dX10_meets_124 zclX5 zo_10 ml_X10_191 mi_X5_put mx_X5_put in_X5 mc_X5_put hy_X5_put ⟨by decide, by decide⟩ rfl (Nat.le_of_ble_eq_true rfl) ?_
        refine j_iload_n hK dX10_meets_127 3 rfl rfl ?_
        exact j_iret hK dX10_meets_128 rfl (rt_I hA hf)
      · replace hf := if_1 hc hf
        refine j_bipush hK (-2 : Int32) dX10_meets_38 bi_m2 ?_
        exact j_iret hK dX10_meets_40 rfl (rt_I hA hf)
    · replace hf := if_1 hc hf
      refine j_iconst hK (-1 : Int32) dX10_meets_14 ic_m1 ?_
      exact j_iret hK dX10_meets_15 rfl (rt_I hA hf)
def f_X10_joinedCount (p1 : Int32) (S : St) : Option (Int32 × St) := bd (f_X9_joinedTo p1 S) (fun r1 S2 => bd (f_J6_bitCount_0f7a4 r1 S2) (fun r4 S5 => some (r4, S5)))
theorem c_X10_joinedCount {p1 : Int32} {S : St} {r : Int32} {S' : St} (hf : f_X10_joinedCount p1 S = some (r, S')) : zM yX10_joinedCount cX10_joinedCount 2 3 (some .int) [.ref 0, .int p1] S (some (.int r)) S' := by
  refine zM_of (zpl (by decide)) (Nat.le_of_ble_eq_true rfl) rfl (fun K hK hA => ?_)
  unfold f_X10_joinedCount at hf
  refine j_aload_n hK dX10_joinedCount_0 0 rfl rfl ?_
  refine j_getR hK fl_X10_49 dX10_joinedCount_1 zo_0 zf_10_5 zr_0_5 ?_
  refine j_iload_n hK dX10_joinedCount_4 1 rfl rfl ?_
  obtain ⟨r1, S2, h3, hf⟩ := bd_J hf
  refine k_callVi hK (c_X9_joinedTo h3) dX10_joinedCount_5 zclX9 zo_98 ml_X10_156 mi_X9_joinedTo mx_X9_joinedTo in_X9 mc_X9_joinedTo hy_X9_joinedTo ⟨by decide, by decide⟩ rfl (Nat.le_of_ble_eq_true rfl) ?_
  obtain ⟨r4, S5, h6, hf⟩ := bd_J hf
  refine k_callSi hK (c_J6_bitCount_0f7a4 h6) dX10_joinedCount_8 ml_X10_263 ms_J6_bitCount_0f7a4 in_J6 mc_J6_bitCount_0f7a4 hy_J6_bitCount_0f7a4 ⟨by decide, by decide⟩ rfl (Nat.le_of_ble_eq_true rfl) ?_
  exact j_iret hK dX10_joinedCount_11 rfl (rt_I hA hf)
def f_X10_heart_74 (x1 : Int32) (x2 : Int32) (k e : Int32 × Int32 → St → Option (Int32 × St)) (S : St) : Option (Int32 × St) := k (x1, (x2 + (1 : Int32))) S
theorem t_X10_heart_74 {K : CT} (hK : KO K cX10_heart RX10 4 4 (some .int)) {r : Int32} {S' : St} (hA : zans K (some (.int r), S')) {x1 : Int32} {x2 : Int32} {k e : Int32 × Int32 → St → Option (Int32 × St)} (hk : ∀ (v : Int32 × Int32) (S : St), k v S = some (r, S') → J K 27 [(0, .ref 0), (1, .int v.1), (2, .int v.2)] [] S) (he : ∀ (v : Int32 × Int32) (S : St), e v S = some (r, S') → J K 80 [(0, .ref 0), (1, .int v.1)] [] S) {S : St} (hf : f_X10_heart_74 x1 x2 k e S = some (r, S')) : J K 74 [(0, .ref 0), (1, .int x1), (2, .int x2)] [] S := by
  unfold f_X10_heart_74 at hf
  refine j_iinc hK (L' := [(2, .int (x2 + (1 : Int32))), (0, .ref 0), (1, .int x1)]) dX10_heart_74 2 rfl (congrArg (fun y => x2 + y) ic_1) (by decide) rfl ?_
  refine j_goto hK 27 dX10_heart_77 (by decide) ?_
  refine j_sub [1, 2, 0] rfl ?_
  exact hk _ _ hf
def f_X10_heart_72 (x2 : Int32) (k e : Int32 × Int32 → St → Option (Int32 × St)) (S : St) : Option (Int32 × St) := f_X10_heart_74 x2 x2 k e S
theorem t_X10_heart_72 {K : CT} (hK : KO K cX10_heart RX10 4 4 (some .int)) {r : Int32} {S' : St} (hA : zans K (some (.int r), S')) {x2 : Int32} {k e : Int32 × Int32 → St → Option (Int32 × St)} (hk : ∀ (v : Int32 × Int32) (S : St), k v S = some (r, S') → J K 27 [(0, .ref 0), (1, .int v.1), (2, .int v.2)] [] S) (he : ∀ (v : Int32 × Int32) (S : St), e v S = some (r, S') → J K 80 [(0, .ref 0), (1, .int v.1)] [] S) {S : St} (hf : f_X10_heart_72 x2 k e S = some (r, S')) : J K 72 [(0, .ref 0), (2, .int x2)] [] S := by
  unfold f_X10_heart_72 at hf
  refine j_iload_n hK dX10_heart_72 1 rfl rfl ?_
  refine j_istore_n hK (L' := [(1, .int x2), (0, .ref 0), (2, .int x2)]) dX10_heart_73 rfl (by decide) rfl ?_
  refine j_sub [1, 0, 2] rfl ?_
  exact t_X10_heart_74 hK hA hk he hf
def f_X10_heart_27b (e : Int32 × Int32 → St → Option (Int32 × St)) (k : Int32 × Int32 → St → Option (Int32 × St)) (v : Int32 × Int32) (S : St) : Option (Int32 × St) := (if (8 : Int32) ≤ v.2 then e (v.1, v.2) S else bd (f_X10_joinedCount v.2 S) (fun r1 S2 => bd (f_X10_joinedCount v.1 S2) (fun r4 S5 => lt (r1 - r4) (fun y7 => (if 0 < y7 then f_X10_heart_72 v.2 k e S5 else (if y7 = 0 then bd (f_X9_farthestOf v.2 S5) (fun r8 S9 => bd (f_X9_farthestOf v.1 S9) (fun r11 S12 => (if r11 ≤ r8 then f_X10_heart_74 v.1 v.2 k e S12 else f_X10_heart_72 v.2 k e S12))) else f_X10_heart_74 v.1 v.2 k e S5))))))
theorem t_X10_heart_27 {K : CT} (hK : KO K cX10_heart RX10 4 4 (some .int)) {r : Int32} {S' : St} (hA : zans K (some (.int r), S')) {e : Int32 × Int32 → St → Option (Int32 × St)} (he : ∀ (v : Int32 × Int32) (S : St), e v S = some (r, S') → J K 80 [(0, .ref 0), (1, .int v.1)] [] S) : ∀ (n : Nat) (v : Int32 × Int32) (S : St), lp (f_X10_heart_27b  e) n v S = some (r, S') → J K 27 [(0, .ref 0), (1, .int v.1), (2, .int v.2)] [] S :=
  lp_J (P := fun (v : Int32 × Int32) (S : St) => J K 27 [(0, .ref 0), (1, .int v.1), (2, .int v.2)] [] S) (fun k hk v S hf => by
    unfold f_X10_heart_27b at hf
    refine j_iload_n hK dX10_heart_27 2 rfl rfl ?_
    refine j_bipush hK (8 : Int32) dX10_heart_28 bi_8 ?_
    refine j_icmp_ge hK 80 dX10_heart_30 (by decide) (fun hc => ?_) (fun hc => ?_)
    · replace hf := if_1 hc hf
      refine j_sub [0, 1] rfl ?_
      exact he _ _ hf
    · replace hf := if_2 hc hf
      refine j_aload_n hK dX10_heart_33 0 rfl rfl ?_
      refine j_iload_n hK dX10_heart_34 2 rfl rfl ?_
      obtain ⟨r1, S2, h3, hf⟩ := bd_J hf
      refine k_callVi hK (c_X10_joinedCount h3) dX10_heart_35 zclX10 zo_0 ml_X10_309 mi_X10_joinedCount mx_X10_joinedCount in_X10 mc_X10_joinedCount hy_X10_joinedCount ⟨by decide, by decide⟩ rfl (Nat.le_of_ble_eq_true rfl) ?_
      refine j_aload_n hK dX10_heart_38 0 rfl rfl ?_
      refine j_iload_n hK dX10_heart_39 1 rfl rfl ?_
      obtain ⟨r4, S5, h6, hf⟩ := bd_J hf
      refine k_callVi hK (c_X10_joinedCount h6) dX10_heart_40 zclX10 zo_0 ml_X10_309 mi_X10_joinedCount mx_X10_joinedCount in_X10 mc_X10_joinedCount hy_X10_joinedCount ⟨by decide, by decide⟩ rfl (Nat.le_of_ble_eq_true rfl) ?_
      refine j_isub hK dX10_heart_43 ?_
      refine j_pc (pc' := 44) rfl ?_
      refine lt_I hf (fun y7 hf => ?_)
      refine j_istore_n hK (L' := [(3, .int y7), (0, .ref 0), (1, .int v.1), (2, .int v.2)]) dX10_heart_44 rfl (by decide) rfl ?_
      refine j_iload_n hK dX10_heart_45 0 rfl rfl ?_
      refine j_if_gt hK 72 dX10_heart_46 (by decide) (fun hc => ?_) (fun hc => ?_)
      · replace hf := if_1 hc hf
        refine j_sub [1, 3] rfl ?_
        exact t_X10_heart_72 hK hA hk he hf
      · replace hf := if_2 hc hf
        refine j_iload_n hK dX10_heart_49 0 rfl rfl ?_
        refine j_if_ne hK 74 dX10_heart_50 (by decide) (fun hc => ?_) (fun hc => ?_)
        · replace hf := if_2 hc hf
          refine j_sub [1, 2, 3] rfl ?_
          exact t_X10_heart_74 hK hA hk he hf
        · replace hf := if_1 hc hf
          refine j_aload_n hK dX10_heart_53 1 rfl rfl ?_
          refine j_getR hK fl_X10_49 dX10_heart_54 zo_0 zf_10_5 zr_0_5 ?_
          refine j_iload_n hK dX10_heart_57 3 rfl rfl ?_
          obtain ⟨r8, S9, h10, hf⟩ := bd_J hf
          refine k_callVi hK (c_X9_farthestOf h10) dX10_heart_58 zclX9 zo_98 ml_X10_159 mi_X9_farthestOf mx_X9_farthestOf in_X9 mc_X9_farthestOf hy_X9_farthestOf ⟨by decide, by decide⟩ rfl (Nat.le_of_ble_eq_true rfl) ?_
          refine j_aload_n hK dX10_heart_61 1 rfl rfl ?_
          refine j_getR hK fl_X10_49 dX10_heart_62 zo_0 zf_10_5 zr_0_5 ?_
          refine j_iload_n hK dX10_heart_65 2 rfl rfl ?_
          refine j_pc (pc' := 66) rfl ?_
          obtain ⟨r11, S12, h13, hf⟩ := bd_J hf
          refine k_callVi hK (c_X9_farthestOf h13) dX10_heart_66 zclX9 zo_98 ml_X10_159 mi_X9_farthestOf mx_X9_farthestOf in_X9 mc_X9_farthestOf hy_X9_farthestOf ⟨by decide, by decide⟩ rfl (Nat.le_of_ble_eq_true rfl) ?_
          refine j_icmp_ge hK 74 dX10_heart_69 (by decide) (fun hc => ?_) (fun hc => ?_)
          · replace hf := if_1 hc hf
            refine j_sub [1, 2, 3] rfl ?_
            exact t_X10_heart_74 hK hA hk he hf
          · replace hf := if_2 hc hf
            refine j_sub [1, 3] rfl ?_
            exact t_X10_heart_72 hK hA hk he hf)
def f_X10_heart (S : St) : Option (Int32 × St) := (if (gI S 6 3) = 0 then some ((-2 : Int32), S) else bd (f_X9_measure S) (fun r14 S15 => lp (f_X10_heart_27b  (fun v17 S18 => bd (f_X5_begin S18) (fun r19 S20 => bd (f_X9_farthestOf v17.1 S20) (fun r22 S23 => bd (f_X5_put r22.toInt64 S23) (fun r25 S26 => bd (f_X10_joinedCount v17.1 S26) (fun r28 S29 => bd (f_X5_put r28.toInt64 S29) (fun r31 S32 => some (v17.1, S32)))))))) FU ((0 : Int32), (1 : Int32)) S15))
theorem c_X10_heart {S : St} {r : Int32} {S' : St} (hf : f_X10_heart S = some (r, S')) : zM yX10_heart cX10_heart 4 4 (some .int) [.ref 0] S (some (.int r)) S' := by
  refine zM_of (zpl (by decide)) (Nat.le_of_ble_eq_true rfl) rfl (fun K hK hA => ?_)
  unfold f_X10_heart at hf
  refine j_aload_n hK dX10_heart_0 0 rfl rfl ?_
  refine j_getR hK fl_X10_19 dX10_heart_1 zo_0 zf_10_1 zr_0_1 ?_
  refine j_getR hK fl_X10_129 dX10_heart_4 zo_3 zf_0_3 zr_3_3 ?_
  refine j_getI hK fl_X10_260 dX10_heart_7 zo_6 zf_7_3 ?_
  refine j_if_ne hK 16 dX10_heart_10 (by decide) (fun hc => ?_) (fun hc => ?_)
  · replace hf := if_2 hc hf
    refine j_aload_n hK dX10_heart_16 0 rfl rfl ?_
    refine j_getR hK fl_X10_49 dX10_heart_17 zo_0 zf_10_5 zr_0_5 ?_
    obtain ⟨r14, S15, h16, hf⟩ := bd_J hf
    refine k_callVv hK (c_X9_measure h16) dX10_heart_20 zclX9 zo_98 ml_X10_153 mi_X9_measure mx_X9_measure in_X9 mc_X9_measure hy_X9_measure ⟨by decide, by decide⟩ rfl (Nat.le_of_ble_eq_true rfl) ?_
    refine j_iconst hK (0 : Int32) dX10_heart_23 ic_0 ?_
    refine j_istore_n hK (L' := [(1, .int (0 : Int32)), (0, .ref 0)]) dX10_heart_24 rfl (by decide) rfl ?_
    refine j_iconst hK (1 : Int32) dX10_heart_25 ic_1 ?_
    refine j_istore_n hK (L' := [(2, .int (1 : Int32)), (1, .int (0 : Int32)), (0, .ref 0)]) dX10_heart_26 rfl (by decide) rfl ?_
    refine j_sub [2, 1, 0] rfl ?_
    refine t_X10_heart_27 hK hA  (fun v17 S18 hf => ?_) _ _ _ hf
    refine j_aload_n hK dX10_heart_80 0 rfl rfl ?_
    refine j_getR hK fl_X10_26 dX10_heart_81 zo_0 zf_10_2 zr_0_2 ?_
    obtain ⟨r19, S20, h21, hf⟩ := bd_J hf
    refine k_callVv hK (c_X5_begin h21) dX10_heart_84 zclX5 zo_10 ml_X10_185 mi_X5_begin mx_X5_begin in_X5 mc_X5_begin hy_X5_begin ⟨by decide, by decide⟩ rfl (Nat.le_of_ble_eq_true rfl) ?_
    refine j_aload_n hK dX10_heart_87 0 rfl rfl ?_
    refine j_getR hK fl_X10_26 dX10_heart_88 zo_0 zf_10_2 zr_0_2 ?_
    refine j_aload_n hK dX10_heart_91 0 rfl rfl ?_
    refine j_getR hK fl_X10_49 dX10_heart_92 zo_0 zf_10_5 zr_0_5 ?_
    refine j_pc (pc' := 95) rfl ?_
    refine j_iload_n hK dX10_heart_95 1 rfl rfl ?_
    obtain ⟨r22, S23, h24, hf⟩ := bd_J hf
    refine k_callVi hK (c_X9_farthestOf h24) dX10_heart_96 zclX9 zo_98 ml_X10_159 mi_X9_farthestOf mx_X9_farthestOf in_X9 mc_X9_farthestOf hy_X9_farthestOf ⟨by decide, by decide⟩ rfl (Nat.le_of_ble_eq_true rfl) ?_
    refine j_i2l hK dX10_heart_99 ?_
    obtain ⟨r25, S26, h27, hf⟩ := bd_J hf
    refine k_callVv hK (c_X5_put h27) dX10_heart_100 zclX5 zo_10 ml_X10_191 mi_X5_put mx_X5_put in_X5 mc_X5_put hy_X5_put ⟨by decide, by decide⟩ rfl (Nat.le_of_ble_eq_true rfl) ?_
    refine j_aload_n hK dX10_heart_103 0 rfl rfl ?_
    refine j_getR hK fl_X10_26 dX10_heart_104 zo_0 zf_10_2 zr_0_2 ?_
    refine j_aload_n hK dX10_heart_107 0 rfl rfl ?_
    refine j_iload_n hK dX10_heart_108 1 rfl rfl ?_
    refine j_pc (pc' := 109) rfl ?_
    obtain ⟨r28, S29, h30, hf⟩ := bd_J hf
    refine k_callVi hK (c_X10_joinedCount h30) dX10_heart_109 zclX10 zo_0 ml_X10_309 mi_X10_joinedCount mx_X10_joinedCount in_X10 mc_X10_joinedCount hy_X10_joinedCount ⟨by decide, by decide⟩ rfl (Nat.le_of_ble_eq_true rfl) ?_
    refine j_i2l hK dX10_heart_112 ?_
    obtain ⟨r31, S32, h33, hf⟩ := bd_J hf
    refine k_callVv hK (c_X5_put h33) dX10_heart_113 zclX5 zo_10 ml_X10_191 mi_X5_put mx_X5_put in_X5 mc_X5_put hy_X5_put ⟨by decide, by decide⟩ rfl (Nat.le_of_ble_eq_true rfl) ?_
    refine j_iload_n hK dX10_heart_116 1 rfl rfl ?_
    exact j_iret hK dX10_heart_117 rfl (rt_I hA hf)
  · replace hf := if_1 hc hf
    refine j_bipush hK (-2 : Int32) dX10_heart_13 bi_m2 ?_
    exact j_iret hK dX10_heart_15 rfl (rt_I hA hf)
def f_X0_endsOf (p1 : Int32) (S : St) : Option (Int32 × St) := if inb p1 12 then if inb p1 12 then lt (((1 : Int32) <<< ((gI S 4 p1.toNatClampNeg) &&& 31)) ||| ((1 : Int32) <<< ((gI S 5 p1.toNatClampNeg) &&& 31))) (fun y3 => some (y3, S)) else none else none
theorem c_X0_endsOf {p1 : Int32} {S : St} {r : Int32} {S' : St} (hf : f_X0_endsOf p1 S = some (r, S')) : zM yX0_endsOf cX0_endsOf 2 1 (some .int) [.ref 3, .int p1] S (some (.int r)) S' := by
  refine zM_of (zpl (by decide)) (Nat.le_of_ble_eq_true rfl) rfl (fun K hK hA => ?_)
  unfold f_X0_endsOf at hf
  refine j_iconst hK (1 : Int32) dX0_endsOf_0 ic_1 ?_
  refine j_aload_n hK dX0_endsOf_1 0 rfl rfl ?_
  refine j_getR hK fl_X0_9 dX0_endsOf_2 zo_3 zf_0_0 zr_3_0 ?_
  refine j_iload_n hK dX0_endsOf_5 1 rfl rfl ?_
  obtain ⟨hi1, hf⟩ := gd hf
  refine k_iald hK dX0_endsOf_6 zb_4 hi1 rfl ?_
  refine j_ishl hK dX0_endsOf_7 ?_
  refine j_iconst hK (1 : Int32) dX0_endsOf_8 ic_1 ?_
  refine j_aload_n hK dX0_endsOf_9 0 rfl rfl ?_
  refine j_pc (pc' := 10) rfl ?_
  refine j_getR hK fl_X0_15 dX0_endsOf_10 zo_3 zf_0_1 zr_3_1 ?_
  refine j_iload_n hK dX0_endsOf_13 1 rfl rfl ?_
  obtain ⟨hi2, hf⟩ := gd hf
  refine k_iald hK dX0_endsOf_14 zb_5 hi2 rfl ?_
  refine j_ishl hK dX0_endsOf_15 ?_
  refine j_ior hK dX0_endsOf_16 ?_
  refine lt_I hf (fun y3 hf => ?_)
  exact j_iret hK dX0_endsOf_17 rfl (rt_I hA hf)
def f_X9_reached_77 (x2 : Int32) (x3 : Int32) (x4 : Int32) (x5 : Int32) (x6 : Int32) (k e : Int32 × Int32 → St → Option (Int32 × St)) (S : St) : Option (Int32 × St) := k (x3, (x6 + (1 : Int32))) S
theorem t_X9_reached_77 {K : CT} (hK : KO K cX9_reached RX9 7 2 (some .int)) {r : Int32} {S' : St} (hA : zans K (some (.int r), S')) {x2 : Int32} {x3 : Int32} {x4 : Int32} {x5 : Int32} {x6 : Int32} {k e : Int32 × Int32 → St → Option (Int32 × St)} (hk : ∀ (v : Int32 × Int32) (S : St), k v S = some (r, S') → J K 29 [(0, .ref 98), (2, .int x2), (3, .int v.1), (4, .int x4), (5, .int x5), (6, .int v.2)] [] S) (he : ∀ (v : Int32 × Int32) (S : St), e v S = some (r, S') → J K 83 [(0, .ref 98), (2, .int x2), (3, .int v.1), (4, .int x4), (5, .int x5)] [] S) {S : St} (hf : f_X9_reached_77 x2 x3 x4 x5 x6 k e S = some (r, S')) : J K 77 [(0, .ref 98), (2, .int x2), (3, .int x3), (4, .int x4), (5, .int x5), (6, .int x6)] [] S := by
  unfold f_X9_reached_77 at hf
  refine j_iinc hK (L' := [(6, .int (x6 + (1 : Int32))), (0, .ref 98), (2, .int x2), (3, .int x3), (4, .int x4), (5, .int x5)]) dX9_reached_77 5 rfl (congrArg (fun y => x6 + y) ic_1) (by decide) rfl ?_
  refine j_goto hK 29 dX9_reached_80 (by decide) ?_
  refine j_sub [1, 2, 3, 4, 5, 0] rfl ?_
  exact hk _ _ hf
def f_X9_reached_29b (x2 : Int32) (x4 : Int32) (x5 : Int32) (e : Int32 × Int32 → St → Option (Int32 × St)) (k : Int32 × Int32 → St → Option (Int32 × St)) (v : Int32 × Int32) (S : St) : Option (Int32 × St) := (if (gI S 3 2) ≤ v.2 then e (v.1, v.2) S else (if ((x2 >>> (v.2 &&& 31)) &&& (1 : Int32)) = (1 : Int32) then bd (f_X0_endsOf v.2 S) (fun r1 S2 => (if (v.1 &&& r1) = 0 then f_X9_reached_77 x2 v.1 x4 x5 v.2 k e S2 else bd (f_X0_endsOf v.2 S2) (fun r4 S5 => lt (v.1 ||| r4) (fun y7 => f_X9_reached_77 x2 y7 x4 x5 v.2 k e S5)))) else f_X9_reached_77 x2 v.1 x4 x5 v.2 k e S))
theorem t_X9_reached_29 {K : CT} (hK : KO K cX9_reached RX9 7 2 (some .int)) {r : Int32} {S' : St} (hA : zans K (some (.int r), S')) {x2 : Int32} {x4 : Int32} {x5 : Int32} {e : Int32 × Int32 → St → Option (Int32 × St)} (he : ∀ (v : Int32 × Int32) (S : St), e v S = some (r, S') → J K 83 [(0, .ref 98), (2, .int x2), (3, .int v.1), (4, .int x4), (5, .int x5)] [] S) : ∀ (n : Nat) (v : Int32 × Int32) (S : St), lp (f_X9_reached_29b x2 x4 x5 e) n v S = some (r, S') → J K 29 [(0, .ref 98), (2, .int x2), (3, .int v.1), (4, .int x4), (5, .int x5), (6, .int v.2)] [] S :=
  lp_J (P := fun (v : Int32 × Int32) (S : St) => J K 29 [(0, .ref 98), (2, .int x2), (3, .int v.1), (4, .int x4), (5, .int x5), (6, .int v.2)] [] S) (fun k hk v S hf => by
    unfold f_X9_reached_29b at hf
    refine j_iload hK dX9_reached_29 5 rfl ?_
    refine j_aload_n hK dX9_reached_31 0 rfl rfl ?_
    refine j_getR hK fl_X9_9 dX9_reached_32 zo_98 zf_9_0 zr_98_0 ?_
    refine j_getI hK fl_X9_22 dX9_reached_35 zo_3 zf_0_2 ?_
    refine j_icmp_ge hK 83 dX9_reached_38 (by decide) (fun hc => ?_) (fun hc => ?_)
    · replace hf := if_1 hc hf
      refine j_sub [0, 1, 2, 3, 4] rfl ?_
      exact he _ _ hf
    · replace hf := if_2 hc hf
      refine j_iload_n hK dX9_reached_41 1 rfl rfl ?_
      refine j_iload hK dX9_reached_42 5 rfl ?_
      refine j_ishr hK dX9_reached_44 ?_
      refine j_iconst hK (1 : Int32) dX9_reached_45 ic_1 ?_
      refine j_iand hK dX9_reached_46 ?_
      refine j_iconst hK (1 : Int32) dX9_reached_47 ic_1 ?_
      refine j_icmp_ne hK 77 dX9_reached_48 (by decide) (fun hc => ?_) (fun hc => ?_)
      · replace hf := if_2 hc hf
        exact t_X9_reached_77 hK hA hk he hf
      · replace hf := if_1 hc hf
        refine j_iload_n hK dX9_reached_51 2 rfl rfl ?_
        refine j_aload_n hK dX9_reached_52 0 rfl rfl ?_
        refine j_getR hK fl_X9_9 dX9_reached_53 zo_98 zf_9_0 zr_98_0 ?_
        refine j_iload hK dX9_reached_56 5 rfl ?_
        obtain ⟨r1, S2, h3, hf⟩ := bd_J hf
        refine k_callVi hK (c_X0_endsOf h3) dX9_reached_58 zclX0 zo_3 ml_X9_70 mi_X0_endsOf mx_X0_endsOf in_X0 mc_X0_endsOf hy_X0_endsOf ⟨by decide, by decide⟩ rfl (Nat.le_of_ble_eq_true rfl) ?_
        refine j_iand hK dX9_reached_61 ?_
        refine j_if_eq hK 77 dX9_reached_62 (by decide) (fun hc => ?_) (fun hc => ?_)
        · replace hf := if_1 hc hf
          exact t_X9_reached_77 hK hA hk he hf
        · replace hf := if_2 hc hf
          refine j_iload_n hK dX9_reached_65 2 rfl rfl ?_
          refine j_aload_n hK dX9_reached_66 0 rfl rfl ?_
          refine j_getR hK fl_X9_9 dX9_reached_67 zo_98 zf_9_0 zr_98_0 ?_
          refine j_iload hK dX9_reached_70 5 rfl ?_
          obtain ⟨r4, S5, h6, hf⟩ := bd_J hf
          refine k_callVi hK (c_X0_endsOf h6) dX9_reached_72 zclX0 zo_3 ml_X9_70 mi_X0_endsOf mx_X0_endsOf in_X0 mc_X0_endsOf hy_X0_endsOf ⟨by decide, by decide⟩ rfl (Nat.le_of_ble_eq_true rfl) ?_
          refine j_ior hK dX9_reached_75 ?_
          refine lt_I hf (fun y7 hf => ?_)
          refine j_istore_n hK (L' := [(3, .int y7), (0, .ref 98), (2, .int x2), (4, .int x4), (5, .int x5), (6, .int v.2)]) dX9_reached_76 rfl (by decide) rfl ?_
          refine j_sub [1, 2, 0, 3, 4, 5] rfl ?_
          exact t_X9_reached_77 hK hA hk he hf)
def f_X9_reached_10b (x2 : Int32) (e : Int32 × Int32 × Int32 → St → Option (Int32 × St)) (k : Int32 × Int32 × Int32 → St → Option (Int32 × St)) (v : Int32 × Int32 × Int32) (S : St) : Option (Int32 × St) := (if (8 : Int32) ≤ v.2.2 then e (v.1, v.2.1, v.2.2) S else (if v.1 = v.2.1 then e (v.1, v.2.1, v.2.2) S else lp (f_X9_reached_29b x2 v.1 v.2.2 (fun v8 S9 => k (v8.1, v.1, (v.2.2 + (1 : Int32))) S9)) FU (v.1, (0 : Int32)) S))
theorem t_X9_reached_10 {K : CT} (hK : KO K cX9_reached RX9 7 2 (some .int)) {r : Int32} {S' : St} (hA : zans K (some (.int r), S')) {x2 : Int32} {e : Int32 × Int32 × Int32 → St → Option (Int32 × St)} (he : ∀ (v : Int32 × Int32 × Int32) (S : St), e v S = some (r, S') → J K 89 [(3, .int v.1)] [] S) : ∀ (n : Nat) (v : Int32 × Int32 × Int32) (S : St), lp (f_X9_reached_10b x2 e) n v S = some (r, S') → J K 10 [(0, .ref 98), (2, .int x2), (3, .int v.1), (4, .int v.2.1), (5, .int v.2.2)] [] S :=
  lp_J (P := fun (v : Int32 × Int32 × Int32) (S : St) => J K 10 [(0, .ref 98), (2, .int x2), (3, .int v.1), (4, .int v.2.1), (5, .int v.2.2)] [] S) (fun k hk v S hf => by
    unfold f_X9_reached_10b at hf
    refine j_iload hK dX9_reached_10 4 rfl ?_
    refine j_bipush hK (8 : Int32) dX9_reached_12 bi_8 ?_
    refine j_icmp_ge hK 89 dX9_reached_14 (by decide) (fun hc => ?_) (fun hc => ?_)
    · replace hf := if_1 hc hf
      refine j_sub [2] rfl ?_
      exact he _ _ hf
    · replace hf := if_2 hc hf
      refine j_iload_n hK dX9_reached_17 2 rfl rfl ?_
      refine j_iload hK dX9_reached_18 3 rfl ?_
      refine j_icmp_eq hK 89 dX9_reached_20 (by decide) (fun hc => ?_) (fun hc => ?_)
      · replace hf := if_1 hc hf
        refine j_sub [2] rfl ?_
        exact he _ _ hf
      · replace hf := if_2 hc hf
        refine j_iload_n hK dX9_reached_23 2 rfl rfl ?_
        refine j_istore hK (L' := [(4, .int v.1), (0, .ref 98), (2, .int x2), (3, .int v.1), (5, .int v.2.2)]) dX9_reached_24 (by decide) rfl ?_
        refine j_iconst hK (0 : Int32) dX9_reached_26 ic_0 ?_
        refine j_istore hK (L' := [(6, .int (0 : Int32)), (4, .int v.1), (0, .ref 98), (2, .int x2), (3, .int v.1), (5, .int v.2.2)]) dX9_reached_27 (by decide) rfl ?_
        refine j_sub [2, 3, 4, 1, 5, 0] rfl ?_
        refine t_X9_reached_29 hK hA  (fun v8 S9 hf => ?_) _ _ _ hf
        refine j_iinc hK (L' := [(5, .int (v.2.2 + (1 : Int32))), (0, .ref 98), (2, .int x2), (3, .int v8.1), (4, .int v.1)]) dX9_reached_83 4 rfl (congrArg (fun y => v.2.2 + y) ic_1) (by decide) rfl ?_
        refine j_goto hK 10 dX9_reached_86 (by decide) ?_
        refine j_sub [1, 2, 3, 4, 0] rfl ?_
        exact hk _ _ hf)
def f_X9_reached (p1 : Int32) (p2 : Int32) (S : St) : Option (Int32 × St) := lt ((1 : Int32) <<< (p1 &&& 31)) (fun y10 => lp (f_X9_reached_10b p2 (fun v11 S12 => some (v11.1, S12))) FU (y10, (0 : Int32), (0 : Int32)) S)
theorem c_X9_reached {p1 : Int32} {p2 : Int32} {S : St} {r : Int32} {S' : St} (hf : f_X9_reached p1 p2 S = some (r, S')) : zM yX9_reached cX9_reached 7 2 (some .int) [.ref 98, .int p1, .int p2] S (some (.int r)) S' := by
  refine zM_of (zpl (by decide)) (Nat.le_of_ble_eq_true rfl) rfl (fun K hK hA => ?_)
  unfold f_X9_reached at hf
  refine j_iconst hK (1 : Int32) dX9_reached_0 ic_1 ?_
  refine j_iload_n hK dX9_reached_1 1 rfl rfl ?_
  refine j_ishl hK dX9_reached_2 ?_
  refine lt_I hf (fun y10 hf => ?_)
  refine j_istore_n hK (L' := [(3, .int y10), (0, .ref 98), (1, .int p1), (2, .int p2)]) dX9_reached_3 rfl (by decide) rfl ?_
  refine j_iconst hK (0 : Int32) dX9_reached_4 ic_0 ?_
  refine j_istore hK (L' := [(4, .int (0 : Int32)), (3, .int y10), (0, .ref 98), (1, .int p1), (2, .int p2)]) dX9_reached_5 (by decide) rfl ?_
  refine j_iconst hK (0 : Int32) dX9_reached_7 ic_0 ?_
  refine j_istore hK (L' := [(5, .int (0 : Int32)), (4, .int (0 : Int32)), (3, .int y10), (0, .ref 98), (1, .int p1), (2, .int p2)]) dX9_reached_8 (by decide) rfl ?_
  refine j_sub [3, 5, 2, 1, 0] rfl ?_
  refine t_X9_reached_10 hK hA  (fun v11 S12 hf => ?_) _ _ _ hf
  refine j_iload_n hK dX9_reached_89 0 rfl rfl ?_
  exact j_iret hK dX9_reached_90 rfl (rt_I hA hf)
def f_X9_joinsEnds (p1 : Int32) (p2 : Int32) (S : St) : Option (Int32 × St) := if inb p2 12 then bd (f_X9_reached (gI S 4 p2.toNatClampNeg) p1 S) (fun r2 S3 => if inb p2 12 then (if ((r2 >>> ((gI S3 5 p2.toNatClampNeg) &&& 31)) &&& (1 : Int32)) = (1 : Int32) then some ((1 : Int32), S3) else some ((0 : Int32), S3)) else none) else none
theorem c_X9_joinsEnds {p1 : Int32} {p2 : Int32} {S : St} {r : Int32} {S' : St} (hf : f_X9_joinsEnds p1 p2 S = some (r, S')) : zM yX9_joinsEnds cX9_joinsEnds 3 3 (some .boolean) [.ref 98, .int p1, .int p2] S (some (.int r)) S' := by
  refine zM_of (zpl (by decide)) (Nat.le_of_ble_eq_true rfl) rfl (fun K hK hA => ?_)
  unfold f_X9_joinsEnds at hf
  refine j_aload_n hK dX9_joinsEnds_0 0 rfl rfl ?_
  refine j_aload_n hK dX9_joinsEnds_1 0 rfl rfl ?_
  refine j_getR hK fl_X9_9 dX9_joinsEnds_2 zo_98 zf_9_0 zr_98_0 ?_
  refine j_getR hK fl_X9_32 dX9_joinsEnds_5 zo_3 zf_0_0 zr_3_0 ?_
  refine j_iload_n hK dX9_joinsEnds_8 2 rfl rfl ?_
  obtain ⟨hi1, hf⟩ := gd hf
  refine k_iald hK dX9_joinsEnds_9 zb_4 hi1 rfl ?_
  refine j_iload_n hK dX9_joinsEnds_10 1 rfl rfl ?_
  obtain ⟨r2, S3, h4, hf⟩ := bd_J hf
  refine k_callVi hK (c_X9_reached h4) dX9_joinsEnds_11 zclX9 zo_98 ml_X9_74 mi_X9_reached mx_X9_reached in_X9 mc_X9_reached hy_X9_reached ⟨by decide, by decide⟩ rfl (Nat.le_of_ble_eq_true rfl) ?_
  refine j_pc (pc' := 14) rfl ?_
  refine j_aload_n hK dX9_joinsEnds_14 0 rfl rfl ?_
  refine j_getR hK fl_X9_9 dX9_joinsEnds_15 zo_98 zf_9_0 zr_98_0 ?_
  refine j_getR hK fl_X9_35 dX9_joinsEnds_18 zo_3 zf_0_1 zr_3_1 ?_
  refine j_iload_n hK dX9_joinsEnds_21 2 rfl rfl ?_
  obtain ⟨hi5, hf⟩ := gd hf
  refine k_iald hK dX9_joinsEnds_22 zb_5 hi5 rfl ?_
  refine j_ishr hK dX9_joinsEnds_23 ?_
  refine j_iconst hK (1 : Int32) dX9_joinsEnds_24 ic_1 ?_
  refine j_iand hK dX9_joinsEnds_25 ?_
  refine j_pc (pc' := 26) rfl ?_
  refine j_iconst hK (1 : Int32) dX9_joinsEnds_26 ic_1 ?_
  refine j_icmp_ne hK 34 dX9_joinsEnds_27 (by decide) (fun hc => ?_) (fun hc => ?_)
  · replace hf := if_2 hc hf
    refine j_iconst hK (0 : Int32) dX9_joinsEnds_34 ic_0 ?_
    exact j_zret hK dX9_joinsEnds_35 rfl rfl (rt_I hA hf)
  · replace hf := if_1 hc hf
    refine j_iconst hK (1 : Int32) dX9_joinsEnds_30 ic_1 ?_
    refine j_goto hK 35 dX9_joinsEnds_31 (by decide) ?_
    exact j_zret hK dX9_joinsEnds_35 rfl rfl (rt_I hA hf)
def f_X10_ropes_80 (x1 : Int32) (x2 : Int32) (x3 : Int32) (x4 : Int32) (k e : Int32 × Int32 × Int32 → St → Option (Int32 × St)) (S : St) : Option (Int32 × St) := k (x1, x2, (x4 + (1 : Int32))) S
theorem t_X10_ropes_80 {K : CT} (hK : KO K cX10_ropes RX10 5 4 (some .int)) {r : Int32} {S' : St} (hA : zans K (some (.int r), S')) {x1 : Int32} {x2 : Int32} {x3 : Int32} {x4 : Int32} {k e : Int32 × Int32 × Int32 → St → Option (Int32 × St)} (hk : ∀ (v : Int32 × Int32 × Int32) (S : St), k v S = some (r, S') → J K 15 [(0, .ref 0), (1, .int v.1), (2, .int v.2.1), (3, .int x3), (4, .int v.2.2)] [] S) (he : ∀ (v : Int32 × Int32 × Int32) (S : St), e v S = some (r, S') → J K 86 [(0, .ref 0), (1, .int v.1), (2, .int v.2.1), (3, .int x3)] [] S) {S : St} (hf : f_X10_ropes_80 x1 x2 x3 x4 k e S = some (r, S')) : J K 80 [(0, .ref 0), (1, .int x1), (2, .int x2), (3, .int x3), (4, .int x4)] [] S := by
  unfold f_X10_ropes_80 at hf
  refine j_iinc hK (L' := [(4, .int (x4 + (1 : Int32))), (0, .ref 0), (1, .int x1), (2, .int x2), (3, .int x3)]) dX10_ropes_80 4 rfl (congrArg (fun y => x4 + y) ic_1) (by decide) rfl ?_
  refine j_goto hK 15 dX10_ropes_83 (by decide) ?_
  refine j_sub [1, 2, 3, 4, 0] rfl ?_
  exact hk _ _ hf
def f_X10_ropes_15b (x3 : Int32) (e : Int32 × Int32 × Int32 → St → Option (Int32 × St)) (k : Int32 × Int32 × Int32 → St → Option (Int32 × St)) (v : Int32 × Int32 × Int32) (S : St) : Option (Int32 × St) := (if (gI S 3 2) ≤ v.2.2 then e (v.1, v.2.1, v.2.2) S else bd (f_X0_isOpen v.2.2 S) (fun r1 S2 => (if r1 = 0 then f_X10_ropes_80 v.1 v.2.1 x3 v.2.2 k e S2 else if inb v.2.2 12 then (if (gI S2 7 v.2.2.toNatClampNeg) = x3 then bd (f_X9_joinsEnds v.1 v.2.2 S2) (fun r5 S6 => (if r5 = 0 then lt (v.1 ||| ((1 : Int32) <<< (v.2.2 &&& 31))) (fun y8 => lt (v.2.1 + x3) (fun y9 => f_X10_ropes_80 y8 y9 x3 v.2.2 k e S6)) else f_X10_ropes_80 v.1 v.2.1 x3 v.2.2 k e S6)) else f_X10_ropes_80 v.1 v.2.1 x3 v.2.2 k e S2) else none)))
theorem t_X10_ropes_15 {K : CT} (hK : KO K cX10_ropes RX10 5 4 (some .int)) {r : Int32} {S' : St} (hA : zans K (some (.int r), S')) {x3 : Int32} {e : Int32 × Int32 × Int32 → St → Option (Int32 × St)} (he : ∀ (v : Int32 × Int32 × Int32) (S : St), e v S = some (r, S') → J K 86 [(0, .ref 0), (1, .int v.1), (2, .int v.2.1), (3, .int x3)] [] S) : ∀ (n : Nat) (v : Int32 × Int32 × Int32) (S : St), lp (f_X10_ropes_15b x3 e) n v S = some (r, S') → J K 15 [(0, .ref 0), (1, .int v.1), (2, .int v.2.1), (3, .int x3), (4, .int v.2.2)] [] S :=
  lp_J (P := fun (v : Int32 × Int32 × Int32) (S : St) => J K 15 [(0, .ref 0), (1, .int v.1), (2, .int v.2.1), (3, .int x3), (4, .int v.2.2)] [] S) (fun k hk v S hf => by
    unfold f_X10_ropes_15b at hf
    refine j_iload hK dX10_ropes_15 4 rfl ?_
    refine j_aload_n hK dX10_ropes_17 0 rfl rfl ?_
    refine j_getR hK fl_X10_19 dX10_ropes_18 zo_0 zf_10_1 zr_0_1 ?_
    refine j_getI hK fl_X10_95 dX10_ropes_21 zo_3 zf_0_2 ?_
    refine j_icmp_ge hK 86 dX10_ropes_24 (by decide) (fun hc => ?_) (fun hc => ?_)
    · replace hf := if_1 hc hf
      refine j_sub [0, 1, 2, 3] rfl ?_
      exact he _ _ hf
    · replace hf := if_2 hc hf
      refine j_aload_n hK dX10_ropes_27 0 rfl rfl ?_
      refine j_getR hK fl_X10_19 dX10_ropes_28 zo_0 zf_10_1 zr_0_1 ?_
      refine j_iload hK dX10_ropes_31 4 rfl ?_
      obtain ⟨r1, S2, h3, hf⟩ := bd_J hf
      refine k_callVi hK (c_X0_isOpen h3) dX10_ropes_33 zclX0 zo_3 ml_X10_144 mi_X0_isOpen mx_X0_isOpen in_X0 mc_X0_isOpen hy_X0_isOpen ⟨by decide, by decide⟩ rfl (Nat.le_of_ble_eq_true rfl) ?_
      refine j_if_eq hK 80 dX10_ropes_36 (by decide) (fun hc => ?_) (fun hc => ?_)
      · replace hf := if_1 hc hf
        exact t_X10_ropes_80 hK hA hk he hf
      · replace hf := if_2 hc hf
        refine j_aload_n hK dX10_ropes_39 0 rfl rfl ?_
        refine j_getR hK fl_X10_19 dX10_ropes_40 zo_0 zf_10_1 zr_0_1 ?_
        refine j_getR hK fl_X10_129 dX10_ropes_43 zo_3 zf_0_3 zr_3_3 ?_
        refine j_getR hK fl_X10_133 dX10_ropes_46 zo_6 zf_7_0 zr_6_0 ?_
        refine j_iload hK dX10_ropes_49 4 rfl ?_
        obtain ⟨hi4, hf⟩ := gd hf
        refine k_iald hK dX10_ropes_51 zb_7 hi4 rfl ?_
        refine j_iload_n hK dX10_ropes_52 3 rfl rfl ?_
        refine j_pc (pc' := 53) rfl ?_
        refine j_icmp_ne hK 80 dX10_ropes_53 (by decide) (fun hc => ?_) (fun hc => ?_)
        · replace hf := if_2 hc hf
          exact t_X10_ropes_80 hK hA hk he hf
        · replace hf := if_1 hc hf
          refine j_aload_n hK dX10_ropes_56 0 rfl rfl ?_
          refine j_getR hK fl_X10_49 dX10_ropes_57 zo_0 zf_10_5 zr_0_5 ?_
          refine j_iload_n hK dX10_ropes_60 1 rfl rfl ?_
          refine j_iload hK dX10_ropes_61 4 rfl ?_
          obtain ⟨r5, S6, h7, hf⟩ := bd_J hf
          refine k_callVi hK (c_X9_joinsEnds h7) dX10_ropes_63 zclX9 zo_98 ml_X10_312 mi_X9_joinsEnds mx_X9_joinsEnds in_X9 mc_X9_joinsEnds hy_X9_joinsEnds ⟨by decide, by decide⟩ rfl (Nat.le_of_ble_eq_true rfl) ?_
          refine j_if_ne hK 80 dX10_ropes_66 (by decide) (fun hc => ?_) (fun hc => ?_)
          · replace hf := if_2 hc hf
            exact t_X10_ropes_80 hK hA hk he hf
          · replace hf := if_1 hc hf
            refine j_iload_n hK dX10_ropes_69 1 rfl rfl ?_
            refine j_iconst hK (1 : Int32) dX10_ropes_70 ic_1 ?_
            refine j_iload hK dX10_ropes_71 4 rfl ?_
            refine j_ishl hK dX10_ropes_73 ?_
            refine j_ior hK dX10_ropes_74 ?_
            refine lt_I hf (fun y8 hf => ?_)
            refine j_istore_n hK (L' := [(1, .int y8), (0, .ref 0), (2, .int v.2.1), (3, .int x3), (4, .int v.2.2)]) dX10_ropes_75 rfl (by decide) rfl ?_
            refine j_iload_n hK dX10_ropes_76 2 rfl rfl ?_
            refine j_pc (pc' := 77) rfl ?_
            refine j_iload_n hK dX10_ropes_77 3 rfl rfl ?_
            refine j_iadd hK dX10_ropes_78 ?_
            refine lt_I hf (fun y9 hf => ?_)
            refine j_istore_n hK (L' := [(2, .int y9), (1, .int y8), (0, .ref 0), (3, .int x3), (4, .int v.2.2)]) dX10_ropes_79 rfl (by decide) rfl ?_
            refine j_sub [2, 1, 0, 3, 4] rfl ?_
            exact t_X10_ropes_80 hK hA hk he hf)
def f_X10_ropes_6b (e : Int32 × Int32 × Int32 → St → Option (Int32 × St)) (k : Int32 × Int32 × Int32 → St → Option (Int32 × St)) (v : Int32 × Int32 × Int32) (S : St) : Option (Int32 × St) := (if (9 : Int32) < v.2.2 then e (v.1, v.2.1, v.2.2) S else lp (f_X10_ropes_15b v.2.2 (fun v10 S11 => k (v10.1, v10.2.1, (v.2.2 + (1 : Int32))) S11)) FU (v.1, v.2.1, (0 : Int32)) S)
theorem t_X10_ropes_6 {K : CT} (hK : KO K cX10_ropes RX10 5 4 (some .int)) {r : Int32} {S' : St} (hA : zans K (some (.int r), S')) {e : Int32 × Int32 × Int32 → St → Option (Int32 × St)} (he : ∀ (v : Int32 × Int32 × Int32) (S : St), e v S = some (r, S') → J K 92 [(0, .ref 0), (1, .int v.1), (2, .int v.2.1)] [] S) : ∀ (n : Nat) (v : Int32 × Int32 × Int32) (S : St), lp (f_X10_ropes_6b  e) n v S = some (r, S') → J K 6 [(0, .ref 0), (1, .int v.1), (2, .int v.2.1), (3, .int v.2.2)] [] S :=
  lp_J (P := fun (v : Int32 × Int32 × Int32) (S : St) => J K 6 [(0, .ref 0), (1, .int v.1), (2, .int v.2.1), (3, .int v.2.2)] [] S) (fun k hk v S hf => by
    unfold f_X10_ropes_6b at hf
    refine j_iload_n hK dX10_ropes_6 3 rfl rfl ?_
    refine j_bipush hK (9 : Int32) dX10_ropes_7 bi_9 ?_
    refine j_icmp_gt hK 92 dX10_ropes_9 (by decide) (fun hc => ?_) (fun hc => ?_)
    · replace hf := if_1 hc hf
      refine j_sub [0, 1, 2] rfl ?_
      exact he _ _ hf
    · replace hf := if_2 hc hf
      refine j_iconst hK (0 : Int32) dX10_ropes_12 ic_0 ?_
      refine j_istore hK (L' := [(4, .int (0 : Int32)), (0, .ref 0), (1, .int v.1), (2, .int v.2.1), (3, .int v.2.2)]) dX10_ropes_13 (by decide) rfl ?_
      refine j_sub [1, 2, 3, 4, 0] rfl ?_
      refine t_X10_ropes_15 hK hA  (fun v10 S11 hf => ?_) _ _ _ hf
      refine j_iinc hK (L' := [(3, .int (v.2.2 + (1 : Int32))), (0, .ref 0), (1, .int v10.1), (2, .int v10.2.1)]) dX10_ropes_86 3 rfl (congrArg (fun y => v.2.2 + y) ic_1) (by decide) rfl ?_
      refine j_goto hK 6 dX10_ropes_89 (by decide) ?_
      refine j_sub [1, 2, 3, 0] rfl ?_
      exact hk _ _ hf)
def f_X10_ropes (S : St) : Option (Int32 × St) := lp (f_X10_ropes_6b  (fun v12 S13 => bd (f_X5_begin S13) (fun r14 S15 => bd (f_X5_put v12.1.toInt64 S15) (fun r17 S18 => bd (f_J6_bitCount_0f7a4 v12.1 S18) (fun r20 S21 => bd (f_X5_put r20.toInt64 S21) (fun r23 S24 => some (v12.2.1, S24))))))) FU ((0 : Int32), (0 : Int32), (1 : Int32)) S
theorem c_X10_ropes {S : St} {r : Int32} {S' : St} (hf : f_X10_ropes S = some (r, S')) : zM yX10_ropes cX10_ropes 5 4 (some .int) [.ref 0] S (some (.int r)) S' := by
  refine zM_of (zpl (by decide)) (Nat.le_of_ble_eq_true rfl) rfl (fun K hK hA => ?_)
  unfold f_X10_ropes at hf
  refine j_iconst hK (0 : Int32) dX10_ropes_0 ic_0 ?_
  refine j_istore_n hK (L' := [(1, .int (0 : Int32)), (0, .ref 0)]) dX10_ropes_1 rfl (by decide) rfl ?_
  refine j_iconst hK (0 : Int32) dX10_ropes_2 ic_0 ?_
  refine j_istore_n hK (L' := [(2, .int (0 : Int32)), (1, .int (0 : Int32)), (0, .ref 0)]) dX10_ropes_3 rfl (by decide) rfl ?_
  refine j_iconst hK (1 : Int32) dX10_ropes_4 ic_1 ?_
  refine j_istore_n hK (L' := [(3, .int (1 : Int32)), (2, .int (0 : Int32)), (1, .int (0 : Int32)), (0, .ref 0)]) dX10_ropes_5 rfl (by decide) rfl ?_
  refine j_sub [3, 2, 1, 0] rfl ?_
  refine t_X10_ropes_6 hK hA  (fun v12 S13 hf => ?_) _ _ _ hf
  refine j_aload_n hK dX10_ropes_92 0 rfl rfl ?_
  refine j_getR hK fl_X10_26 dX10_ropes_93 zo_0 zf_10_2 zr_0_2 ?_
  obtain ⟨r14, S15, h16, hf⟩ := bd_J hf
  refine k_callVv hK (c_X5_begin h16) dX10_ropes_96 zclX5 zo_10 ml_X10_185 mi_X5_begin mx_X5_begin in_X5 mc_X5_begin hy_X5_begin ⟨by decide, by decide⟩ rfl (Nat.le_of_ble_eq_true rfl) ?_
  refine j_aload_n hK dX10_ropes_99 0 rfl rfl ?_
  refine j_getR hK fl_X10_26 dX10_ropes_100 zo_0 zf_10_2 zr_0_2 ?_
  refine j_iload_n hK dX10_ropes_103 1 rfl rfl ?_
  refine j_i2l hK dX10_ropes_104 ?_
  refine j_pc (pc' := 105) rfl ?_
  obtain ⟨r17, S18, h19, hf⟩ := bd_J hf
  refine k_callVv hK (c_X5_put h19) dX10_ropes_105 zclX5 zo_10 ml_X10_191 mi_X5_put mx_X5_put in_X5 mc_X5_put hy_X5_put ⟨by decide, by decide⟩ rfl (Nat.le_of_ble_eq_true rfl) ?_
  refine j_aload_n hK dX10_ropes_108 0 rfl rfl ?_
  refine j_getR hK fl_X10_26 dX10_ropes_109 zo_0 zf_10_2 zr_0_2 ?_
  refine j_iload_n hK dX10_ropes_112 1 rfl rfl ?_
  obtain ⟨r20, S21, h22, hf⟩ := bd_J hf
  refine k_callSi hK (c_J6_bitCount_0f7a4 h22) dX10_ropes_113 ml_X10_263 ms_J6_bitCount_0f7a4 in_J6 mc_J6_bitCount_0f7a4 hy_J6_bitCount_0f7a4 ⟨by decide, by decide⟩ rfl (Nat.le_of_ble_eq_true rfl) ?_
  refine j_i2l hK dX10_ropes_116 ?_
  obtain ⟨r23, S24, h25, hf⟩ := bd_J hf
  refine k_callVv hK (c_X5_put h25) dX10_ropes_117 zclX5 zo_10 ml_X10_191 mi_X5_put mx_X5_put in_X5 mc_X5_put hy_X5_put ⟨by decide, by decide⟩ rfl (Nat.le_of_ble_eq_true rfl) ?_
  refine j_iload_n hK dX10_ropes_120 2 rfl rfl ?_
  refine j_pc (pc' := 121) rfl ?_
  exact j_iret hK dX10_ropes_121 rfl (rt_I hA hf)
def f_X0_enteredCaverns_28 (x1 : Int32) (x2 : Int32) (k e : Int32 × Int32 → St → Option (Int32 × St)) (S : St) : Option (Int32 × St) := k (x1, (x2 + (1 : Int32))) S
theorem t_X0_enteredCaverns_28 {K : CT} (hK : KO K cX0_enteredCaverns RX0 3 2 (some .int)) {r : Int32} {S' : St} (hA : zans K (some (.int r), S')) {x1 : Int32} {x2 : Int32} {k e : Int32 × Int32 → St → Option (Int32 × St)} (hk : ∀ (v : Int32 × Int32) (S : St), k v S = some (r, S') → J K 4 [(0, .ref 3), (1, .int v.1), (2, .int v.2)] [] S) (he : ∀ (v : Int32 × Int32) (S : St), e v S = some (r, S') → J K 34 [(1, .int v.1)] [] S) {S : St} (hf : f_X0_enteredCaverns_28 x1 x2 k e S = some (r, S')) : J K 28 [(0, .ref 3), (1, .int x1), (2, .int x2)] [] S := by
  unfold f_X0_enteredCaverns_28 at hf
  refine j_iinc hK (L' := [(2, .int (x2 + (1 : Int32))), (0, .ref 3), (1, .int x1)]) dX0_enteredCaverns_28 2 rfl (congrArg (fun y => x2 + y) ic_1) (by decide) rfl ?_
  refine j_goto hK 4 dX0_enteredCaverns_31 (by decide) ?_
  refine j_sub [1, 2, 0] rfl ?_
  exact hk _ _ hf
def f_X0_enteredCaverns_4b (e : Int32 × Int32 → St → Option (Int32 × St)) (k : Int32 × Int32 → St → Option (Int32 × St)) (v : Int32 × Int32) (S : St) : Option (Int32 × St) := (if (gI S 3 2) ≤ v.2 then e (v.1, v.2) S else bd (f_X0_isOpen v.2 S) (fun r1 S2 => (if r1 = 0 then f_X0_enteredCaverns_28 v.1 v.2 k e S2 else bd (f_X0_endsOf v.2 S2) (fun r4 S5 => lt (v.1 ||| r4) (fun y7 => f_X0_enteredCaverns_28 y7 v.2 k e S5)))))
theorem t_X0_enteredCaverns_4 {K : CT} (hK : KO K cX0_enteredCaverns RX0 3 2 (some .int)) {r : Int32} {S' : St} (hA : zans K (some (.int r), S')) {e : Int32 × Int32 → St → Option (Int32 × St)} (he : ∀ (v : Int32 × Int32) (S : St), e v S = some (r, S') → J K 34 [(1, .int v.1)] [] S) : ∀ (n : Nat) (v : Int32 × Int32) (S : St), lp (f_X0_enteredCaverns_4b  e) n v S = some (r, S') → J K 4 [(0, .ref 3), (1, .int v.1), (2, .int v.2)] [] S :=
  lp_J (P := fun (v : Int32 × Int32) (S : St) => J K 4 [(0, .ref 3), (1, .int v.1), (2, .int v.2)] [] S) (fun k hk v S hf => by
    unfold f_X0_enteredCaverns_4b at hf
    refine j_iload_n hK dX0_enteredCaverns_4 2 rfl rfl ?_
    refine j_aload_n hK dX0_enteredCaverns_5 0 rfl rfl ?_
    refine j_getI hK fl_X0_18 dX0_enteredCaverns_6 zo_3 zf_0_2 ?_
    refine j_icmp_ge hK 34 dX0_enteredCaverns_9 (by decide) (fun hc => ?_) (fun hc => ?_)
    · replace hf := if_1 hc hf
      refine j_sub [1] rfl ?_
      exact he _ _ hf
    · replace hf := if_2 hc hf
      refine j_aload_n hK dX0_enteredCaverns_12 0 rfl rfl ?_
      refine j_iload_n hK dX0_enteredCaverns_13 2 rfl rfl ?_
      obtain ⟨r1, S2, h3, hf⟩ := bd_J hf
      refine k_callVi hK (c_X0_isOpen h3) dX0_enteredCaverns_14 zclX0 zo_3 ml_X0_49 mi_X0_isOpen mx_X0_isOpen in_X0 mc_X0_isOpen hy_X0_isOpen ⟨by decide, by decide⟩ rfl (Nat.le_of_ble_eq_true rfl) ?_
      refine j_if_eq hK 28 dX0_enteredCaverns_17 (by decide) (fun hc => ?_) (fun hc => ?_)
      · replace hf := if_1 hc hf
        exact t_X0_enteredCaverns_28 hK hA hk he hf
      · replace hf := if_2 hc hf
        refine j_iload_n hK dX0_enteredCaverns_20 1 rfl rfl ?_
        refine j_aload_n hK dX0_enteredCaverns_21 0 rfl rfl ?_
        refine j_iload_n hK dX0_enteredCaverns_22 2 rfl rfl ?_
        obtain ⟨r4, S5, h6, hf⟩ := bd_J hf
        refine k_callVi hK (c_X0_endsOf h6) dX0_enteredCaverns_23 zclX0 zo_3 ml_X0_53 mi_X0_endsOf mx_X0_endsOf in_X0 mc_X0_endsOf hy_X0_endsOf ⟨by decide, by decide⟩ rfl (Nat.le_of_ble_eq_true rfl) ?_
        refine j_ior hK dX0_enteredCaverns_26 ?_
        refine lt_I hf (fun y7 hf => ?_)
        refine j_istore_n hK (L' := [(1, .int y7), (0, .ref 3), (2, .int v.2)]) dX0_enteredCaverns_27 rfl (by decide) rfl ?_
        refine j_sub [1, 0, 2] rfl ?_
        exact t_X0_enteredCaverns_28 hK hA hk he hf)
def f_X0_enteredCaverns (S : St) : Option (Int32 × St) := lp (f_X0_enteredCaverns_4b  (fun v8 S9 => some (v8.1, S9))) FU ((0 : Int32), (0 : Int32)) S
theorem c_X0_enteredCaverns {S : St} {r : Int32} {S' : St} (hf : f_X0_enteredCaverns S = some (r, S')) : zM yX0_enteredCaverns cX0_enteredCaverns 3 2 (some .int) [.ref 3] S (some (.int r)) S' := by
  refine zM_of (zpl (by decide)) (Nat.le_of_ble_eq_true rfl) rfl (fun K hK hA => ?_)
  unfold f_X0_enteredCaverns at hf
  refine j_iconst hK (0 : Int32) dX0_enteredCaverns_0 ic_0 ?_
  refine j_istore_n hK (L' := [(1, .int (0 : Int32)), (0, .ref 3)]) dX0_enteredCaverns_1 rfl (by decide) rfl ?_
  refine j_iconst hK (0 : Int32) dX0_enteredCaverns_2 ic_0 ?_
  refine j_istore_n hK (L' := [(2, .int (0 : Int32)), (1, .int (0 : Int32)), (0, .ref 3)]) dX0_enteredCaverns_3 rfl (by decide) rfl ?_
  refine j_sub [2, 1, 0] rfl ?_
  refine t_X0_enteredCaverns_4 hK hA  (fun v8 S9 hf => ?_) _ _ _ hf
  refine j_iload_n hK dX0_enteredCaverns_34 0 rfl rfl ?_
  exact j_iret hK dX0_enteredCaverns_35 rfl (rt_I hA hf)
def f_X9_heapsOf_48 (x2 : Int32) (x3 : Int32) (x4 : Int32) (k e : Int32 × Int32 × Int32 → St → Option (Int32 × St)) (S : St) : Option (Int32 × St) := k (x2, x3, (x4 + (1 : Int32))) S
theorem t_X9_heapsOf_48 {K : CT} (hK : KO K cX9_heapsOf RX9 5 3 (some .int)) {r : Int32} {S' : St} (hA : zans K (some (.int r), S')) {x2 : Int32} {x3 : Int32} {x4 : Int32} {k e : Int32 × Int32 × Int32 → St → Option (Int32 × St)} (hk : ∀ (v : Int32 × Int32 × Int32) (S : St), k v S = some (r, S') → J K 7 [(0, .ref 98), (2, .int v.1), (3, .int v.2.1), (4, .int v.2.2)] [] S) (he : ∀ (v : Int32 × Int32 × Int32) (S : St), e v S = some (r, S') → J K 54 [(3, .int v.2.1)] [] S) {S : St} (hf : f_X9_heapsOf_48 x2 x3 x4 k e S = some (r, S')) : J K 48 [(0, .ref 98), (2, .int x2), (3, .int x3), (4, .int x4)] [] S := by
  unfold f_X9_heapsOf_48 at hf
  refine j_iinc hK (L' := [(4, .int (x4 + (1 : Int32))), (0, .ref 98), (2, .int x2), (3, .int x3)]) dX9_heapsOf_48 3 rfl (congrArg (fun y => x4 + y) ic_1) (by decide) rfl ?_
  refine j_goto hK 7 dX9_heapsOf_51 (by decide) ?_
  refine j_sub [1, 2, 3, 0] rfl ?_
  exact hk _ _ hf
def f_X9_heapsOf_7b (e : Int32 × Int32 × Int32 → St → Option (Int32 × St)) (k : Int32 × Int32 × Int32 → St → Option (Int32 × St)) (v : Int32 × Int32 × Int32) (S : St) : Option (Int32 × St) := (if (8 : Int32) ≤ v.2.2 then e (v.1, v.2.1, v.2.2) S else (if ((v.1 >>> (v.2.2 &&& 31)) &&& (1 : Int32)) = (1 : Int32) then bd (f_X9_reached v.2.2 (gI S 6 3) S) (fun r1 S2 => lt (v.1 &&& (r1 ^^^ (-1 : Int32))) (fun y4 => f_X9_heapsOf_48 y4 (v.2.1 + (1 : Int32)) v.2.2 k e S2)) else f_X9_heapsOf_48 v.1 v.2.1 v.2.2 k e S))
theorem t_X9_heapsOf_7 {K : CT} (hK : KO K cX9_heapsOf RX9 5 3 (some .int)) {r : Int32} {S' : St} (hA : zans K (some (.int r), S')) {e : Int32 × Int32 × Int32 → St → Option (Int32 × St)} (he : ∀ (v : Int32 × Int32 × Int32) (S : St), e v S = some (r, S') → J K 54 [(3, .int v.2.1)] [] S) : ∀ (n : Nat) (v : Int32 × Int32 × Int32) (S : St), lp (f_X9_heapsOf_7b  e) n v S = some (r, S') → J K 7 [(0, .ref 98), (2, .int v.1), (3, .int v.2.1), (4, .int v.2.2)] [] S :=
  lp_J (P := fun (v : Int32 × Int32 × Int32) (S : St) => J K 7 [(0, .ref 98), (2, .int v.1), (3, .int v.2.1), (4, .int v.2.2)] [] S) (fun k hk v S hf => by
    unfold f_X9_heapsOf_7b at hf
    refine j_iload hK dX9_heapsOf_7 3 rfl ?_
    refine j_bipush hK (8 : Int32) dX9_heapsOf_9 bi_8 ?_
    refine j_icmp_ge hK 54 dX9_heapsOf_11 (by decide) (fun hc => ?_) (fun hc => ?_)
    · replace hf := if_1 hc hf
      refine j_sub [2] rfl ?_
      exact he _ _ hf
    · replace hf := if_2 hc hf
      refine j_iload_n hK dX9_heapsOf_14 1 rfl rfl ?_
      refine j_iload hK dX9_heapsOf_15 3 rfl ?_
      refine j_ishr hK dX9_heapsOf_17 ?_
      refine j_iconst hK (1 : Int32) dX9_heapsOf_18 ic_1 ?_
      refine j_iand hK dX9_heapsOf_19 ?_
      refine j_iconst hK (1 : Int32) dX9_heapsOf_20 ic_1 ?_
      refine j_icmp_ne hK 48 dX9_heapsOf_21 (by decide) (fun hc => ?_) (fun hc => ?_)
      · replace hf := if_2 hc hf
        exact t_X9_heapsOf_48 hK hA hk he hf
      · replace hf := if_1 hc hf
        refine j_iload_n hK dX9_heapsOf_24 1 rfl rfl ?_
        refine j_aload_n hK dX9_heapsOf_25 0 rfl rfl ?_
        refine j_iload hK dX9_heapsOf_26 3 rfl ?_
        refine j_aload_n hK dX9_heapsOf_28 0 rfl rfl ?_
        refine j_getR hK fl_X9_9 dX9_heapsOf_29 zo_98 zf_9_0 zr_98_0 ?_
        refine j_getR hK fl_X9_38 dX9_heapsOf_32 zo_3 zf_0_3 zr_3_3 ?_
        refine j_getI hK fl_X9_77 dX9_heapsOf_35 zo_6 zf_7_3 ?_
        refine j_pc (pc' := 38) rfl ?_
        obtain ⟨r1, S2, h3, hf⟩ := bd_J hf
        refine k_callVi hK (c_X9_reached h3) dX9_heapsOf_38 zclX9 zo_98 ml_X9_74 mi_X9_reached mx_X9_reached in_X9 mc_X9_reached hy_X9_reached ⟨by decide, by decide⟩ rfl (Nat.le_of_ble_eq_true rfl) ?_
        refine j_iconst hK (-1 : Int32) dX9_heapsOf_41 ic_m1 ?_
        refine j_ixor hK dX9_heapsOf_42 ?_
        refine j_iand hK dX9_heapsOf_43 ?_
        refine lt_I hf (fun y4 hf => ?_)
        refine j_istore_n hK (L' := [(2, .int y4), (0, .ref 98), (3, .int v.2.1), (4, .int v.2.2)]) dX9_heapsOf_44 rfl (by decide) rfl ?_
        refine j_iinc hK (L' := [(3, .int (v.2.1 + (1 : Int32))), (2, .int y4), (0, .ref 98), (4, .int v.2.2)]) dX9_heapsOf_45 2 rfl (congrArg (fun y => v.2.1 + y) ic_1) (by decide) rfl ?_
        refine j_sub [2, 1, 0, 3] rfl ?_
        exact t_X9_heapsOf_48 hK hA hk he hf)
def f_X9_heapsOf (p1 : Int32) (S : St) : Option (Int32 × St) := lp (f_X9_heapsOf_7b  (fun v5 S6 => some (v5.2.1, S6))) FU (p1, (0 : Int32), (0 : Int32)) S
theorem c_X9_heapsOf {p1 : Int32} {S : St} {r : Int32} {S' : St} (hf : f_X9_heapsOf p1 S = some (r, S')) : zM yX9_heapsOf cX9_heapsOf 5 3 (some .int) [.ref 98, .int p1] S (some (.int r)) S' := by
  refine zM_of (zpl (by decide)) (Nat.le_of_ble_eq_true rfl) rfl (fun K hK hA => ?_)
  unfold f_X9_heapsOf at hf
  refine j_iload_n hK dX9_heapsOf_0 1 rfl rfl ?_
  refine j_istore_n hK (L' := [(2, .int p1), (0, .ref 98), (1, .int p1)]) dX9_heapsOf_1 rfl (by decide) rfl ?_
  refine j_iconst hK (0 : Int32) dX9_heapsOf_2 ic_0 ?_
  refine j_istore_n hK (L' := [(3, .int (0 : Int32)), (2, .int p1), (0, .ref 98), (1, .int p1)]) dX9_heapsOf_3 rfl (by decide) rfl ?_
  refine j_iconst hK (0 : Int32) dX9_heapsOf_4 ic_0 ?_
  refine j_istore hK (L' := [(4, .int (0 : Int32)), (3, .int (0 : Int32)), (2, .int p1), (0, .ref 98), (1, .int p1)]) dX9_heapsOf_5 (by decide) rfl ?_
  refine j_sub [3, 2, 1, 0] rfl ?_
  refine t_X9_heapsOf_7 hK hA  (fun v5 S6 hf => ?_) _ _ _ hf
  refine j_iload_n hK dX9_heapsOf_54 0 rfl rfl ?_
  exact j_iret hK dX9_heapsOf_55 rfl (rt_I hA hf)
def f_X10_needed_61 (x1 : Int32) (x2 : Int32) (x3 : Int32) (k e : Int32 × Int32 → St → Option (Int32 × St)) (S : St) : Option (Int32 × St) := k (x2, (x3 + (1 : Int32))) S
theorem t_X10_needed_61 {K : CT} (hK : KO K cX10_needed RX10 4 4 (some .int)) {r : Int32} {S' : St} (hA : zans K (some (.int r), S')) {x1 : Int32} {x2 : Int32} {x3 : Int32} {k e : Int32 × Int32 → St → Option (Int32 × St)} (hk : ∀ (v : Int32 × Int32) (S : St), k v S = some (r, S') → J K 15 [(0, .ref 0), (1, .int x1), (2, .int v.1), (3, .int v.2)] [] S) (he : ∀ (v : Int32 × Int32) (S : St), e v S = some (r, S') → J K 67 [(0, .ref 0), (2, .int v.1)] [] S) {S : St} (hf : f_X10_needed_61 x1 x2 x3 k e S = some (r, S')) : J K 61 [(0, .ref 0), (1, .int x1), (2, .int x2), (3, .int x3)] [] S := by
  unfold f_X10_needed_61 at hf
  refine j_iinc hK (L' := [(3, .int (x3 + (1 : Int32))), (0, .ref 0), (1, .int x1), (2, .int x2)]) dX10_needed_61 3 rfl (congrArg (fun y => x3 + y) ic_1) (by decide) rfl ?_
  refine j_goto hK 15 dX10_needed_64 (by decide) ?_
  refine j_sub [1, 2, 3, 0] rfl ?_
  exact hk _ _ hf
def f_X10_needed_15b (x1 : Int32) (e : Int32 × Int32 → St → Option (Int32 × St)) (k : Int32 × Int32 → St → Option (Int32 × St)) (v : Int32 × Int32) (S : St) : Option (Int32 × St) := (if (gI S 3 2) ≤ v.2 then e (v.1, v.2) S else bd (f_X0_isOpen v.2 S) (fun r1 S2 => (if r1 = 0 then f_X10_needed_61 x1 v.1 v.2 k e S2 else bd (f_X9_joinsEnds (x1 &&& (((1 : Int32) <<< (v.2 &&& 31)) ^^^ (-1 : Int32))) v.2 S2) (fun r4 S5 => (if r4 = 0 then lt (v.1 ||| ((1 : Int32) <<< (v.2 &&& 31))) (fun y7 => f_X10_needed_61 x1 y7 v.2 k e S5) else f_X10_needed_61 x1 v.1 v.2 k e S5)))))
theorem t_X10_needed_15 {K : CT} (hK : KO K cX10_needed RX10 4 4 (some .int)) {r : Int32} {S' : St} (hA : zans K (some (.int r), S')) {x1 : Int32} {e : Int32 × Int32 → St → Option (Int32 × St)} (he : ∀ (v : Int32 × Int32) (S : St), e v S = some (r, S') → J K 67 [(0, .ref 0), (2, .int v.1)] [] S) : ∀ (n : Nat) (v : Int32 × Int32) (S : St), lp (f_X10_needed_15b x1 e) n v S = some (r, S') → J K 15 [(0, .ref 0), (1, .int x1), (2, .int v.1), (3, .int v.2)] [] S :=
  lp_J (P := fun (v : Int32 × Int32) (S : St) => J K 15 [(0, .ref 0), (1, .int x1), (2, .int v.1), (3, .int v.2)] [] S) (fun k hk v S hf => by
    unfold f_X10_needed_15b at hf
    refine j_iload_n hK dX10_needed_15 3 rfl rfl ?_
    refine j_aload_n hK dX10_needed_16 0 rfl rfl ?_
    refine j_getR hK fl_X10_19 dX10_needed_17 zo_0 zf_10_1 zr_0_1 ?_
    refine j_getI hK fl_X10_95 dX10_needed_20 zo_3 zf_0_2 ?_
    refine j_icmp_ge hK 67 dX10_needed_23 (by decide) (fun hc => ?_) (fun hc => ?_)
    · replace hf := if_1 hc hf
      refine j_sub [0, 2] rfl ?_
      exact he _ _ hf
    · replace hf := if_2 hc hf
      refine j_aload_n hK dX10_needed_26 0 rfl rfl ?_
      refine j_getR hK fl_X10_19 dX10_needed_27 zo_0 zf_10_1 zr_0_1 ?_
      refine j_iload_n hK dX10_needed_30 3 rfl rfl ?_
      obtain ⟨r1, S2, h3, hf⟩ := bd_J hf
      refine k_callVi hK (c_X0_isOpen h3) dX10_needed_31 zclX0 zo_3 ml_X10_144 mi_X0_isOpen mx_X0_isOpen in_X0 mc_X0_isOpen hy_X0_isOpen ⟨by decide, by decide⟩ rfl (Nat.le_of_ble_eq_true rfl) ?_
      refine j_if_eq hK 61 dX10_needed_34 (by decide) (fun hc => ?_) (fun hc => ?_)
      · replace hf := if_1 hc hf
        exact t_X10_needed_61 hK hA hk he hf
      · replace hf := if_2 hc hf
        refine j_aload_n hK dX10_needed_37 0 rfl rfl ?_
        refine j_getR hK fl_X10_49 dX10_needed_38 zo_0 zf_10_5 zr_0_5 ?_
        refine j_iload_n hK dX10_needed_41 1 rfl rfl ?_
        refine j_iconst hK (1 : Int32) dX10_needed_42 ic_1 ?_
        refine j_iload_n hK dX10_needed_43 3 rfl rfl ?_
        refine j_ishl hK dX10_needed_44 ?_
        refine j_iconst hK (-1 : Int32) dX10_needed_45 ic_m1 ?_
        refine j_pc (pc' := 46) rfl ?_
        refine j_ixor hK dX10_needed_46 ?_
        refine j_iand hK dX10_needed_47 ?_
        refine j_iload_n hK dX10_needed_48 3 rfl rfl ?_
        obtain ⟨r4, S5, h6, hf⟩ := bd_J hf
        refine k_callVi hK (c_X9_joinsEnds h6) dX10_needed_49 zclX9 zo_98 ml_X10_312 mi_X9_joinsEnds mx_X9_joinsEnds in_X9 mc_X9_joinsEnds hy_X9_joinsEnds ⟨by decide, by decide⟩ rfl (Nat.le_of_ble_eq_true rfl) ?_
        refine j_if_ne hK 61 dX10_needed_52 (by decide) (fun hc => ?_) (fun hc => ?_)
        · replace hf := if_2 hc hf
          exact t_X10_needed_61 hK hA hk he hf
        · replace hf := if_1 hc hf
          refine j_iload_n hK dX10_needed_55 2 rfl rfl ?_
          refine j_iconst hK (1 : Int32) dX10_needed_56 ic_1 ?_
          refine j_iload_n hK dX10_needed_57 3 rfl rfl ?_
          refine j_ishl hK dX10_needed_58 ?_
          refine j_ior hK dX10_needed_59 ?_
          refine lt_I hf (fun y7 hf => ?_)
          refine j_istore_n hK (L' := [(2, .int y7), (0, .ref 0), (1, .int x1), (3, .int v.2)]) dX10_needed_60 rfl (by decide) rfl ?_
          refine j_sub [1, 2, 0, 3] rfl ?_
          exact t_X10_needed_61 hK hA hk he hf)
def f_X10_needed (S : St) : Option (Int32 × St) := lt (gI S 6 3) (fun y8 => lp (f_X10_needed_15b y8 (fun v9 S10 => bd (f_X0_enteredCaverns S10) (fun r11 S12 => bd (f_X5_begin S12) (fun r14 S15 => bd (f_J6_bitCount_0f7a4 v9.1 S15) (fun r17 S18 => bd (f_X5_put r17.toInt64 S18) (fun r20 S21 => bd (f_J6_bitCount_0f7a4 r11 S21) (fun r23 S24 => bd (f_X5_put r23.toInt64 S24) (fun r26 S27 => bd (f_X9_heapsOf r11 S27) (fun r29 S30 => bd (f_X5_put r29.toInt64 S30) (fun r32 S33 => some (v9.1, S33))))))))))) FU ((0 : Int32), (0 : Int32)) S)
theorem c_X10_needed {S : St} {r : Int32} {S' : St} (hf : f_X10_needed S = some (r, S')) : zM yX10_needed cX10_needed 4 4 (some .int) [.ref 0] S (some (.int r)) S' := by
  refine zM_of (zpl (by decide)) (Nat.le_of_ble_eq_true rfl) rfl (fun K hK hA => ?_)
  unfold f_X10_needed at hf
  refine j_aload_n hK dX10_needed_0 0 rfl rfl ?_
  refine j_getR hK fl_X10_19 dX10_needed_1 zo_0 zf_10_1 zr_0_1 ?_
  refine j_getR hK fl_X10_129 dX10_needed_4 zo_3 zf_0_3 zr_3_3 ?_
  refine j_getI hK fl_X10_260 dX10_needed_7 zo_6 zf_7_3 ?_
  refine lt_I hf (fun y8 hf => ?_)
  refine j_istore_n hK (L' := [(1, .int y8), (0, .ref 0)]) dX10_needed_10 rfl (by decide) rfl ?_
  refine j_iconst hK (0 : Int32) dX10_needed_11 ic_0 ?_
  refine j_istore_n hK (L' := [(2, .int (0 : Int32)), (1, .int y8), (0, .ref 0)]) dX10_needed_12 rfl (by decide) rfl ?_
  refine j_iconst hK (0 : Int32) dX10_needed_13 ic_0 ?_
  refine j_pc (pc' := 14) rfl ?_
  refine j_istore_n hK (L' := [(3, .int (0 : Int32)), (2, .int (0 : Int32)), (1, .int y8), (0, .ref 0)]) dX10_needed_14 rfl (by decide) rfl ?_
  refine j_sub [3, 2, 1, 0] rfl ?_
  refine t_X10_needed_15 hK hA  (fun v9 S10 hf => ?_) _ _ _ hf
  refine j_aload_n hK dX10_needed_67 0 rfl rfl ?_
  refine j_getR hK fl_X10_19 dX10_needed_68 zo_0 zf_10_1 zr_0_1 ?_
  obtain ⟨r11, S12, h13, hf⟩ := bd_J hf
  refine k_callVi hK (c_X0_enteredCaverns h13) dX10_needed_71 zclX0 zo_3 ml_X10_315 mi_X0_enteredCaverns mx_X0_enteredCaverns in_X0 mc_X0_enteredCaverns hy_X0_enteredCaverns ⟨by decide, by decide⟩ rfl (Nat.le_of_ble_eq_true rfl) ?_
  refine j_istore_n hK (L' := [(3, .int r11), (0, .ref 0), (2, .int v9.1)]) dX10_needed_74 rfl (by decide) rfl ?_
  refine j_aload_n hK dX10_needed_75 1 rfl rfl ?_
  refine j_getR hK fl_X10_26 dX10_needed_76 zo_0 zf_10_2 zr_0_2 ?_
  obtain ⟨r14, S15, h16, hf⟩ := bd_J hf
  refine k_callVv hK (c_X5_begin h16) dX10_needed_79 zclX5 zo_10 ml_X10_185 mi_X5_begin mx_X5_begin in_X5 mc_X5_begin hy_X5_begin ⟨by decide, by decide⟩ rfl (Nat.le_of_ble_eq_true rfl) ?_
  refine j_pc (pc' := 82) rfl ?_
  refine j_aload_n hK dX10_needed_82 1 rfl rfl ?_
  refine j_getR hK fl_X10_26 dX10_needed_83 zo_0 zf_10_2 zr_0_2 ?_
  refine j_iload_n hK dX10_needed_86 2 rfl rfl ?_
  obtain ⟨r17, S18, h19, hf⟩ := bd_J hf
  refine k_callSi hK (c_J6_bitCount_0f7a4 h19) dX10_needed_87 ml_X10_263 ms_J6_bitCount_0f7a4 in_J6 mc_J6_bitCount_0f7a4 hy_J6_bitCount_0f7a4 ⟨by decide, by decide⟩ rfl (Nat.le_of_ble_eq_true rfl) ?_
  refine j_i2l hK dX10_needed_90 ?_
  obtain ⟨r20, S21, h22, hf⟩ := bd_J hf
  refine k_callVv hK (c_X5_put h22) dX10_needed_91 zclX5 zo_10 ml_X10_191 mi_X5_put mx_X5_put in_X5 mc_X5_put hy_X5_put ⟨by decide, by decide⟩ rfl (Nat.le_of_ble_eq_true rfl) ?_
  refine j_aload_n hK dX10_needed_94 1 rfl rfl ?_
  refine j_getR hK fl_X10_26 dX10_needed_95 zo_0 zf_10_2 zr_0_2 ?_
  refine j_pc (pc' := 98) rfl ?_
  refine j_iload_n hK dX10_needed_98 0 rfl rfl ?_
  obtain ⟨r23, S24, h25, hf⟩ := bd_J hf
  refine k_callSi hK (c_J6_bitCount_0f7a4 h25) dX10_needed_99 ml_X10_263 ms_J6_bitCount_0f7a4 in_J6 mc_J6_bitCount_0f7a4 hy_J6_bitCount_0f7a4 ⟨by decide, by decide⟩ rfl (Nat.le_of_ble_eq_true rfl) ?_
  refine j_i2l hK dX10_needed_102 ?_
  obtain ⟨r26, S27, h28, hf⟩ := bd_J hf
  refine k_callVv hK (c_X5_put h28) dX10_needed_103 zclX5 zo_10 ml_X10_191 mi_X5_put mx_X5_put in_X5 mc_X5_put hy_X5_put ⟨by decide, by decide⟩ rfl (Nat.le_of_ble_eq_true rfl) ?_
  refine j_aload_n hK dX10_needed_106 1 rfl rfl ?_
  refine j_getR hK fl_X10_26 dX10_needed_107 zo_0 zf_10_2 zr_0_2 ?_
  refine j_aload_n hK dX10_needed_110 1 rfl rfl ?_
  refine j_getR hK fl_X10_49 dX10_needed_111 zo_0 zf_10_5 zr_0_5 ?_
  refine j_pc (pc' := 114) rfl ?_
  refine j_iload_n hK dX10_needed_114 0 rfl rfl ?_
  obtain ⟨r29, S30, h31, hf⟩ := bd_J hf
  refine k_callVi hK (c_X9_heapsOf h31) dX10_needed_115 zclX9 zo_98 ml_X10_318 mi_X9_heapsOf mx_X9_heapsOf in_X9 mc_X9_heapsOf hy_X9_heapsOf ⟨by decide, by decide⟩ rfl (Nat.le_of_ble_eq_true rfl) ?_
  refine j_i2l hK dX10_needed_118 ?_
  obtain ⟨r32, S33, h34, hf⟩ := bd_J hf
  refine k_callVv hK (c_X5_put h34) dX10_needed_119 zclX5 zo_10 ml_X10_191 mi_X5_put mx_X5_put in_X5 mc_X5_put hy_X5_put ⟨by decide, by decide⟩ rfl (Nat.le_of_ble_eq_true rfl) ?_
  refine j_iload_n hK dX10_needed_122 2 rfl rfl ?_
  exact j_iret hK dX10_needed_123 rfl (rt_I hA hf)
def f_X9_minutesLeft (p1 : Int32) (p2 : Int32) (S : St) : Option (Int32 × St) := if inb ((p1 * (8 : Int32)) + p2) 2048 then some ((gI S 100 ((p1 * (8 : Int32)) + p2).toNatClampNeg), S) else none
theorem c_X9_minutesLeft {p1 : Int32} {p2 : Int32} {S : St} {r : Int32} {S' : St} (hf : f_X9_minutesLeft p1 p2 S = some (r, S')) : zM yX9_minutesLeft cX9_minutesLeft 3 1 (some .int) [.ref 98, .int p1, .int p2] S (some (.int r)) S' := by
  refine zM_of (zpl (by decide)) (Nat.le_of_ble_eq_true rfl) rfl (fun K hK hA => ?_)
  unfold f_X9_minutesLeft at hf
  refine j_aload_n hK dX9_minutesLeft_0 0 rfl rfl ?_
  refine j_getR hK fl_X9_19 dX9_minutesLeft_1 zo_98 zf_9_2 zr_98_2 ?_
  refine j_iload_n hK dX9_minutesLeft_4 1 rfl rfl ?_
  refine j_bipush hK (8 : Int32) dX9_minutesLeft_5 bi_8 ?_
  refine j_imul hK dX9_minutesLeft_7 ?_
  refine j_iload_n hK dX9_minutesLeft_8 2 rfl rfl ?_
  refine j_iadd hK dX9_minutesLeft_9 ?_
  obtain ⟨hi1, hf⟩ := gd hf
  refine k_iald hK dX9_minutesLeft_10 zb_100 hi1 rfl ?_
  refine j_pc (pc' := 11) rfl ?_
  exact j_iret hK dX9_minutesLeft_11 rfl (rt_I hA hf)
def f_X9_minutesBy (p1 : Int32) (p2 : Int32) (p3 : Int32) (S : St) : Option (Int32 × St) := bd (f_X9_farOf p2 p3 S) (fun r1 S2 => bd (f_X9_minutesLeft (p1 &&& (((1 : Int32) <<< (p3 &&& 31)) ^^^ (-1 : Int32))) p3 S2) (fun r4 S5 => some ((r1 + r4), S5)))
theorem c_X9_minutesBy {p1 : Int32} {p2 : Int32} {p3 : Int32} {S : St} {r : Int32} {S' : St} (hf : f_X9_minutesBy p1 p2 p3 S = some (r, S')) : zM yX9_minutesBy cX9_minutesBy 4 2 (some .int) [.ref 98, .int p1, .int p2, .int p3] S (some (.int r)) S' := by
  refine zM_of (zpl (by decide)) (Nat.le_of_ble_eq_true rfl) rfl (fun K hK hA => ?_)
  unfold f_X9_minutesBy at hf
  refine j_aload_n hK dX9_minutesBy_0 0 rfl rfl ?_
  refine j_iload_n hK dX9_minutesBy_1 2 rfl rfl ?_
  refine j_iload_n hK dX9_minutesBy_2 3 rfl rfl ?_
  obtain ⟨r1, S2, h3, hf⟩ := bd_J hf
  refine k_callVi hK (c_X9_farOf h3) dX9_minutesBy_3 zclX9 zo_98 ml_X9_51 mi_X9_farOf mx_X9_farOf in_X9 mc_X9_farOf hy_X9_farOf ⟨by decide, by decide⟩ rfl (Nat.le_of_ble_eq_true rfl) ?_
  refine j_aload_n hK dX9_minutesBy_6 0 rfl rfl ?_
  refine j_iload_n hK dX9_minutesBy_7 1 rfl rfl ?_
  refine j_iconst hK (1 : Int32) dX9_minutesBy_8 ic_1 ?_
  refine j_iload_n hK dX9_minutesBy_9 3 rfl rfl ?_
  refine j_pc (pc' := 10) rfl ?_
  refine j_ishl hK dX9_minutesBy_10 ?_
  refine j_iconst hK (-1 : Int32) dX9_minutesBy_11 ic_m1 ?_
  refine j_ixor hK dX9_minutesBy_12 ?_
  refine j_iand hK dX9_minutesBy_13 ?_
  refine j_iload_n hK dX9_minutesBy_14 3 rfl rfl ?_
  obtain ⟨r4, S5, h6, hf⟩ := bd_J hf
  refine k_callVi hK (c_X9_minutesLeft h6) dX9_minutesBy_15 zclX9 zo_98 ml_X9_87 mi_X9_minutesLeft mx_X9_minutesLeft in_X9 mc_X9_minutesLeft hy_X9_minutesLeft ⟨by decide, by decide⟩ rfl (Nat.le_of_ble_eq_true rfl) ?_
  refine j_iadd hK dX9_minutesBy_18 ?_
  exact j_iret hK dX9_minutesBy_19 rfl (rt_I hA hf)
def f_X9_nextOfTour_60 (x1 : Int32) (x2 : Int32) (x3 : Int32) (x4 : Int32) (k e : Int32 × Int32 → St → Option (Int32 × St)) (S : St) : Option (Int32 × St) := k (x3, (x4 + (1 : Int32))) S
theorem t_X9_nextOfTour_60 {K : CT} (hK : KO K cX9_nextOfTour RX9 6 3 (some .int)) {r : Int32} {S' : St} (hA : zans K (some (.int r), S')) {x1 : Int32} {x2 : Int32} {x3 : Int32} {x4 : Int32} {k e : Int32 × Int32 → St → Option (Int32 × St)} (hk : ∀ (v : Int32 × Int32) (S : St), k v S = some (r, S') → J K 5 [(0, .ref 98), (1, .int x1), (2, .int x2), (3, .int v.1), (4, .int v.2)] [] S) (he : ∀ (v : Int32 × Int32) (S : St), e v S = some (r, S') → J K 66 [(3, .int v.1)] [] S) {S : St} (hf : f_X9_nextOfTour_60 x1 x2 x3 x4 k e S = some (r, S')) : J K 60 [(0, .ref 98), (1, .int x1), (2, .int x2), (3, .int x3), (4, .int x4)] [] S := by
  unfold f_X9_nextOfTour_60 at hf
  refine j_iinc hK (L' := [(4, .int (x4 + (1 : Int32))), (0, .ref 98), (1, .int x1), (2, .int x2), (3, .int x3)]) dX9_nextOfTour_60 4 rfl (congrArg (fun y => x4 + y) ic_1) (by decide) rfl ?_
  refine j_goto hK 5 dX9_nextOfTour_63 (by decide) ?_
  refine j_sub [1, 2, 3, 4, 0] rfl ?_
  exact hk _ _ hf
def f_X9_nextOfTour_57 (x1 : Int32) (x2 : Int32) (x4 : Int32) (k e : Int32 × Int32 → St → Option (Int32 × St)) (S : St) : Option (Int32 × St) := f_X9_nextOfTour_60 x1 x2 x4 x4 k e S
theorem t_X9_nextOfTour_57 {K : CT} (hK : KO K cX9_nextOfTour RX9 6 3 (some .int)) {r : Int32} {S' : St} (hA : zans K (some (.int r), S')) {x1 : Int32} {x2 : Int32} {x4 : Int32} {k e : Int32 × Int32 → St → Option (Int32 × St)} (hk : ∀ (v : Int32 × Int32) (S : St), k v S = some (r, S') → J K 5 [(0, .ref 98), (1, .int x1), (2, .int x2), (3, .int v.1), (4, .int v.2)] [] S) (he : ∀ (v : Int32 × Int32) (S : St), e v S = some (r, S') → J K 66 [(3, .int v.1)] [] S) {S : St} (hf : f_X9_nextOfTour_57 x1 x2 x4 k e S = some (r, S')) : J K 57 [(0, .ref 98), (1, .int x1), (2, .int x2), (4, .int x4)] [] S := by
  unfold f_X9_nextOfTour_57 at hf
  refine j_iload hK dX9_nextOfTour_57 3 rfl ?_
  refine j_istore_n hK (L' := [(3, .int x4), (0, .ref 98), (1, .int x1), (2, .int x2), (4, .int x4)]) dX9_nextOfTour_59 rfl (by decide) rfl ?_
  refine j_sub [1, 2, 3, 0, 4] rfl ?_
  exact t_X9_nextOfTour_60 hK hA hk he hf
def f_X9_nextOfTour_27 (x1 : Int32) (x2 : Int32) (x3 : Int32) (x4 : Int32) (s0 : Int32) (k e : Int32 × Int32 → St → Option (Int32 × St)) (S : St) : Option (Int32 × St) := (if s0 = 0 then f_X9_nextOfTour_60 x1 x2 x3 x4 k e S else (if x3 = (-1 : Int32) then f_X9_nextOfTour_57 x1 x2 x4 k e S else bd (f_X9_minutesBy x1 x2 x4 S) (fun r1 S2 => bd (f_X9_minutesBy x1 x2 x3 S2) (fun r4 S5 => (if r4 ≤ r1 then f_X9_nextOfTour_60 x1 x2 x3 x4 k e S5 else f_X9_nextOfTour_57 x1 x2 x4 k e S5)))))
theorem t_X9_nextOfTour_27 {K : CT} (hK : KO K cX9_nextOfTour RX9 6 3 (some .int)) {r : Int32} {S' : St} (hA : zans K (some (.int r), S')) {x1 : Int32} {x2 : Int32} {x3 : Int32} {x4 : Int32} {s0 : Int32} {k e : Int32 × Int32 → St → Option (Int32 × St)} (hk : ∀ (v : Int32 × Int32) (S : St), k v S = some (r, S') → J K 5 [(0, .ref 98), (1, .int x1), (2, .int x2), (3, .int v.1), (4, .int v.2)] [] S) (he : ∀ (v : Int32 × Int32) (S : St), e v S = some (r, S') → J K 66 [(3, .int v.1)] [] S) {S : St} (hf : f_X9_nextOfTour_27 x1 x2 x3 x4 s0 k e S = some (r, S')) : J K 27 [(0, .ref 98), (1, .int x1), (2, .int x2), (3, .int x3), (4, .int x4)] [.int s0] S := by
  unfold f_X9_nextOfTour_27 at hf
  refine j_istore hK (L' := [(5, .int s0), (0, .ref 98), (1, .int x1), (2, .int x2), (3, .int x3), (4, .int x4)]) dX9_nextOfTour_27 (by decide) rfl ?_
  refine j_iload hK dX9_nextOfTour_29 0 rfl ?_
  refine j_if_eq hK 60 dX9_nextOfTour_31 (by decide) (fun hc => ?_) (fun hc => ?_)
  · replace hf := if_1 hc hf
    refine j_sub [1, 2, 3, 4, 5] rfl ?_
    exact t_X9_nextOfTour_60 hK hA hk he hf
  · replace hf := if_2 hc hf
    refine j_iload_n hK dX9_nextOfTour_34 4 rfl rfl ?_
    refine j_iconst hK (-1 : Int32) dX9_nextOfTour_35 ic_m1 ?_
    refine j_icmp_eq hK 57 dX9_nextOfTour_36 (by decide) (fun hc => ?_) (fun hc => ?_)
    · replace hf := if_1 hc hf
      refine j_sub [1, 2, 3, 5] rfl ?_
      exact t_X9_nextOfTour_57 hK hA hk he hf
    · replace hf := if_2 hc hf
      refine j_aload_n hK dX9_nextOfTour_39 1 rfl rfl ?_
      refine j_iload_n hK dX9_nextOfTour_40 2 rfl rfl ?_
      refine j_iload_n hK dX9_nextOfTour_41 3 rfl rfl ?_
      refine j_iload hK dX9_nextOfTour_42 5 rfl ?_
      obtain ⟨r1, S2, h3, hf⟩ := bd_J hf
      refine k_callVi hK (c_X9_minutesBy h3) dX9_nextOfTour_44 zclX9 zo_98 ml_X9_83 mi_X9_minutesBy mx_X9_minutesBy in_X9 mc_X9_minutesBy hy_X9_minutesBy ⟨by decide, by decide⟩ rfl (Nat.le_of_ble_eq_true rfl) ?_
      refine j_aload_n hK dX9_nextOfTour_47 1 rfl rfl ?_
      refine j_iload_n hK dX9_nextOfTour_48 2 rfl rfl ?_
      refine j_pc (pc' := 49) rfl ?_
      refine j_iload_n hK dX9_nextOfTour_49 3 rfl rfl ?_
      refine j_iload_n hK dX9_nextOfTour_50 4 rfl rfl ?_
      obtain ⟨r4, S5, h6, hf⟩ := bd_J hf
      refine k_callVi hK (c_X9_minutesBy h6) dX9_nextOfTour_51 zclX9 zo_98 ml_X9_83 mi_X9_minutesBy mx_X9_minutesBy in_X9 mc_X9_minutesBy hy_X9_minutesBy ⟨by decide, by decide⟩ rfl (Nat.le_of_ble_eq_true rfl) ?_
      refine j_icmp_ge hK 60 dX9_nextOfTour_54 (by decide) (fun hc => ?_) (fun hc => ?_)
      · replace hf := if_1 hc hf
        refine j_sub [1, 2, 3, 4, 5] rfl ?_
        exact t_X9_nextOfTour_60 hK hA hk he hf
      · replace hf := if_2 hc hf
        refine j_sub [1, 2, 3, 5] rfl ?_
        exact t_X9_nextOfTour_57 hK hA hk he hf
def f_X9_nextOfTour_5b (x1 : Int32) (x2 : Int32) (e : Int32 × Int32 → St → Option (Int32 × St)) (k : Int32 × Int32 → St → Option (Int32 × St)) (v : Int32 × Int32) (S : St) : Option (Int32 × St) := (if (8 : Int32) ≤ v.2 then e (v.1, v.2) S else (if ((x1 >>> (v.2 &&& 31)) &&& (1 : Int32)) = (1 : Int32) then f_X9_nextOfTour_27 x1 x2 v.1 v.2 (1 : Int32) k e S else f_X9_nextOfTour_27 x1 x2 v.1 v.2 (0 : Int32) k e S))
theorem t_X9_nextOfTour_5 {K : CT} (hK : KO K cX9_nextOfTour RX9 6 3 (some .int)) {r : Int32} {S' : St} (hA : zans K (some (.int r), S')) {x1 : Int32} {x2 : Int32} {e : Int32 × Int32 → St → Option (Int32 × St)} (he : ∀ (v : Int32 × Int32) (S : St), e v S = some (r, S') → J K 66 [(3, .int v.1)] [] S) : ∀ (n : Nat) (v : Int32 × Int32) (S : St), lp (f_X9_nextOfTour_5b x1 x2 e) n v S = some (r, S') → J K 5 [(0, .ref 98), (1, .int x1), (2, .int x2), (3, .int v.1), (4, .int v.2)] [] S :=
  lp_J (P := fun (v : Int32 × Int32) (S : St) => J K 5 [(0, .ref 98), (1, .int x1), (2, .int x2), (3, .int v.1), (4, .int v.2)] [] S) (fun k hk v S hf => by
    unfold f_X9_nextOfTour_5b at hf
    refine j_iload hK dX9_nextOfTour_5 4 rfl ?_
    refine j_bipush hK (8 : Int32) dX9_nextOfTour_7 bi_8 ?_
    refine j_icmp_ge hK 66 dX9_nextOfTour_9 (by decide) (fun hc => ?_) (fun hc => ?_)
    · replace hf := if_1 hc hf
      refine j_sub [3] rfl ?_
      exact he _ _ hf
    · replace hf := if_2 hc hf
      refine j_iload_n hK dX9_nextOfTour_12 1 rfl rfl ?_
      refine j_iload hK dX9_nextOfTour_13 4 rfl ?_
      refine j_ishr hK dX9_nextOfTour_15 ?_
      refine j_iconst hK (1 : Int32) dX9_nextOfTour_16 ic_1 ?_
      refine j_iand hK dX9_nextOfTour_17 ?_
      refine j_iconst hK (1 : Int32) dX9_nextOfTour_18 ic_1 ?_
      refine j_icmp_ne hK 26 dX9_nextOfTour_19 (by decide) (fun hc => ?_) (fun hc => ?_)
      · replace hf := if_2 hc hf
        refine j_iconst hK (0 : Int32) dX9_nextOfTour_26 ic_0 ?_
        exact t_X9_nextOfTour_27 hK hA hk he hf
      · replace hf := if_1 hc hf
        refine j_iconst hK (1 : Int32) dX9_nextOfTour_22 ic_1 ?_
        refine j_goto hK 27 dX9_nextOfTour_23 (by decide) ?_
        exact t_X9_nextOfTour_27 hK hA hk he hf)
def f_X9_nextOfTour (p1 : Int32) (p2 : Int32) (S : St) : Option (Int32 × St) := lp (f_X9_nextOfTour_5b p1 p2 (fun v7 S8 => some (v7.1, S8))) FU ((-1 : Int32), (0 : Int32)) S
theorem c_X9_nextOfTour {p1 : Int32} {p2 : Int32} {S : St} {r : Int32} {S' : St} (hf : f_X9_nextOfTour p1 p2 S = some (r, S')) : zM yX9_nextOfTour cX9_nextOfTour 6 3 (some .int) [.ref 98, .int p1, .int p2] S (some (.int r)) S' := by
  refine zM_of (zpl (by decide)) (Nat.le_of_ble_eq_true rfl) rfl (fun K hK hA => ?_)
  unfold f_X9_nextOfTour at hf
  refine j_iconst hK (-1 : Int32) dX9_nextOfTour_0 ic_m1 ?_
  refine j_istore_n hK (L' := [(3, .int (-1 : Int32)), (0, .ref 98), (1, .int p1), (2, .int p2)]) dX9_nextOfTour_1 rfl (by decide) rfl ?_
  refine j_iconst hK (0 : Int32) dX9_nextOfTour_2 ic_0 ?_
  refine j_istore hK (L' := [(4, .int (0 : Int32)), (3, .int (-1 : Int32)), (0, .ref 98), (1, .int p1), (2, .int p2)]) dX9_nextOfTour_3 (by decide) rfl ?_
  refine j_sub [2, 3, 4, 1, 0] rfl ?_
  refine t_X9_nextOfTour_5 hK hA  (fun v7 S8 hf => ?_) _ _ _ hf
  refine j_iload_n hK dX9_nextOfTour_66 0 rfl rfl ?_
  exact j_iret hK dX9_nextOfTour_67 rfl (rt_I hA hf)
def f_X9_planTours_77 (x1 : Int32) (x2 : Int32) (x3 : Int32) (k e : Int32 → St → Option (Unit × St)) (S : St) : Option (Unit × St) := k (x3 + (1 : Int32)) S
theorem t_X9_planTours_77 {K : CT} (hK : KO K cX9_planTours RX9 6 4 none) {r : Unit} {S' : St} (hA : zans K (none, S')) {x1 : Int32} {x2 : Int32} {x3 : Int32} {k e : Int32 → St → Option (Unit × St)} (hk : ∀ (v : Int32) (S : St), k v S = some (r, S') → J K 2 [(0, .ref 98), (1, .int x1), (2, .int x2), (3, .int v)] [] S) (he : ∀ (v : Int32) (S : St), e v S = some (r, S') → J K 83 [] [] S) {S : St} (hf : f_X9_planTours_77 x1 x2 x3 k e S = some (r, S')) : J K 77 [(0, .ref 98), (1, .int x1), (2, .int x2), (3, .int x3)] [] S := by
  unfold f_X9_planTours_77 at hf
  refine j_iinc hK (L' := [(3, .int (x3 + (1 : Int32))), (0, .ref 98), (1, .int x1), (2, .int x2)]) dX9_planTours_77 3 rfl (congrArg (fun y => x3 + y) ic_1) (by decide) rfl ?_
  refine j_goto hK 2 dX9_planTours_80 (by decide) ?_
  refine j_sub [1, 2, 3, 0] rfl ?_
  exact hk _ _ hf
def f_X9_planTours_70 (x1 : Int32) (x2 : Int32) (x3 : Int32) (x4 : Int32) (s1 : Int32) (s2 : Int32) (k e : Int32 → St → Option (Unit × St)) (S : St) : Option (Unit × St) := if inb s1 2048 then lt (sI S 100 s1.toNatClampNeg s2) (fun S2 => k (x4 + (1 : Int32)) S2) else none
theorem t_X9_planTours_70 {K : CT} (hK : KO K cX9_planTours RX9 6 4 none) {r : Unit} {S' : St} (hA : zans K (none, S')) {x1 : Int32} {x2 : Int32} {x3 : Int32} {x4 : Int32} {s1 : Int32} {s2 : Int32} {k e : Int32 → St → Option (Unit × St)} (hk : ∀ (v : Int32) (S : St), k v S = some (r, S') → J K 18 [(0, .ref 98), (1, .int x1), (2, .int x2), (3, .int x3), (4, .int v)] [] S) (he : ∀ (v : Int32) (S : St), e v S = some (r, S') → J K 77 [(0, .ref 98), (1, .int x1), (2, .int x2), (3, .int x3)] [] S) {S : St} (hf : f_X9_planTours_70 x1 x2 x3 x4 s1 s2 k e S = some (r, S')) : J K 70 [(0, .ref 98), (1, .int x1), (2, .int x2), (3, .int x3), (4, .int x4)] [.int s2, .int s1, .ref 100] S := by
  unfold f_X9_planTours_70 at hf
  obtain ⟨hi1, hf⟩ := gd hf
  refine k_iast hK dX9_planTours_70 zb_100 hi1 rfl ?_
  refine lt_S hf (fun S2 hf => ?_)
  refine j_iinc hK (L' := [(4, .int (x4 + (1 : Int32))), (0, .ref 98), (1, .int x1), (2, .int x2), (3, .int x3)]) dX9_planTours_71 4 rfl (congrArg (fun y => x4 + y) ic_1) (by decide) rfl ?_
  refine j_goto hK 18 dX9_planTours_74 (by decide) ?_
  refine j_sub [1, 2, 3, 4, 0] rfl ?_
  exact hk _ _ hf
def f_X9_planTours_18b (x1 : Int32) (x2 : Int32) (x3 : Int32) (e : Int32 → St → Option (Unit × St)) (k : Int32 → St → Option (Unit × St)) (v : Int32) (S : St) : Option (Unit × St) := (if (8 : Int32) ≤ v then e v S else bd (f_X9_nextOfTour x3 v S) (fun r3 S4 => (if r3 = (-1 : Int32) then bd (f_X9_farOf v x1 S4) (fun r9 S10 => f_X9_planTours_70 x1 x2 x3 v ((x3 * (8 : Int32)) + v) r9 k e S10) else bd (f_X9_minutesBy x3 v r3 S4) (fun r6 S7 => f_X9_planTours_70 x1 x2 x3 v ((x3 * (8 : Int32)) + v) r6 k e S7))))
theorem t_X9_planTours_18 {K : CT} (hK : KO K cX9_planTours RX9 6 4 none) {r : Unit} {S' : St} (hA : zans K (none, S')) {x1 : Int32} {x2 : Int32} {x3 : Int32} {e : Int32 → St → Option (Unit × St)} (he : ∀ (v : Int32) (S : St), e v S = some (r, S') → J K 77 [(0, .ref 98), (1, .int x1), (2, .int x2), (3, .int x3)] [] S) : ∀ (n : Nat) (v : Int32) (S : St), lp (f_X9_planTours_18b x1 x2 x3 e) n v S = some (r, S') → J K 18 [(0, .ref 98), (1, .int x1), (2, .int x2), (3, .int x3), (4, .int v)] [] S :=
  lp_J (P := fun (v : Int32) (S : St) => J K 18 [(0, .ref 98), (1, .int x1), (2, .int x2), (3, .int x3), (4, .int v)] [] S) (fun k hk v S hf => by
    unfold f_X9_planTours_18b at hf
    refine j_iload hK dX9_planTours_18 4 rfl ?_
    refine j_bipush hK (8 : Int32) dX9_planTours_20 bi_8 ?_
    refine j_icmp_ge hK 77 dX9_planTours_22 (by decide) (fun hc => ?_) (fun hc => ?_)
    · replace hf := if_1 hc hf
      refine j_sub [0, 1, 2, 3] rfl ?_
      exact he _ _ hf
    · replace hf := if_2 hc hf
      refine j_aload_n hK dX9_planTours_25 0 rfl rfl ?_
      refine j_iload_n hK dX9_planTours_26 3 rfl rfl ?_
      refine j_iload hK dX9_planTours_27 4 rfl ?_
      obtain ⟨r3, S4, h5, hf⟩ := bd_J hf
      refine k_callVi hK (c_X9_nextOfTour h5) dX9_planTours_29 zclX9 zo_98 ml_X9_80 mi_X9_nextOfTour mx_X9_nextOfTour in_X9 mc_X9_nextOfTour hy_X9_nextOfTour ⟨by decide, by decide⟩ rfl (Nat.le_of_ble_eq_true rfl) ?_
      refine j_istore hK (L' := [(5, .int r3), (0, .ref 98), (1, .int x1), (2, .int x2), (3, .int x3), (4, .int v)]) dX9_planTours_32 (by decide) rfl ?_
      refine j_aload_n hK dX9_planTours_34 1 rfl rfl ?_
      refine j_getR hK fl_X9_19 dX9_planTours_35 zo_98 zf_9_2 zr_98_2 ?_
      refine j_pc (pc' := 38) rfl ?_
      refine j_iload_n hK dX9_planTours_38 4 rfl rfl ?_
      refine j_bipush hK (8 : Int32) dX9_planTours_39 bi_8 ?_
      refine j_imul hK dX9_planTours_41 ?_
      refine j_iload hK dX9_planTours_42 5 rfl ?_
      refine j_iadd hK dX9_planTours_44 ?_
      refine j_iload hK dX9_planTours_45 0 rfl ?_
      refine j_iconst hK (-1 : Int32) dX9_planTours_47 ic_m1 ?_
      refine j_icmp_ne hK 61 dX9_planTours_48 (by decide) (fun hc => ?_) (fun hc => ?_)
      · replace hf := if_2 hc hf
        refine j_aload_n hK dX9_planTours_61 1 rfl rfl ?_
        refine j_iload_n hK dX9_planTours_62 4 rfl rfl ?_
        refine j_iload hK dX9_planTours_63 5 rfl ?_
        refine j_iload hK dX9_planTours_65 0 rfl ?_
        obtain ⟨r6, S7, h8, hf⟩ := bd_J hf
        refine k_callVi hK (c_X9_minutesBy h8) dX9_planTours_67 zclX9 zo_98 ml_X9_83 mi_X9_minutesBy mx_X9_minutesBy in_X9 mc_X9_minutesBy hy_X9_minutesBy ⟨by decide, by decide⟩ rfl (Nat.le_of_ble_eq_true rfl) ?_
        refine j_sub [1, 2, 3, 4, 5] rfl ?_
        exact t_X9_planTours_70 hK hA hk he hf
      · replace hf := if_1 hc hf
        refine j_aload_n hK dX9_planTours_51 1 rfl rfl ?_
        refine j_iload hK dX9_planTours_52 5 rfl ?_
        refine j_iload_n hK dX9_planTours_54 2 rfl rfl ?_
        obtain ⟨r9, S10, h11, hf⟩ := bd_J hf
        refine k_callVi hK (c_X9_farOf h11) dX9_planTours_55 zclX9 zo_98 ml_X9_51 mi_X9_farOf mx_X9_farOf in_X9 mc_X9_farOf hy_X9_farOf ⟨by decide, by decide⟩ rfl (Nat.le_of_ble_eq_true rfl) ?_
        refine j_goto hK 70 dX9_planTours_58 (by decide) ?_
        refine j_sub [1, 2, 3, 4, 5] rfl ?_
        exact t_X9_planTours_70 hK hA hk he hf)
def f_X9_planTours_2b (x1 : Int32) (x2 : Int32) (e : Int32 → St → Option (Unit × St)) (k : Int32 → St → Option (Unit × St)) (v : Int32) (S : St) : Option (Unit × St) := (if x2 < v then e v S else (if (v &&& (x2 ^^^ (-1 : Int32))) = 0 then lp (f_X9_planTours_18b x1 x2 v (fun v12 S13 => f_X9_planTours_77 x1 x2 v k e S13)) FU (0 : Int32) S else f_X9_planTours_77 x1 x2 v k e S))
theorem t_X9_planTours_2 {K : CT} (hK : KO K cX9_planTours RX9 6 4 none) {r : Unit} {S' : St} (hA : zans K (none, S')) {x1 : Int32} {x2 : Int32} {e : Int32 → St → Option (Unit × St)} (he : ∀ (v : Int32) (S : St), e v S = some (r, S') → J K 83 [] [] S) : ∀ (n : Nat) (v : Int32) (S : St), lp (f_X9_planTours_2b x1 x2 e) n v S = some (r, S') → J K 2 [(0, .ref 98), (1, .int x1), (2, .int x2), (3, .int v)] [] S :=
  lp_J (P := fun (v : Int32) (S : St) => J K 2 [(0, .ref 98), (1, .int x1), (2, .int x2), (3, .int v)] [] S) (fun k hk v S hf => by
    unfold f_X9_planTours_2b at hf
    refine j_iload_n hK dX9_planTours_2 3 rfl rfl ?_
    refine j_iload_n hK dX9_planTours_3 2 rfl rfl ?_
    refine j_icmp_gt hK 83 dX9_planTours_4 (by decide) (fun hc => ?_) (fun hc => ?_)
    · replace hf := if_1 hc hf
      refine j_sub [] rfl ?_
      exact he _ _ hf
    · replace hf := if_2 hc hf
      refine j_iload_n hK dX9_planTours_7 3 rfl rfl ?_
      refine j_iload_n hK dX9_planTours_8 2 rfl rfl ?_
      refine j_iconst hK (-1 : Int32) dX9_planTours_9 ic_m1 ?_
      refine j_ixor hK dX9_planTours_10 ?_
      refine j_iand hK dX9_planTours_11 ?_
      refine j_if_ne hK 77 dX9_planTours_12 (by decide) (fun hc => ?_) (fun hc => ?_)
      · replace hf := if_2 hc hf
        exact t_X9_planTours_77 hK hA hk he hf
      · replace hf := if_1 hc hf
        refine j_iconst hK (0 : Int32) dX9_planTours_15 ic_0 ?_
        refine j_istore hK (L' := [(4, .int (0 : Int32)), (0, .ref 98), (1, .int x1), (2, .int x2), (3, .int v)]) dX9_planTours_16 (by decide) rfl ?_
        refine j_sub [1, 2, 3, 4, 0] rfl ?_
        refine t_X9_planTours_18 hK hA  (fun v12 S13 hf => ?_) _ _ _ hf
        exact t_X9_planTours_77 hK hA hk he hf)
def f_X9_planTours (p1 : Int32) (p2 : Int32) (S : St) : Option (Unit × St) := lp (f_X9_planTours_2b p1 p2 (fun v14 S15 => some ((), S15))) FU (0 : Int32) S
theorem c_X9_planTours {p1 : Int32} {p2 : Int32} {S : St} {r : Unit} {S' : St} (hf : f_X9_planTours p1 p2 S = some (r, S')) : zM yX9_planTours cX9_planTours 6 4 none [.ref 98, .int p1, .int p2] S (none) S' := by
  refine zM_of (zpl (by decide)) (Nat.le_of_ble_eq_true rfl) rfl (fun K hK hA => ?_)
  unfold f_X9_planTours at hf
  refine j_iconst hK (0 : Int32) dX9_planTours_0 ic_0 ?_
  refine j_istore_n hK (L' := [(3, .int (0 : Int32)), (0, .ref 98), (1, .int p1), (2, .int p2)]) dX9_planTours_1 rfl (by decide) rfl ?_
  refine j_sub [1, 2, 3, 0] rfl ?_
  refine t_X9_planTours_2 hK hA  (fun v14 S15 hf => ?_) _ _ _ hf
  exact j_vret hK dX9_planTours_83 rfl (rt_V hA hf)
