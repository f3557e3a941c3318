def f_X10_keptBy_56 (ru : Nat) (x2 : Int32) (x3 : Int32) (x4 : Int32) (k e : Int32 × Int32 → St → Option (Int32 × St)) (S : St) : Option (Int32 × St) := k (x2, (x4 + (1 : Int32))) S
theorem t_X10_keptBy_56 {K : CT} (hK : KO K cX10_keptBy RX10 5 5 (some .int)) {r : Int32} {S' : St} (hA : zans K (some (.int r), S')) {ru : Nat} (hru : isRule ru) {x2 : Int32} {x3 : Int32} {x4 : Int32} {k e : Int32 × Int32 → St → Option (Int32 × St)} (hk : ∀ (v : Int32 × Int32) (S : St), k v S = some (r, S') → J K 21 [(0, .ref 0), (2, .int v.1), (3, .int x3), (4, .int v.2)] [] S) (he : ∀ (v : Int32 × Int32) (S : St), e v S = some (r, S') → J K 62 [(0, .ref 0), (2, .int v.1), (3, .int x3)] [] S) {S : St} (hf : f_X10_keptBy_56 ru x2 x3 x4 k e S = some (r, S')) : J K 56 [(0, .ref 0), (2, .int x2), (3, .int x3), (4, .int x4)] [] S := by
  unfold f_X10_keptBy_56 at hf
  refine j_iinc hK (L' := [(4, .int (x4 + (1 : Int32))), (0, .ref 0), (2, .int x2), (3, .int x3)]) dX10_keptBy_56 3 rfl (congrArg (fun y => x4 + y) ic_1) (by decide) rfl ?_
  refine j_goto hK 21 dX10_keptBy_59 (by decide) ?_
  refine j_sub [1, 2, 3, 0] rfl ?_
  exact hk _ _ hf
def f_X10_keptBy_21b (ru : Nat) (x3 : Int32) (e : Int32 × Int32 → St → Option (Int32 × St)) (k : Int32 × Int32 → St → Option (Int32 × St)) (v : Int32 × Int32) (S : St) : Option (Int32 × St) := (if (gI S 3 2) ≤ v.2 then e (v.1, v.2) S else bd (f_X2_goes x3 v.2 S) (fun r1 S2 => (if r1 = 0 then f_X10_keptBy_56 ru v.1 x3 v.2 k e S2 else bd (f_X2_keptByLearntSteps S2) (fun r4 S5 => lt (v.1 + r4) (fun y7 => f_X10_keptBy_56 ru y7 x3 v.2 k e S5)))))
theorem t_X10_keptBy_21 {K : CT} (hK : KO K cX10_keptBy RX10 5 5 (some .int)) {r : Int32} {S' : St} (hA : zans K (some (.int r), S')) {ru : Nat} (hru : isRule ru) {x3 : Int32} {e : Int32 × Int32 → St → Option (Int32 × St)} (he : ∀ (v : Int32 × Int32) (S : St), e v S = some (r, S') → J K 62 [(0, .ref 0), (2, .int v.1), (3, .int x3)] [] S) : ∀ (n : Nat) (v : Int32 × Int32) (S : St), lp (f_X10_keptBy_21b ru x3 e) n v S = some (r, S') → J K 21 [(0, .ref 0), (2, .int v.1), (3, .int x3), (4, .int v.2)] [] S :=
  lp_J (P := fun (v : Int32 × Int32) (S : St) => J K 21 [(0, .ref 0), (2, .int v.1), (3, .int x3), (4, .int v.2)] [] S) (fun k hk v S hf => by
    unfold f_X10_keptBy_21b at hf
    refine j_iload hK dX10_keptBy_21 3 rfl ?_
    refine j_aload_n hK dX10_keptBy_23 0 rfl rfl ?_
    refine j_getR hK fl_X10_19 dX10_keptBy_24 zo_0 zf_10_1 zr_0_1 ?_
    refine j_getI hK fl_X10_95 dX10_keptBy_27 zo_3 zf_0_2 ?_
    refine j_icmp_ge hK 62 dX10_keptBy_30 (by decide) (fun hc => ?_) (fun hc => ?_)
    · replace hf := if_1 hc hf
      refine j_sub [0, 1, 2] rfl ?_
      exact he _ _ hf
    · replace hf := if_2 hc hf
      refine j_aload_n hK dX10_keptBy_33 0 rfl rfl ?_
      refine j_getR hK fl_X10_42 dX10_keptBy_34 zo_0 zf_10_4 zr_0_4 ?_
      refine j_iload_n hK dX10_keptBy_37 2 rfl rfl ?_
      refine j_iload hK dX10_keptBy_38 3 rfl ?_
      obtain ⟨r1, S2, h3, hf⟩ := bd_J hf
      refine k_callVi hK (c_X2_goes h3) dX10_keptBy_40 zclX2 zo_92 ml_X10_236 mi_X2_goes mx_X2_goes in_X2 mc_X2_goes hy_X2_goes ⟨by decide, by decide⟩ rfl (Nat.le_of_ble_eq_true rfl) ?_
      refine j_if_eq hK 56 dX10_keptBy_43 (by decide) (fun hc => ?_) (fun hc => ?_)
      · replace hf := if_1 hc hf
        exact t_X10_keptBy_56 hK hA hru hk he hf
      · replace hf := if_2 hc hf
        refine j_iload_n hK dX10_keptBy_46 1 rfl rfl ?_
        refine j_aload_n hK dX10_keptBy_47 0 rfl rfl ?_
        refine j_getR hK fl_X10_42 dX10_keptBy_48 zo_0 zf_10_4 zr_0_4 ?_
        obtain ⟨r4, S5, h6, hf⟩ := bd_J hf
        refine k_callVi hK (c_X2_keptByLearntSteps h6) dX10_keptBy_51 zclX2 zo_92 ml_X10_403 mi_X2_keptByLearntSteps mx_X2_keptByLearntSteps in_X2 mc_X2_keptByLearntSteps hy_X2_keptByLearntSteps ⟨by decide, by decide⟩ rfl (Nat.le_of_ble_eq_true rfl) ?_
        refine j_iadd hK dX10_keptBy_54 ?_
        refine lt_I hf (fun y7 hf => ?_)
        refine j_istore_n hK (L' := [(2, .int y7), (0, .ref 0), (3, .int x3), (4, .int v.2)]) dX10_keptBy_55 rfl (by decide) rfl ?_
        refine j_sub [1, 0, 2, 3] rfl ?_
        exact t_X10_keptBy_56 hK hA hru hk he hf)
def f_X10_keptBy_12b (ru : Nat) (e : Int32 × Int32 → St → Option (Int32 × St)) (k : Int32 × Int32 → St → Option (Int32 × St)) (v : Int32 × Int32) (S : St) : Option (Int32 × St) := (if (8 : Int32) ≤ v.2 then e (v.1, v.2) S else lp (f_X10_keptBy_21b ru v.2 (fun v8 S9 => k (v8.1, (v.2 + (1 : Int32))) S9)) FU (v.1, (0 : Int32)) S)
theorem t_X10_keptBy_12 {K : CT} (hK : KO K cX10_keptBy RX10 5 5 (some .int)) {r : Int32} {S' : St} (hA : zans K (some (.int r), S')) {ru : Nat} (hru : isRule ru) {e : Int32 × Int32 → St → Option (Int32 × St)} (he : ∀ (v : Int32 × Int32) (S : St), e v S = some (r, S') → J K 68 [(2, .int v.1)] [] S) : ∀ (n : Nat) (v : Int32 × Int32) (S : St), lp (f_X10_keptBy_12b ru e) n v S = some (r, S') → J K 12 [(0, .ref 0), (2, .int v.1), (3, .int v.2)] [] S :=
  lp_J (P := fun (v : Int32 × Int32) (S : St) => J K 12 [(0, .ref 0), (2, .int v.1), (3, .int v.2)] [] S) (fun k hk v S hf => by
    unfold f_X10_keptBy_12b at hf
    refine j_iload_n hK dX10_keptBy_12 2 rfl rfl ?_
    refine j_bipush hK (8 : Int32) dX10_keptBy_13 bi_8 ?_
    refine j_icmp_ge hK 68 dX10_keptBy_15 (by decide) (fun hc => ?_) (fun hc => ?_)
    · replace hf := if_1 hc hf
      refine j_sub [1] rfl ?_
      exact he _ _ hf
    · replace hf := if_2 hc hf
      refine j_iconst hK (0 : Int32) dX10_keptBy_18 ic_0 ?_
      refine j_istore hK (L' := [(4, .int (0 : Int32)), (0, .ref 0), (2, .int v.1), (3, .int v.2)]) dX10_keptBy_19 (by decide) rfl ?_
      refine j_sub [1, 2, 3, 0] rfl ?_
      refine t_X10_keptBy_21 hK hA hru (fun v8 S9 hf => ?_) _ _ _ hf
      refine j_iinc hK (L' := [(3, .int (v.2 + (1 : Int32))), (0, .ref 0), (2, .int v8.1)]) dX10_keptBy_62 2 rfl (congrArg (fun y => v.2 + y) ic_1) (by decide) rfl ?_
      refine j_goto hK 12 dX10_keptBy_65 (by decide) ?_
      refine j_sub [1, 2, 0] rfl ?_
      exact hk _ _ hf)
def f_X10_keptBy (ru : Nat) (S : St) : Option (Int32 × St) := bd (f_X2_learnSteps ru S) (fun r10 S11 => lp (f_X10_keptBy_12b ru (fun v13 S14 => some (v13.1, S14))) FU ((0 : Int32), (0 : Int32)) S11)
theorem c_X10_keptBy {ru : Nat} (hru : isRule ru) {S : St} {r : Int32} {S' : St} (hf : f_X10_keptBy ru S = some (r, S')) : zM yX10_keptBy cX10_keptBy 5 5 (some .int) [.ref 0, .ref ru] S (some (.int r)) S' := by
  refine zM_of (zpl (by decide)) (Nat.le_of_ble_eq_true rfl) rfl (fun K hK hA => ?_)
  unfold f_X10_keptBy at hf
  refine j_aload_n hK dX10_keptBy_0 0 rfl rfl ?_
  refine j_getR hK fl_X10_42 dX10_keptBy_1 zo_0 zf_10_4 zr_0_4 ?_
  refine j_aload_n hK dX10_keptBy_4 1 rfl rfl ?_
  obtain ⟨r10, S11, h12, hf⟩ := bd_J hf
  refine k_callVv hK (c_X2_learnSteps hru h12) dX10_keptBy_5 zclX2 zo_92 ml_X10_399 mi_X2_learnSteps mx_X2_learnSteps in_X2 mc_X2_learnSteps hy_X2_learnSteps ⟨by decide, by decide⟩ rfl (Nat.le_of_ble_eq_true rfl) ?_
  refine j_iconst hK (0 : Int32) dX10_keptBy_8 ic_0 ?_
  refine j_istore_n hK (L' := [(2, .int (0 : Int32)), (0, .ref 0), (1, .ref ru)]) dX10_keptBy_9 rfl (by decide) rfl ?_
  refine j_iconst hK (0 : Int32) dX10_keptBy_10 ic_0 ?_
  refine j_istore_n hK (L' := [(3, .int (0 : Int32)), (2, .int (0 : Int32)), (0, .ref 0), (1, .ref ru)]) dX10_keptBy_11 rfl (by decide) rfl ?_
  refine j_sub [2, 1, 0] rfl ?_
  refine t_X10_keptBy_12 hK hA hru (fun v13 S14 hf => ?_) _ _ _ hf
  refine j_iload_n hK dX10_keptBy_68 0 rfl rfl ?_
  exact j_iret hK dX10_keptBy_69 rfl (rt_I hA hf)
def f_X10_law (S : St) : Option (Int32 × St) := if isRule (gI S 0 9).toNatClampNeg then bd (f_X6_read (gI S 0 9).toNatClampNeg S) (fun r2 S3 => lt (sI S3 1 1 (0 : Int32)) (fun S5 => (if r2 = (-1 : Int32) then if isRule (gI S5 0 9).toNatClampNeg then bd (f_X10_keptBy (gI S5 0 9).toNatClampNeg S5) (fun r7 S8 => if isRule (gI S8 0 8).toNatClampNeg then bd (f_X10_keptBy (gI S8 0 8).toNatClampNeg S8) (fun r11 S12 => bd (f_X5_begin S12) (fun r14 S15 => bd (f_X5_put r7.toInt64 S15) (fun r17 S18 => bd (f_X5_put r11.toInt64 S18) (fun r20 S21 => some ((r7 - r11), S21))))) else none) else none else some (((-10000 : Int32) - r2), S5)))) else none
theorem c_X10_law {S : St} {r : Int32} {S' : St} (hf : f_X10_law S = some (r, S')) : zM yX10_law cX10_law 4 7 (some .int) [.ref 0] S (some (.int r)) S' := by
  refine zM_of (zpl (by decide)) (Nat.le_of_ble_eq_true rfl) rfl (fun K hK hA => ?_)
  unfold f_X10_law at hf
  refine j_aload_n hK dX10_law_0 0 rfl rfl ?_
  obtain ⟨hr1, hf⟩ := gd hf
  refine j_getD hK fl_X10_74 dX10_law_1 zo_0 zf_10_9 ?_
  refine j_aload_n hK dX10_law_4 0 rfl rfl ?_
  refine j_getR hK fl_X10_10 dX10_law_5 zo_0 zf_10_0 zr_0_0 ?_
  obtain ⟨r2, S3, h4, hf⟩ := bd_J hf
  refine k_callVi hK (c_X6_read hr1 h4) dX10_law_8 zclX6 (ru_o hr1) ml_X10_112 mi_X6_read mx_X6_read in_X6 mc_X6_read hy_X6_read ⟨by decide, by decide⟩ rfl (Nat.le_of_ble_eq_true rfl) ?_
  refine j_istore_n hK (L' := [(1, .int r2), (0, .ref 0)]) dX10_law_11 rfl (by decide) rfl ?_
  refine j_aload_n hK dX10_law_12 1 rfl rfl ?_
  refine j_getR hK fl_X10_10 dX10_law_13 zo_0 zf_10_0 zr_0_0 ?_
  refine j_pc (pc' := 16) rfl ?_
  refine j_iconst hK (0 : Int32) dX10_law_16 ic_0 ?_
  refine j_putI hK fl_X10_88 dX10_law_17 zo_1 zf_8_1 ?_
  refine lt_S hf (fun S5 hf => ?_)
  refine j_iload_n hK dX10_law_20 0 rfl rfl ?_
  refine j_iconst hK (-1 : Int32) dX10_law_21 ic_m1 ?_
  refine j_icmp_eq hK 31 dX10_law_22 (by decide) (fun hc => ?_) (fun hc => ?_)
  · replace hf := if_1 hc hf
    refine j_aload_n hK dX10_law_31 1 rfl rfl ?_
    refine j_aload_n hK dX10_law_32 1 rfl rfl ?_
    obtain ⟨hr6, hf⟩ := gd hf
    refine j_getD hK fl_X10_74 dX10_law_33 zo_0 zf_10_9 ?_
    obtain ⟨r7, S8, h9, hf⟩ := bd_J hf
    refine k_callVi hK (c_X10_keptBy hr6 h9) dX10_law_36 zclX10 zo_0 ml_X10_386 mi_X10_keptBy mx_X10_keptBy in_X10 mc_X10_keptBy hy_X10_keptBy ⟨by decide, by decide⟩ rfl (Nat.le_of_ble_eq_true rfl) ?_
    refine j_istore_n hK (L' := [(2, .int r7), (1, .int r2), (0, .ref 0)]) dX10_law_39 rfl (by decide) rfl ?_
    refine j_aload_n hK dX10_law_40 2 rfl rfl ?_
    refine j_aload_n hK dX10_law_41 2 rfl rfl ?_
    refine j_pc (pc' := 42) rfl ?_
    obtain ⟨hr10, hf⟩ := gd hf
    refine j_getD hK fl_X10_70 dX10_law_42 zo_0 zf_10_8 ?_
    obtain ⟨r11, S12, h13, hf⟩ := bd_J hf
    refine k_callVi hK (c_X10_keptBy hr10 h13) dX10_law_45 zclX10 zo_0 ml_X10_386 mi_X10_keptBy mx_X10_keptBy in_X10 mc_X10_keptBy hy_X10_keptBy ⟨by decide, by decide⟩ rfl (Nat.le_of_ble_eq_true rfl) ?_
    refine j_istore_n hK (L' := [(3, .int r11), (2, .int r7), (1, .int r2), (0, .ref 0)]) dX10_law_48 rfl (by decide) rfl ?_
    refine j_aload_n hK dX10_law_49 3 rfl rfl ?_
    refine j_getR hK fl_X10_26 dX10_law_50 zo_0 zf_10_2 zr_0_2 ?_
    obtain ⟨r14, S15, h16, hf⟩ := bd_J hf
    refine k_callVv hK (c_X5_begin h16) dX10_law_53 zclX5 zo_10 ml_X10_185 mi_X5_begin mx_X5_begin in_X5 mc_X5_begin hy_X5_begin ⟨by decide, by decide⟩ rfl (Nat.le_of_ble_eq_true rfl) ?_
    refine j_aload_n hK dX10_law_56 3 rfl rfl ?_
    refine j_getR hK fl_X10_26 dX10_law_57 zo_0 zf_10_2 zr_0_2 ?_
    refine j_pc (pc' := 60) rfl ?_
    refine j_iload_n hK dX10_law_60 1 rfl rfl ?_
    refine j_i2l hK dX10_law_61 ?_
    obtain ⟨r17, S18, h19, hf⟩ := bd_J hf
    refine k_callVv hK (c_X5_put h19) dX10_law_62 zclX5 zo_10 ml_X10_191 mi_X5_put mx_X5_put in_X5 mc_X5_put hy_X5_put ⟨by decide, by decide⟩ rfl (Nat.le_of_ble_eq_true rfl) ?_
    refine j_aload_n hK dX10_law_65 3 rfl rfl ?_
    refine j_getR hK fl_X10_26 dX10_law_66 zo_0 zf_10_2 zr_0_2 ?_
    refine j_iload_n hK dX10_law_69 0 rfl rfl ?_
    refine j_i2l hK dX10_law_70 ?_
    obtain ⟨r20, S21, h22, hf⟩ := bd_J hf
    refine k_callVv hK (c_X5_put h22) dX10_law_71 zclX5 zo_10 ml_X10_191 mi_X5_put mx_X5_put in_X5 mc_X5_put hy_X5_put ⟨by decide, by decide⟩ rfl (Nat.le_of_ble_eq_true rfl) ?_
    refine j_pc (pc' := 74) rfl ?_
    refine j_iload_n hK dX10_law_74 1 rfl rfl ?_
    refine j_iload_n hK dX10_law_75 0 rfl rfl ?_
    refine j_isub hK dX10_law_76 ?_
    exact j_iret hK dX10_law_77 rfl (rt_I hA hf)
  · replace hf := if_2 hc hf
    refine j_sipush hK (-10000 : Int32) dX10_law_25 si_m10000 ?_
    refine j_iload_n hK dX10_law_28 0 rfl rfl ?_
    refine j_isub hK dX10_law_29 ?_
    exact j_iret hK dX10_law_30 rfl (rt_I hA hf)
def f_X10_gainOf (p0 : Int32) (p1 : Int32) (p2 : Int32) (S : St) : Option (Int32 × St) := (if p0 ≤ p1 then lt (p0 + (p2 / (4 : Int32))) (fun y1 => (if p0 = p1 then some ((y1 / (2 : Int32)), S) else some (y1, S))) else some ((-1 : Int32), S))
theorem c_X10_gainOf {p0 : Int32} {p1 : Int32} {p2 : Int32} {S : St} {r : Int32} {S' : St} (hf : f_X10_gainOf p0 p1 p2 S = some (r, S')) : zM yX10_gainOf cX10_gainOf 4 1 (some .int) [.int p0, .int p1, .int p2] S (some (.int r)) S' := by
  refine zM_of (zpl (by decide)) (Nat.le_of_ble_eq_true rfl) rfl (fun K hK hA => ?_)
  unfold f_X10_gainOf at hf
  refine j_iload_n hK dX10_gainOf_0 0 rfl rfl ?_
  refine j_iload_n hK dX10_gainOf_1 1 rfl rfl ?_
  refine j_icmp_le hK 7 dX10_gainOf_2 (by decide) (fun hc => ?_) (fun hc => ?_)
  · replace hf := if_1 hc hf
    refine j_iload_n hK dX10_gainOf_7 0 rfl rfl ?_
    refine j_iload_n hK dX10_gainOf_8 2 rfl rfl ?_
    refine j_iconst hK (4 : Int32) dX10_gainOf_9 ic_4 ?_
    refine j_idiv hK dX10_gainOf_10 (by decide) ?_
    refine j_iadd hK dX10_gainOf_11 ?_
    refine lt_I hf (fun y1 hf => ?_)
    refine j_istore_n hK (L' := [(3, .int y1), (0, .int p0), (1, .int p1), (2, .int p2)]) dX10_gainOf_12 rfl (by decide) rfl ?_
    refine j_iload_n hK dX10_gainOf_13 1 rfl rfl ?_
    refine j_pc (pc' := 14) rfl ?_
    refine j_iload_n hK dX10_gainOf_14 2 rfl rfl ?_
    refine j_icmp_ne hK 24 dX10_gainOf_15 (by decide) (fun hc => ?_) (fun hc => ?_)
    · replace hf := if_2 hc hf
      refine j_iload_n hK dX10_gainOf_24 0 rfl rfl ?_
      exact j_iret hK dX10_gainOf_25 rfl (rt_I hA hf)
    · replace hf := if_1 hc hf
      refine j_iload_n hK dX10_gainOf_18 0 rfl rfl ?_
      refine j_iconst hK (2 : Int32) dX10_gainOf_19 ic_2 ?_
      refine j_idiv hK dX10_gainOf_20 (by decide) ?_
      refine j_goto hK 25 dX10_gainOf_21 (by decide) ?_
      exact j_iret hK dX10_gainOf_25 rfl (rt_I hA hf)
  · replace hf := if_2 hc hf
    refine j_iconst hK (-1 : Int32) dX10_gainOf_5 ic_m1 ?_
    exact j_iret hK dX10_gainOf_6 rfl (rt_I hA hf)
def f_X10_isBestAnswer_10b (x1 : Int32) (x2 : Int32) (x3 : Int32) (e : Int32 → St → Option (Int32 × St)) (k : Int32 → St → Option (Int32 × St)) (v : Int32) (S : St) : Option (Int32 × St) := (if (10 : Int32) ≤ v then e v S else bd (f_X10_gainOf v x1 x2 S) (fun r1 S2 => (if r1 ≤ x3 then k (v + (1 : Int32)) S2 else some ((0 : Int32), S2))))
theorem t_X10_isBestAnswer_10 {K : CT} (hK : KO K cX10_isBestAnswer RX10 5 2 (some .boolean)) {r : Int32} {S' : St} (hA : zans K (some (.int r), S')) {x1 : Int32} {x2 : Int32} {x3 : Int32} {e : Int32 → St → Option (Int32 × St)} (he : ∀ (v : Int32) (S : St), e v S = some (r, S') → J K 36 [] [] S) : ∀ (n : Nat) (v : Int32) (S : St), lp (f_X10_isBestAnswer_10b x1 x2 x3 e) n v S = some (r, S') → J K 10 [(1, .int x1), (2, .int x2), (3, .int x3), (4, .int v)] [] S :=
  lp_J (P := fun (v : Int32) (S : St) => J K 10 [(1, .int x1), (2, .int x2), (3, .int x3), (4, .int v)] [] S) (fun k hk v S hf => by
    unfold f_X10_isBestAnswer_10b at hf
    refine j_iload hK dX10_isBestAnswer_10 3 rfl ?_
    refine j_bipush hK (10 : Int32) dX10_isBestAnswer_12 bi_10 ?_
    refine j_icmp_ge hK 36 dX10_isBestAnswer_14 (by decide) (fun hc => ?_) (fun hc => ?_)
    · replace hf := if_1 hc hf
      refine j_sub [] rfl ?_
      exact he _ _ hf
    · replace hf := if_2 hc hf
      refine j_iload hK dX10_isBestAnswer_17 3 rfl ?_
      refine j_iload_n hK dX10_isBestAnswer_19 0 rfl rfl ?_
      refine j_iload_n hK dX10_isBestAnswer_20 1 rfl rfl ?_
      obtain ⟨r1, S2, h3, hf⟩ := bd_J hf
      refine k_callSi hK (c_X10_gainOf h3) dX10_isBestAnswer_21 ml_X10_406 ms_X10_gainOf in_X10 mc_X10_gainOf hy_X10_gainOf ⟨by decide, by decide⟩ rfl (Nat.le_of_ble_eq_true rfl) ?_
      refine j_iload_n hK dX10_isBestAnswer_24 2 rfl rfl ?_
      refine j_icmp_le hK 30 dX10_isBestAnswer_25 (by decide) (fun hc => ?_) (fun hc => ?_)
      · replace hf := if_1 hc hf
        refine j_iinc hK (L' := [(4, .int (v + (1 : Int32))), (1, .int x1), (2, .int x2), (3, .int x3)]) dX10_isBestAnswer_30 3 rfl (congrArg (fun y => v + y) ic_1) (by decide) rfl ?_
        refine j_goto hK 10 dX10_isBestAnswer_33 (by decide) ?_
        refine j_sub [1, 2, 3, 0] rfl ?_
        exact hk _ _ hf
      · replace hf := if_2 hc hf
        refine j_iconst hK (0 : Int32) dX10_isBestAnswer_28 ic_0 ?_
        exact j_zret hK dX10_isBestAnswer_29 rfl rfl (rt_I hA hf))
def f_X10_isBestAnswer (p0 : Int32) (p1 : Int32) (p2 : Int32) (S : St) : Option (Int32 × St) := bd (f_X10_gainOf p0 p1 p2 S) (fun r4 S5 => lp (f_X10_isBestAnswer_10b p1 p2 r4 (fun v7 S8 => some ((1 : Int32), S8))) FU (0 : Int32) S5)
theorem c_X10_isBestAnswer {p0 : Int32} {p1 : Int32} {p2 : Int32} {S : St} {r : Int32} {S' : St} (hf : f_X10_isBestAnswer p0 p1 p2 S = some (r, S')) : zM yX10_isBestAnswer cX10_isBestAnswer 5 2 (some .boolean) [.int p0, .int p1, .int p2] S (some (.int r)) S' := by
  refine zM_of (zpl (by decide)) (Nat.le_of_ble_eq_true rfl) rfl (fun K hK hA => ?_)
  unfold f_X10_isBestAnswer at hf
  refine j_iload_n hK dX10_isBestAnswer_0 0 rfl rfl ?_
  refine j_iload_n hK dX10_isBestAnswer_1 1 rfl rfl ?_
  refine j_iload_n hK dX10_isBestAnswer_2 2 rfl rfl ?_
  obtain ⟨r4, S5, h6, hf⟩ := bd_J hf
  refine k_callSi hK (c_X10_gainOf h6) dX10_isBestAnswer_3 ml_X10_406 ms_X10_gainOf in_X10 mc_X10_gainOf hy_X10_gainOf ⟨by decide, by decide⟩ rfl (Nat.le_of_ble_eq_true rfl) ?_
  refine j_istore_n hK (L' := [(3, .int r4), (0, .int p0), (1, .int p1), (2, .int p2)]) dX10_isBestAnswer_6 rfl (by decide) rfl ?_
  refine j_iconst hK (0 : Int32) dX10_isBestAnswer_7 ic_0 ?_
  refine j_istore hK (L' := [(4, .int (0 : Int32)), (3, .int r4), (0, .int p0), (1, .int p1), (2, .int p2)]) dX10_isBestAnswer_8 (by decide) rfl ?_
  refine j_sub [3, 4, 1, 0] rfl ?_
  refine t_X10_isBestAnswer_10 hK hA  (fun v7 S8 hf => ?_) _ _ _ hf
  refine j_iconst hK (1 : Int32) dX10_isBestAnswer_36 ic_1 ?_
  exact j_zret hK dX10_isBestAnswer_37 rfl rfl (rt_I hA hf)
def f_X10_rests_69 (x1 : Int32) (x2 : Int32) (x3 : Int32) (x4 : Int32) (k e : Int32 × Int32 → St → Option (Int32 × St)) (S : St) : Option (Int32 × St) := k (x2, (x4 + (1 : Int32))) S
theorem t_X10_rests_69 {K : CT} (hK : KO K cX10_rests RX10 5 3 (some .int)) {r : Int32} {S' : St} (hA : zans K (some (.int r), S')) {x1 : Int32} {x2 : Int32} {x3 : Int32} {x4 : Int32} {k e : Int32 × Int32 → St → Option (Int32 × St)} (hk : ∀ (v : Int32 × Int32) (S : St), k v S = some (r, S') → J K 32 [(0, .ref 0), (1, .int x1), (2, .int v.1), (3, .int x3), (4, .int v.2)] [] S) (he : ∀ (v : Int32 × Int32) (S : St), e v S = some (r, S') → J K 75 [(0, .ref 0), (1, .int x1), (2, .int v.1), (3, .int x3)] [] S) {S : St} (hf : f_X10_rests_69 x1 x2 x3 x4 k e S = some (r, S')) : J K 69 [(0, .ref 0), (1, .int x1), (2, .int x2), (3, .int x3), (4, .int x4)] [] S := by
  unfold f_X10_rests_69 at hf
  refine j_iinc hK (L' := [(4, .int (x4 + (1 : Int32))), (0, .ref 0), (1, .int x1), (2, .int x2), (3, .int x3)]) dX10_rests_69 4 rfl (congrArg (fun y => x4 + y) ic_1) (by decide) rfl ?_
  refine j_goto hK 32 dX10_rests_72 (by decide) ?_
  refine j_sub [1, 2, 3, 4, 0] rfl ?_
  exact hk _ _ hf
def f_X10_rests_32b (x1 : Int32) (x3 : Int32) (e : Int32 × Int32 → St → Option (Int32 × St)) (k : Int32 × Int32 → St → Option (Int32 × St)) (v : Int32 × Int32) (S : St) : Option (Int32 × St) := (if (10 : Int32) ≤ v.2 then e (v.1, v.2) S else bd (f_X10_isBestAnswer x3 v.2 x1 S) (fun r1 S2 => (if r1 = 0 then f_X10_rests_69 x1 v.1 x3 v.2 k e S2 else bd (f_X10_isBestAnswer v.2 x3 x1 S2) (fun r4 S5 => (if r4 = 0 then f_X10_rests_69 x1 v.1 x3 v.2 k e S5 else bd (f_X10_putIfFirst x3 v.2 S5) (fun r7 S8 => f_X10_rests_69 x1 (v.1 + (1 : Int32)) x3 v.2 k e S8))))))
theorem t_X10_rests_32 {K : CT} (hK : KO K cX10_rests RX10 5 3 (some .int)) {r : Int32} {S' : St} (hA : zans K (some (.int r), S')) {x1 : Int32} {x3 : Int32} {e : Int32 × Int32 → St → Option (Int32 × St)} (he : ∀ (v : Int32 × Int32) (S : St), e v S = some (r, S') → J K 75 [(0, .ref 0), (1, .int x1), (2, .int v.1), (3, .int x3)] [] S) : ∀ (n : Nat) (v : Int32 × Int32) (S : St), lp (f_X10_rests_32b x1 x3 e) n v S = some (r, S') → J K 32 [(0, .ref 0), (1, .int x1), (2, .int v.1), (3, .int x3), (4, .int v.2)] [] S :=
  lp_J (P := fun (v : Int32 × Int32) (S : St) => J K 32 [(0, .ref 0), (1, .int x1), (2, .int v.1), (3, .int x3), (4, .int v.2)] [] S) (fun k hk v S hf => by
    unfold f_X10_rests_32b at hf
    refine j_iload hK dX10_rests_32 4 rfl ?_
    refine j_bipush hK (10 : Int32) dX10_rests_34 bi_10 ?_
    refine j_icmp_ge hK 75 dX10_rests_36 (by decide) (fun hc => ?_) (fun hc => ?_)
    · replace hf := if_1 hc hf
      refine j_sub [0, 1, 2, 3] rfl ?_
      exact he _ _ hf
    · replace hf := if_2 hc hf
      refine j_iload_n hK dX10_rests_39 3 rfl rfl ?_
      refine j_iload hK dX10_rests_40 4 rfl ?_
      refine j_iload_n hK dX10_rests_42 1 rfl rfl ?_
      obtain ⟨r1, S2, h3, hf⟩ := bd_J hf
      refine k_callSi hK (c_X10_isBestAnswer h3) dX10_rests_43 ml_X10_390 ms_X10_isBestAnswer in_X10 mc_X10_isBestAnswer hy_X10_isBestAnswer ⟨by decide, by decide⟩ rfl (Nat.le_of_ble_eq_true rfl) ?_
      refine j_if_eq hK 69 dX10_rests_46 (by decide) (fun hc => ?_) (fun hc => ?_)
      · replace hf := if_1 hc hf
        exact t_X10_rests_69 hK hA hk he hf
      · replace hf := if_2 hc hf
        refine j_iload hK dX10_rests_49 4 rfl ?_
        refine j_iload_n hK dX10_rests_51 3 rfl rfl ?_
        refine j_iload_n hK dX10_rests_52 1 rfl rfl ?_
        obtain ⟨r4, S5, h6, hf⟩ := bd_J hf
        refine k_callSi hK (c_X10_isBestAnswer h6) dX10_rests_53 ml_X10_390 ms_X10_isBestAnswer in_X10 mc_X10_isBestAnswer hy_X10_isBestAnswer ⟨by decide, by decide⟩ rfl (Nat.le_of_ble_eq_true rfl) ?_
        refine j_if_eq hK 69 dX10_rests_56 (by decide) (fun hc => ?_) (fun hc => ?_)
        · replace hf := if_1 hc hf
          exact t_X10_rests_69 hK hA hk he hf
        · replace hf := if_2 hc hf
          refine j_aload_n hK dX10_rests_59 0 rfl rfl ?_
          refine j_iload_n hK dX10_rests_60 3 rfl rfl ?_
          refine j_iload hK dX10_rests_61 4 rfl ?_
          obtain ⟨r7, S8, h9, hf⟩ := bd_J hf
          refine k_callVv hK (c_X10_putIfFirst h9) dX10_rests_63 zclX10 zo_0 ml_X10_292 mi_X10_putIfFirst mx_X10_putIfFirst in_X10 mc_X10_putIfFirst hy_X10_putIfFirst ⟨by decide, by decide⟩ rfl (Nat.le_of_ble_eq_true rfl) ?_
          refine j_iinc hK (L' := [(2, .int (v.1 + (1 : Int32))), (0, .ref 0), (1, .int x1), (3, .int x3), (4, .int v.2)]) dX10_rests_66 2 rfl (congrArg (fun y => v.1 + y) ic_1) (by decide) rfl ?_
          refine j_sub [1, 2, 0, 3, 4] rfl ?_
          exact t_X10_rests_69 hK hA hk he hf)
def f_X10_rests_23b (x1 : Int32) (e : Int32 × Int32 → St → Option (Int32 × St)) (k : Int32 × Int32 → St → Option (Int32 × St)) (v : Int32 × Int32) (S : St) : Option (Int32 × St) := (if (10 : Int32) ≤ v.2 then e (v.1, v.2) S else lp (f_X10_rests_32b x1 v.2 (fun v10 S11 => k (v10.1, (v.2 + (1 : Int32))) S11)) FU (v.1, (0 : Int32)) S)
theorem t_X10_rests_23 {K : CT} (hK : KO K cX10_rests RX10 5 3 (some .int)) {r : Int32} {S' : St} (hA : zans K (some (.int r), S')) {x1 : Int32} {e : Int32 × Int32 → St → Option (Int32 × St)} (he : ∀ (v : Int32 × Int32) (S : St), e v S = some (r, S') → J K 81 [(2, .int v.1)] [] S) : ∀ (n : Nat) (v : Int32 × Int32) (S : St), lp (f_X10_rests_23b x1 e) n v S = some (r, S') → J K 23 [(0, .ref 0), (1, .int x1), (2, .int v.1), (3, .int v.2)] [] S :=
  lp_J (P := fun (v : Int32 × Int32) (S : St) => J K 23 [(0, .ref 0), (1, .int x1), (2, .int v.1), (3, .int v.2)] [] S) (fun k hk v S hf => by
    unfold f_X10_rests_23b at hf
    refine j_iload_n hK dX10_rests_23 3 rfl rfl ?_
    refine j_bipush hK (10 : Int32) dX10_rests_24 bi_10 ?_
    refine j_icmp_ge hK 81 dX10_rests_26 (by decide) (fun hc => ?_) (fun hc => ?_)
    · replace hf := if_1 hc hf
      refine j_sub [2] rfl ?_
      exact he _ _ hf
    · replace hf := if_2 hc hf
      refine j_iconst hK (0 : Int32) dX10_rests_29 ic_0 ?_
      refine j_istore hK (L' := [(4, .int (0 : Int32)), (0, .ref 0), (1, .int x1), (2, .int v.1), (3, .int v.2)]) dX10_rests_30 (by decide) rfl ?_
      refine j_sub [1, 2, 3, 4, 0] rfl ?_
      refine t_X10_rests_32 hK hA  (fun v10 S11 hf => ?_) _ _ _ hf
      refine j_iinc hK (L' := [(3, .int (v.2 + (1 : Int32))), (0, .ref 0), (1, .int x1), (2, .int v10.1)]) dX10_rests_75 3 rfl (congrArg (fun y => v.2 + y) ic_1) (by decide) rfl ?_
      refine j_goto hK 23 dX10_rests_78 (by decide) ?_
      refine j_sub [1, 2, 3, 0] rfl ?_
      exact hk _ _ hf)
def f_X10_rests (p1 : Int32) (S : St) : Option (Int32 × St) := (if p1 < 0 then some ((-1 : Int32), S) else (if p1 ≤ (20 : Int32) then bd (f_X5_begin S) (fun r12 S13 => lp (f_X10_rests_23b p1 (fun v15 S16 => some (v15.1, S16))) FU ((0 : Int32), (0 : Int32)) S13) else some ((-1 : Int32), S)))
theorem c_X10_rests {p1 : Int32} {S : St} {r : Int32} {S' : St} (hf : f_X10_rests p1 S = some (r, S')) : zM yX10_rests cX10_rests 5 3 (some .int) [.ref 0, .int p1] S (some (.int r)) S' := by
  refine zM_of (zpl (by decide)) (Nat.le_of_ble_eq_true rfl) rfl (fun K hK hA => ?_)
  unfold f_X10_rests at hf
  refine j_iload_n hK dX10_rests_0 1 rfl rfl ?_
  refine j_if_lt hK 10 dX10_rests_1 (by decide) (fun hc => ?_) (fun hc => ?_)
  · replace hf := if_1 hc hf
    refine j_iconst hK (-1 : Int32) dX10_rests_10 ic_m1 ?_
    exact j_iret hK dX10_rests_11 rfl (rt_I hA hf)
  · replace hf := if_2 hc hf
    refine j_iload_n hK dX10_rests_4 1 rfl rfl ?_
    refine j_bipush hK (20 : Int32) dX10_rests_5 bi_20 ?_
    refine j_icmp_le hK 12 dX10_rests_7 (by decide) (fun hc => ?_) (fun hc => ?_)
    · replace hf := if_1 hc hf
      refine j_aload_n hK dX10_rests_12 0 rfl rfl ?_
      refine j_getR hK fl_X10_26 dX10_rests_13 zo_0 zf_10_2 zr_0_2 ?_
      obtain ⟨r12, S13, h14, hf⟩ := bd_J hf
      refine k_callVv hK (c_X5_begin h14) dX10_rests_16 zclX5 zo_10 ml_X10_185 mi_X5_begin mx_X5_begin in_X5 mc_X5_begin hy_X5_begin ⟨by decide, by decide⟩ rfl (Nat.le_of_ble_eq_true rfl) ?_
      refine j_iconst hK (0 : Int32) dX10_rests_19 ic_0 ?_
      refine j_istore_n hK (L' := [(2, .int (0 : Int32)), (0, .ref 0), (1, .int p1)]) dX10_rests_20 rfl (by decide) rfl ?_
      refine j_iconst hK (0 : Int32) dX10_rests_21 ic_0 ?_
      refine j_istore_n hK (L' := [(3, .int (0 : Int32)), (2, .int (0 : Int32)), (0, .ref 0), (1, .int p1)]) dX10_rests_22 rfl (by decide) rfl ?_
      refine j_sub [2, 3, 1, 0] rfl ?_
      refine t_X10_rests_23 hK hA  (fun v15 S16 hf => ?_) _ _ _ hf
      refine j_iload_n hK dX10_rests_81 0 rfl rfl ?_
      exact j_iret hK dX10_rests_82 rfl (rt_I hA hf)
    · replace hf := if_2 hc hf
      refine j_iconst hK (-1 : Int32) dX10_rests_10 ic_m1 ?_
      exact j_iret hK dX10_rests_11 rfl (rt_I hA hf)
def f_X10_draw (p1 : Int32) (S : St) : Option (Int32 × St) := lt (sI S 0 12 (((gI S 0 12) * (1103515245 : Int32)) + (12345 : Int32))) (fun S1 => (if p1 ≤ 0 then some ((0 : Int32), S1) else if ¬ p1 = 0 then lt ((ushr (gI S1 0 12) (16 : Int32)) - (ushr (gI S1 0 12) (16 : Int32)) / p1 * p1) (fun y2 => some (y2, S1)) else none))
theorem c_X10_draw {p1 : Int32} {S : St} {r : Int32} {S' : St} (hf : f_X10_draw p1 S = some (r, S')) : zM yX10_draw cX10_draw 2 1 (some .int) [.ref 0, .int p1] S (some (.int r)) S' := by
  refine zM_of (zpl (by decide)) (Nat.le_of_ble_eq_true rfl) rfl (fun K hK hA => ?_)
  unfold f_X10_draw at hf
  refine j_aload_n hK dX10_draw_0 0 rfl rfl ?_
  refine j_aload_n hK dX10_draw_1 0 rfl rfl ?_
  refine j_getI hK fl_X10_84 dX10_draw_2 zo_0 zf_10_12 ?_
  refine j_ldcw hK (v := (1103515245 : Int32)) cn_X10_412 dX10_draw_5 ?_
  refine j_imul hK dX10_draw_8 ?_
  refine j_sipush hK (12345 : Int32) dX10_draw_9 si_12345 ?_
  refine j_iadd hK dX10_draw_12 ?_
  refine j_putI hK fl_X10_84 dX10_draw_13 zo_0 zf_10_12 ?_
  refine lt_S hf (fun S1 hf => ?_)
  refine j_pc (pc' := 16) rfl ?_
  refine j_iload_n hK dX10_draw_16 1 rfl rfl ?_
  refine j_if_le hK 32 dX10_draw_17 (by decide) (fun hc => ?_) (fun hc => ?_)
  · replace hf := if_1 hc hf
    refine j_iconst hK (0 : Int32) dX10_draw_32 ic_0 ?_
    exact j_iret hK dX10_draw_33 rfl (rt_I hA hf)
  · replace hf := if_2 hc hf
    refine j_aload_n hK dX10_draw_20 0 rfl rfl ?_
    refine j_getI hK fl_X10_84 dX10_draw_21 zo_0 zf_10_12 ?_
    refine j_bipush hK (16 : Int32) dX10_draw_24 bi_16 ?_
    refine j_iushr hK dX10_draw_26 ?_
    refine j_iload_n hK dX10_draw_27 1 rfl rfl ?_
    obtain ⟨hn3, hf⟩ := gd hf
    refine j_irem hK dX10_draw_28 hn3 ?_
    refine lt_I hf (fun y2 hf => ?_)
    refine j_goto hK 33 dX10_draw_29 (by decide) ?_
    exact j_iret hK dX10_draw_33 rfl (rt_I hA hf)
def f_X10_liveYear (S : St) : Option (Int32 × St) := bd (f_X10_draw (4 : Int32) S) (fun r1 S2 => (if r1 = 0 then bd (f_X0_heal (1 : Int32) S2) (fun r22 S23 => some ((0 : Int32), S23)) else (if (gI S2 3 2) = 0 then some ((0 : Int32), S2) else (if r1 = (3 : Int32) then bd (f_X10_draw (gI S2 3 2) S2) (fun r16 S17 => bd (f_X10_turnPassage r16 S17) (fun r19 S20 => some ((0 : Int32), S20))) else bd (f_X10_draw (8 : Int32) S2) (fun r4 S5 => bd (f_X10_draw (gI S5 3 2) S5) (fun r7 S8 => bd (f_X2_goes r4 r7 S8) (fun r10 S11 => (if r10 = 0 then some ((0 : Int32), S11) else bd (f_X0_wearOut S11) (fun r13 S14 => some ((1 : Int32), S14))))))))))
theorem c_X10_liveYear {S : St} {r : Int32} {S' : St} (hf : f_X10_liveYear S = some (r, S')) : zM yX10_liveYear cX10_liveYear 3 5 (some .int) [.ref 0] S (some (.int r)) S' := by
  refine zM_of (zpl (by decide)) (Nat.le_of_ble_eq_true rfl) rfl (fun K hK hA => ?_)
  unfold f_X10_liveYear at hf
  refine j_aload_n hK dX10_liveYear_0 0 rfl rfl ?_
  refine j_iconst hK (4 : Int32) dX10_liveYear_1 ic_4 ?_
  obtain ⟨r1, S2, h3, hf⟩ := bd_J hf
  refine k_callVi hK (c_X10_draw h3) dX10_liveYear_2 zclX10 zo_0 ml_X10_409 mi_X10_draw mx_X10_draw in_X10 mc_X10_draw hy_X10_draw ⟨by decide, by decide⟩ rfl (Nat.le_of_ble_eq_true rfl) ?_
  refine j_istore_n hK (L' := [(1, .int r1), (0, .ref 0)]) dX10_liveYear_5 rfl (by decide) rfl ?_
  refine j_iload_n hK dX10_liveYear_6 0 rfl rfl ?_
  refine j_if_ne hK 20 dX10_liveYear_7 (by decide) (fun hc => ?_) (fun hc => ?_)
  · replace hf := if_2 hc hf
    refine j_aload_n hK dX10_liveYear_20 1 rfl rfl ?_
    refine j_getR hK fl_X10_19 dX10_liveYear_21 zo_0 zf_10_1 zr_0_1 ?_
    refine j_getI hK fl_X10_95 dX10_liveYear_24 zo_3 zf_0_2 ?_
    refine j_if_ne hK 32 dX10_liveYear_27 (by decide) (fun hc => ?_) (fun hc => ?_)
    · replace hf := if_2 hc hf
      refine j_iload_n hK dX10_liveYear_32 0 rfl rfl ?_
      refine j_iconst hK (3 : Int32) dX10_liveYear_33 ic_3 ?_
      refine j_icmp_ne hK 55 dX10_liveYear_34 (by decide) (fun hc => ?_) (fun hc => ?_)
      · replace hf := if_2 hc hf
        refine j_aload_n hK dX10_liveYear_55 1 rfl rfl ?_
        refine j_bipush hK (8 : Int32) dX10_liveYear_56 bi_8 ?_
        obtain ⟨r4, S5, h6, hf⟩ := bd_J hf
        refine k_callVi hK (c_X10_draw h6) dX10_liveYear_58 zclX10 zo_0 ml_X10_409 mi_X10_draw mx_X10_draw in_X10 mc_X10_draw hy_X10_draw ⟨by decide, by decide⟩ rfl (Nat.le_of_ble_eq_true rfl) ?_
        refine j_istore_n hK (L' := [(2, .int r4), (1, .int r1), (0, .ref 0)]) dX10_liveYear_61 rfl (by decide) rfl ?_
        refine j_aload_n hK dX10_liveYear_62 2 rfl rfl ?_
        refine j_getR hK fl_X10_42 dX10_liveYear_63 zo_0 zf_10_4 zr_0_4 ?_
        refine j_iload_n hK dX10_liveYear_66 0 rfl rfl ?_
        refine j_pc (pc' := 67) rfl ?_
        refine j_aload_n hK dX10_liveYear_67 2 rfl rfl ?_
        refine j_aload_n hK dX10_liveYear_68 2 rfl rfl ?_
        refine j_getR hK fl_X10_19 dX10_liveYear_69 zo_0 zf_10_1 zr_0_1 ?_
        refine j_getI hK fl_X10_95 dX10_liveYear_72 zo_3 zf_0_2 ?_
        obtain ⟨r7, S8, h9, hf⟩ := bd_J hf
        refine k_callVi hK (c_X10_draw h9) dX10_liveYear_75 zclX10 zo_0 ml_X10_409 mi_X10_draw mx_X10_draw in_X10 mc_X10_draw hy_X10_draw ⟨by decide, by decide⟩ rfl (Nat.le_of_ble_eq_true rfl) ?_
        obtain ⟨r10, S11, h12, hf⟩ := bd_J hf
        refine k_callVi hK (c_X2_goes h12) dX10_liveYear_78 zclX2 zo_92 ml_X10_236 mi_X2_goes mx_X2_goes in_X2 mc_X2_goes hy_X2_goes ⟨by decide, by decide⟩ rfl (Nat.le_of_ble_eq_true rfl) ?_
        refine j_if_ne hK 86 dX10_liveYear_81 (by decide) (fun hc => ?_) (fun hc => ?_)
        · replace hf := if_2 hc hf
          refine j_aload_n hK dX10_liveYear_86 2 rfl rfl ?_
          refine j_getR hK fl_X10_19 dX10_liveYear_87 zo_0 zf_10_1 zr_0_1 ?_
          refine j_aload_n hK dX10_liveYear_90 2 rfl rfl ?_
          refine j_getR hK fl_X10_42 dX10_liveYear_91 zo_0 zf_10_4 zr_0_4 ?_
          obtain ⟨r13, S14, h15, hf⟩ := bd_J hf
          refine k_callVv hK (c_X0_wearOut h15) dX10_liveYear_94 zclX0 zo_3 ml_X10_250 mi_X0_wearOut mx_X0_wearOut in_X0 mc_X0_wearOut hy_X0_wearOut ⟨by decide, by decide⟩ rfl (Nat.le_of_ble_eq_true rfl) ?_
          refine j_iconst hK (1 : Int32) dX10_liveYear_97 ic_1 ?_
          exact j_iret hK dX10_liveYear_98 rfl (rt_I hA hf)
        · replace hf := if_1 hc hf
          refine j_iconst hK (0 : Int32) dX10_liveYear_84 ic_0 ?_
          exact j_iret hK dX10_liveYear_85 rfl (rt_I hA hf)
      · replace hf := if_1 hc hf
        refine j_aload_n hK dX10_liveYear_37 1 rfl rfl ?_
        refine j_aload_n hK dX10_liveYear_38 1 rfl rfl ?_
        refine j_aload_n hK dX10_liveYear_39 1 rfl rfl ?_
        refine j_getR hK fl_X10_19 dX10_liveYear_40 zo_0 zf_10_1 zr_0_1 ?_
        refine j_getI hK fl_X10_95 dX10_liveYear_43 zo_3 zf_0_2 ?_
        obtain ⟨r16, S17, h18, hf⟩ := bd_J hf
        refine k_callVi hK (c_X10_draw h18) dX10_liveYear_46 zclX10 zo_0 ml_X10_409 mi_X10_draw mx_X10_draw in_X10 mc_X10_draw hy_X10_draw ⟨by decide, by decide⟩ rfl (Nat.le_of_ble_eq_true rfl) ?_
        obtain ⟨r19, S20, h21, hf⟩ := bd_J hf
        refine k_callVi hK (c_X10_turnPassage h21) dX10_liveYear_49 zclX10 zo_0 ml_X10_209 mi_X10_turnPassage mx_X10_turnPassage in_X10 mc_X10_turnPassage hy_X10_turnPassage ⟨by decide, by decide⟩ rfl (Nat.le_of_ble_eq_true rfl) ?_
        refine j_pc (pc' := 52) rfl ?_
        refine j_pop hK dX10_liveYear_52 rfl ?_
        refine j_iconst hK (0 : Int32) dX10_liveYear_53 ic_0 ?_
        exact j_iret hK dX10_liveYear_54 rfl (rt_I hA hf)
    · replace hf := if_1 hc hf
      refine j_iconst hK (0 : Int32) dX10_liveYear_30 ic_0 ?_
      exact j_iret hK dX10_liveYear_31 rfl (rt_I hA hf)
  · replace hf := if_1 hc hf
    refine j_aload_n hK dX10_liveYear_10 1 rfl rfl ?_
    refine j_getR hK fl_X10_19 dX10_liveYear_11 zo_0 zf_10_1 zr_0_1 ?_
    refine j_iconst hK (1 : Int32) dX10_liveYear_14 ic_1 ?_
    obtain ⟨r22, S23, h24, hf⟩ := bd_J hf
    refine k_callVv hK (c_X0_heal h24) dX10_liveYear_15 zclX0 zo_3 ml_X10_257 mi_X0_heal mx_X0_heal in_X0 mc_X0_heal hy_X0_heal ⟨by decide, by decide⟩ rfl (Nat.le_of_ble_eq_true rfl) ?_
    refine j_iconst hK (0 : Int32) dX10_liveYear_18 ic_0 ?_
    exact j_iret hK dX10_liveYear_19 rfl (rt_I hA hf)
def f_X10_years_37b (x2 : Int32) (e : Int32 × Int32 → St → Option (Int32 × St)) (k : Int32 × Int32 → St → Option (Int32 × St)) (v : Int32 × Int32) (S : St) : Option (Int32 × St) := (if x2 ≤ v.2 then e (v.1, v.2) S else bd (f_X10_liveYear S) (fun r1 S2 => lt (v.1 + r1) (fun y4 => k (y4, (v.2 + (1 : Int32))) S2)))
theorem t_X10_years_37 {K : CT} (hK : KO K cX10_years RX10 5 6 (some .int)) {r : Int32} {S' : St} (hA : zans K (some (.int r), S')) {x2 : Int32} {e : Int32 × Int32 → St → Option (Int32 × St)} (he : ∀ (v : Int32 × Int32) (S : St), e v S = some (r, S') → J K 56 [(0, .ref 0), (3, .int v.1)] [] S) : ∀ (n : Nat) (v : Int32 × Int32) (S : St), lp (f_X10_years_37b x2 e) n v S = some (r, S') → J K 37 [(0, .ref 0), (2, .int x2), (3, .int v.1), (4, .int v.2)] [] S :=
  lp_J (P := fun (v : Int32 × Int32) (S : St) => J K 37 [(0, .ref 0), (2, .int x2), (3, .int v.1), (4, .int v.2)] [] S) (fun k hk v S hf => by
    unfold f_X10_years_37b at hf
    refine j_iload hK dX10_years_37 3 rfl ?_
    refine j_iload_n hK dX10_years_39 1 rfl rfl ?_
    refine j_icmp_ge hK 56 dX10_years_40 (by decide) (fun hc => ?_) (fun hc => ?_)
    · replace hf := if_1 hc hf
      refine j_sub [0, 2] rfl ?_
      exact he _ _ hf
    · replace hf := if_2 hc hf
      refine j_iload_n hK dX10_years_43 2 rfl rfl ?_
      refine j_aload_n hK dX10_years_44 0 rfl rfl ?_
      obtain ⟨r1, S2, h3, hf⟩ := bd_J hf
      refine k_callVi hK (c_X10_liveYear h3) dX10_years_45 zclX10 zo_0 ml_X10_393 mi_X10_liveYear mx_X10_liveYear in_X10 mc_X10_liveYear hy_X10_liveYear ⟨by decide, by decide⟩ rfl (Nat.le_of_ble_eq_true rfl) ?_
      refine j_iadd hK dX10_years_48 ?_
      refine lt_I hf (fun y4 hf => ?_)
      refine j_istore_n hK (L' := [(3, .int y4), (0, .ref 0), (2, .int x2), (4, .int v.2)]) dX10_years_49 rfl (by decide) rfl ?_
      refine j_iinc hK (L' := [(4, .int (v.2 + (1 : Int32))), (3, .int y4), (0, .ref 0), (2, .int x2)]) dX10_years_50 3 rfl (congrArg (fun y => v.2 + y) ic_1) (by decide) rfl ?_
      refine j_goto hK 37 dX10_years_53 (by decide) ?_
      refine j_sub [2, 3, 1, 0] rfl ?_
      exact hk _ _ hf)
def f_X10_years (p1 : Int32) (p2 : Int32) (S : St) : Option (Int32 × St) := (if p2 < (1 : Int32) then some ((-1 : Int32), S) else (if p2 ≤ (60 : Int32) then bd (f_X4_mark S) (fun r5 S6 => lt (sI S6 0 12 p1) (fun S8 => lp (f_X10_years_37b p2 (fun v9 S10 => bd (f_X5_begin S10) (fun r11 S12 => bd (f_J6_bitCount_0f7a4 (gI S12 6 3) S12) (fun r14 S15 => bd (f_X5_put r14.toInt64 S15) (fun r17 S18 => bd (f_X5_put v9.1.toInt64 S18) (fun r20 S21 => bd (f_X0_wearOfAll S21) (fun r23 S24 => bd (f_X4_marked S24) (fun r26 S27 => if isState r26 then bd (f_X7_take 6 r26 S27) (fun r30 S31 => some (r23, S31)) else none)))))))) FU ((0 : Int32), (0 : Int32)) S8)) else some ((-1 : Int32), S)))
theorem c_X10_years {p1 : Int32} {p2 : Int32} {S : St} {r : Int32} {S' : St} (hf : f_X10_years p1 p2 S = some (r, S')) : zM yX10_years cX10_years 5 6 (some .int) [.ref 0, .int p1, .int p2] S (some (.int r)) S' := by
  refine zM_of (zpl (by decide)) (Nat.le_of_ble_eq_true rfl) rfl (fun K hK hA => ?_)
  unfold f_X10_years at hf
  refine j_iload_n hK dX10_years_0 2 rfl rfl ?_
  refine j_iconst hK (1 : Int32) dX10_years_1 ic_1 ?_
  refine j_icmp_lt hK 11 dX10_years_2 (by decide) (fun hc => ?_) (fun hc => ?_)
  · replace hf := if_1 hc hf
    refine j_iconst hK (-1 : Int32) dX10_years_11 ic_m1 ?_
    exact j_iret hK dX10_years_12 rfl (rt_I hA hf)
  · replace hf := if_2 hc hf
    refine j_iload_n hK dX10_years_5 2 rfl rfl ?_
    refine j_bipush hK (60 : Int32) dX10_years_6 bi_60 ?_
    refine j_icmp_le hK 13 dX10_years_8 (by decide) (fun hc => ?_) (fun hc => ?_)
    · replace hf := if_1 hc hf
      refine j_aload_n hK dX10_years_13 0 rfl rfl ?_
      refine j_getR hK fl_X10_33 dX10_years_14 zo_0 zf_10_3 zr_0_3 ?_
      refine j_aload_n hK dX10_years_17 0 rfl rfl ?_
      refine j_getR hK fl_X10_19 dX10_years_18 zo_0 zf_10_1 zr_0_1 ?_
      refine j_getR hK fl_X10_129 dX10_years_21 zo_3 zf_0_3 zr_3_3 ?_
      obtain ⟨r5, S6, h7, hf⟩ := bd_J hf
      refine k_callVv hK (c_X4_mark h7) dX10_years_24 zclX4 zo_12 ml_X10_181 mi_X4_mark mx_X4_mark in_X4 mc_X4_mark hy_X4_mark ⟨by decide, by decide⟩ rfl (Nat.le_of_ble_eq_true rfl) ?_
      refine j_aload_n hK dX10_years_27 0 rfl rfl ?_
      refine j_pc (pc' := 28) rfl ?_
      refine j_iload_n hK dX10_years_28 1 rfl rfl ?_
      refine j_putI hK fl_X10_84 dX10_years_29 zo_0 zf_10_12 ?_
      refine lt_S hf (fun S8 hf => ?_)
      refine j_iconst hK (0 : Int32) dX10_years_32 ic_0 ?_
      refine j_istore_n hK (L' := [(3, .int (0 : Int32)), (0, .ref 0), (1, .int p1), (2, .int p2)]) dX10_years_33 rfl (by decide) rfl ?_
      refine j_iconst hK (0 : Int32) dX10_years_34 ic_0 ?_
      refine j_istore hK (L' := [(4, .int (0 : Int32)), (3, .int (0 : Int32)), (0, .ref 0), (1, .int p1), (2, .int p2)]) dX10_years_35 (by decide) rfl ?_
      refine j_sub [2, 4, 1, 0] rfl ?_
      refine t_X10_years_37 hK hA  (fun v9 S10 hf => ?_) _ _ _ hf
      refine j_aload_n hK dX10_years_56 0 rfl rfl ?_
      refine j_getR hK fl_X10_26 dX10_years_57 zo_0 zf_10_2 zr_0_2 ?_
      obtain ⟨r11, S12, h13, hf⟩ := bd_J hf
      refine k_callVv hK (c_X5_begin h13) dX10_years_60 zclX5 zo_10 ml_X10_185 mi_X5_begin mx_X5_begin in_X5 mc_X5_begin hy_X5_begin ⟨by decide, by decide⟩ rfl (Nat.le_of_ble_eq_true rfl) ?_
      refine j_aload_n hK dX10_years_63 0 rfl rfl ?_
      refine j_getR hK fl_X10_26 dX10_years_64 zo_0 zf_10_2 zr_0_2 ?_
      refine j_aload_n hK dX10_years_67 0 rfl rfl ?_
      refine j_getR hK fl_X10_19 dX10_years_68 zo_0 zf_10_1 zr_0_1 ?_
      refine j_pc (pc' := 71) rfl ?_
      refine j_getR hK fl_X10_129 dX10_years_71 zo_3 zf_0_3 zr_3_3 ?_
      refine j_getI hK fl_X10_260 dX10_years_74 zo_6 zf_7_3 ?_
      obtain ⟨r14, S15, h16, hf⟩ := bd_J hf
      refine k_callSi hK (c_J6_bitCount_0f7a4 h16) dX10_years_77 ml_X10_263 ms_J6_bitCount_0f7a4 in_J6 mc_J6_bitCount_0f7a4 hy_J6_bitCount_0f7a4 ⟨by decide, by decide⟩ rfl (Nat.le_of_ble_eq_true rfl) ?_
      refine j_i2l hK dX10_years_80 ?_
      obtain ⟨r17, S18, h19, hf⟩ := bd_J hf
      refine k_callVv hK (c_X5_put h19) dX10_years_81 zclX5 zo_10 ml_X10_191 mi_X5_put mx_X5_put in_X5 mc_X5_put hy_X5_put ⟨by decide, by decide⟩ rfl (Nat.le_of_ble_eq_true rfl) ?_
      refine j_aload_n hK dX10_years_84 0 rfl rfl ?_
      refine j_getR hK fl_X10_26 dX10_years_85 zo_0 zf_10_2 zr_0_2 ?_
      refine j_iload_n hK dX10_years_88 1 rfl rfl ?_
      refine j_pc (pc' := 89) rfl ?_
      refine j_i2l hK dX10_years_89 ?_
      obtain ⟨r20, S21, h22, hf⟩ := bd_J hf
      refine k_callVv hK (c_X5_put h22) dX10_years_90 zclX5 zo_10 ml_X10_191 mi_X5_put mx_X5_put in_X5 mc_X5_put hy_X5_put ⟨by decide, by decide⟩ rfl (Nat.le_of_ble_eq_true rfl) ?_
      refine j_aload_n hK dX10_years_93 0 rfl rfl ?_
      refine j_getR hK fl_X10_19 dX10_years_94 zo_0 zf_10_1 zr_0_1 ?_
      obtain ⟨r23, S24, h25, hf⟩ := bd_J hf
      refine k_callVi hK (c_X0_wearOfAll h25) dX10_years_97 zclX0 zo_3 ml_X10_166 mi_X0_wearOfAll mx_X0_wearOfAll in_X0 mc_X0_wearOfAll hy_X0_wearOfAll ⟨by decide, by decide⟩ rfl (Nat.le_of_ble_eq_true rfl) ?_
      refine j_istore hK (L' := [(4, .int r23), (0, .ref 0), (3, .int v9.1)]) dX10_years_100 (by decide) rfl ?_
      refine j_aload_n hK dX10_years_102 1 rfl rfl ?_
      refine j_getR hK fl_X10_19 dX10_years_103 zo_0 zf_10_1 zr_0_1 ?_
      refine j_pc (pc' := 106) rfl ?_
      refine j_getR hK fl_X10_129 dX10_years_106 zo_3 zf_0_3 zr_3_3 ?_
      refine j_aload_n hK dX10_years_109 1 rfl rfl ?_
      refine j_getR hK fl_X10_33 dX10_years_110 zo_0 zf_10_3 zr_0_3 ?_
      obtain ⟨r26, S27, h28, hf⟩ := bd_J hf
      obtain ⟨hq29, hf⟩ := gd hf
      refine k_callVr hK (c_X4_marked h28) dX10_years_113 zclX4 zo_12 ml_X10_396 mi_X4_marked mx_X4_marked in_X4 mc_X4_marked hy_X4_marked ⟨by decide, by decide⟩ rfl (Nat.le_of_ble_eq_true rfl) ?_
      obtain ⟨r30, S31, h32, hf⟩ := bd_J hf
      refine k_callVv hK (c_X7_take zo_6 hq29 h32) dX10_years_116 zclX7 zo_6 ml_X10_233 mi_X7_take mx_X7_take in_X7 mc_X7_take hy_X7_take ⟨by decide, by decide⟩ rfl (Nat.le_of_ble_eq_true rfl) ?_
      refine j_iload hK dX10_years_119 0 rfl ?_
      exact j_iret hK dX10_years_121 rfl (rt_I hA hf)
    · replace hf := if_2 hc hf
      refine j_iconst hK (-1 : Int32) dX10_years_11 ic_m1 ?_
      exact j_iret hK dX10_years_12 rfl (rt_I hA hf)
def f_X4_store (p1 : Int32) (S : St) : Option (Int32 × St) := (if p1 < 0 then some ((0 : Int32), S) else (if p1 < (3 : Int32) then if inb p1 3 then bd (f_X7_take (zr 78 p1.toNatClampNeg) 6 S) (fun r2 S3 => if inb p1 3 then lt (sI S3 91 p1.toNatClampNeg (vp_nar .boolean (1 : Int32))) (fun S6 => some ((1 : Int32), S6)) else none) else none else some ((0 : Int32), S)))
theorem c_X4_store {p1 : Int32} {S : St} {r : Int32} {S' : St} (hf : f_X4_store p1 S = some (r, S')) : zM yX4_store cX4_store 3 2 (some .boolean) [.ref 12, .int p1, .ref 6] S (some (.int r)) S' := by
  refine zM_of (zpl (by decide)) (Nat.le_of_ble_eq_true rfl) rfl (fun K hK hA => ?_)
  unfold f_X4_store at hf
  refine j_iload_n hK dX4_store_0 1 rfl rfl ?_
  refine j_if_lt hK 9 dX4_store_1 (by decide) (fun hc => ?_) (fun hc => ?_)
  · replace hf := if_1 hc hf
    refine j_iconst hK (0 : Int32) dX4_store_9 ic_0 ?_
    exact j_zret hK dX4_store_10 rfl rfl (rt_I hA hf)
  · replace hf := if_2 hc hf
    refine j_iload_n hK dX4_store_4 1 rfl rfl ?_
    refine j_iconst hK (3 : Int32) dX4_store_5 ic_3 ?_
    refine j_icmp_lt hK 11 dX4_store_6 (by decide) (fun hc => ?_) (fun hc => ?_)
    · replace hf := if_1 hc hf
      refine j_aload_n hK dX4_store_11 0 rfl rfl ?_
      refine j_getR hK fl_X4_23 dX4_store_12 zo_12 zf_4_3 zr_12_3 ?_
      refine j_iload_n hK dX4_store_15 1 rfl rfl ?_
      obtain ⟨hi1, hf⟩ := gd hf
      refine j_aald hK dX4_store_16 zb_78 hi1 ?_
      refine j_aload_n hK dX4_store_17 2 rfl rfl ?_
      obtain ⟨r2, S3, h4, hf⟩ := bd_J hf
      refine k_callVv hK (c_X7_take (st_a78 hi1) zo_6 h4) dX4_store_18 zclX7 (st_a78 hi1) ml_X4_34 mi_X7_take mx_X7_take in_X7 mc_X7_take hy_X7_take ⟨by decide, by decide⟩ rfl (Nat.le_of_ble_eq_true rfl) ?_
      refine j_aload_n hK dX4_store_21 0 rfl rfl ?_
      refine j_pc (pc' := 22) rfl ?_
      refine j_getR hK fl_X4_26 dX4_store_22 zo_12 zf_4_4 zr_12_4 ?_
      refine j_iload_n hK dX4_store_25 1 rfl rfl ?_
      refine j_iconst hK (1 : Int32) dX4_store_26 ic_1 ?_
      obtain ⟨hi5, hf⟩ := gd hf
      refine k_zast hK dX4_store_27 zb_91 hi5 rfl ?_
      refine lt_S hf (fun S6 hf => ?_)
      refine j_iconst hK (1 : Int32) dX4_store_28 ic_1 ?_
      exact j_zret hK dX4_store_29 rfl rfl (rt_I hA hf)
    · replace hf := if_2 hc hf
      refine j_iconst hK (0 : Int32) dX4_store_9 ic_0 ?_
      exact j_zret hK dX4_store_10 rfl rfl (rt_I hA hf)
def f_X10_keep (p1 : Int32) (S : St) : Option (Int32 × St) := bd (f_X4_store p1 S) (fun r1 S2 => if r1 = 0 ∨ r1 = 1 then some (r1, S2) else none)
theorem c_X10_keep {p1 : Int32} {S : St} {r : Int32} {S' : St} (hf : f_X10_keep p1 S = some (r, S')) : zM yX10_keep cX10_keep 2 3 (some .boolean) [.ref 0, .int p1] S (some (.int r)) S' := by
  refine zM_of (zpl (by decide)) (Nat.le_of_ble_eq_true rfl) rfl (fun K hK hA => ?_)
  unfold f_X10_keep at hf
  refine j_aload_n hK dX10_keep_0 0 rfl rfl ?_
  refine j_getR hK fl_X10_33 dX10_keep_1 zo_0 zf_10_3 zr_0_3 ?_
  refine j_iload_n hK dX10_keep_4 1 rfl rfl ?_
  refine j_aload_n hK dX10_keep_5 0 rfl rfl ?_
  refine j_getR hK fl_X10_19 dX10_keep_6 zo_0 zf_10_1 zr_0_1 ?_
  refine j_getR hK fl_X10_129 dX10_keep_9 zo_3 zf_0_3 zr_3_3 ?_
  obtain ⟨r1, S2, h3, hf⟩ := bd_J hf
  refine k_callVi hK (c_X4_store h3) dX10_keep_12 zclX4 zo_12 ml_X10_413 mi_X4_store mx_X4_store in_X4 mc_X4_store hy_X4_store ⟨by decide, by decide⟩ rfl (Nat.le_of_ble_eq_true rfl) ?_
  obtain ⟨hz, hf⟩ := gd hf
  exact j_zret hK dX10_keep_15 rfl (nz hz) (rt_I hA hf)
def f_X4_hasStored (p1 : Int32) (S : St) : Option (Int32 × St) := (if p1 < 0 then some ((0 : Int32), S) else (if (3 : Int32) ≤ p1 then some ((0 : Int32), S) else if inb p1 3 then (if (gI S 91 p1.toNatClampNeg) = 0 then some ((0 : Int32), S) else some ((1 : Int32), S)) else none))
theorem c_X4_hasStored {p1 : Int32} {S : St} {r : Int32} {S' : St} (hf : f_X4_hasStored p1 S = some (r, S')) : zM yX4_hasStored cX4_hasStored 2 1 (some .boolean) [.ref 12, .int p1] S (some (.int r)) S' := by
  refine zM_of (zpl (by decide)) (Nat.le_of_ble_eq_true rfl) rfl (fun K hK hA => ?_)
  unfold f_X4_hasStored at hf
  refine j_iload_n hK dX4_hasStored_0 1 rfl rfl ?_
  refine j_if_lt hK 22 dX4_hasStored_1 (by decide) (fun hc => ?_) (fun hc => ?_)
  · replace hf := if_1 hc hf
    refine j_iconst hK (0 : Int32) dX4_hasStored_22 ic_0 ?_
    exact j_zret hK dX4_hasStored_23 rfl rfl (rt_I hA hf)
  · replace hf := if_2 hc hf
    refine j_iload_n hK dX4_hasStored_4 1 rfl rfl ?_
    refine j_iconst hK (3 : Int32) dX4_hasStored_5 ic_3 ?_
    refine j_icmp_ge hK 22 dX4_hasStored_6 (by decide) (fun hc => ?_) (fun hc => ?_)
    · replace hf := if_1 hc hf
      refine j_iconst hK (0 : Int32) dX4_hasStored_22 ic_0 ?_
      exact j_zret hK dX4_hasStored_23 rfl rfl (rt_I hA hf)
    · replace hf := if_2 hc hf
      refine j_aload_n hK dX4_hasStored_9 0 rfl rfl ?_
      refine j_getR hK fl_X4_26 dX4_hasStored_10 zo_12 zf_4_4 zr_12_4 ?_
      refine j_iload_n hK dX4_hasStored_13 1 rfl rfl ?_
      obtain ⟨hi1, hf⟩ := gd hf
      refine k_zald hK dX4_hasStored_14 zb_91 hi1 rfl ?_
      refine j_if_eq hK 22 dX4_hasStored_15 (by decide) (fun hc => ?_) (fun hc => ?_)
      · replace hf := if_1 hc hf
        refine j_iconst hK (0 : Int32) dX4_hasStored_22 ic_0 ?_
        exact j_zret hK dX4_hasStored_23 rfl rfl (rt_I hA hf)
      · replace hf := if_2 hc hf
        refine j_iconst hK (1 : Int32) dX4_hasStored_18 ic_1 ?_
        refine j_goto hK 23 dX4_hasStored_19 (by decide) ?_
        exact j_zret hK dX4_hasStored_23 rfl rfl (rt_I hA hf)
def f_X10_again (p1 : Int32) (S : St) : Option (Int32 × St) := bd (f_X4_hasStored p1 S) (fun r1 S2 => (if r1 = 0 then some ((0 : Int32), S2) else if inb p1 3 then bd (f_X7_take 6 (zr 78 p1.toNatClampNeg) S2) (fun r5 S6 => lt (sI S6 12 2 (0 : Int32)) (fun S8 => some ((1 : Int32), S8))) else none))
theorem c_X10_again {p1 : Int32} {S : St} {r : Int32} {S' : St} (hf : f_X10_again p1 S = some (r, S')) : zM yX10_again cX10_again 2 2 (some .boolean) [.ref 0, .int p1] S (some (.int r)) S' := by
  refine zM_of (zpl (by decide)) (Nat.le_of_ble_eq_true rfl) rfl (fun K hK hA => ?_)
  unfold f_X10_again at hf
  refine j_aload_n hK dX10_again_0 0 rfl rfl ?_
  refine j_getR hK fl_X10_33 dX10_again_1 zo_0 zf_10_3 zr_0_3 ?_
  refine j_iload_n hK dX10_again_4 1 rfl rfl ?_
  obtain ⟨r1, S2, h3, hf⟩ := bd_J hf
  refine k_callVi hK (c_X4_hasStored h3) dX10_again_5 zclX4 zo_12 ml_X10_417 mi_X4_hasStored mx_X4_hasStored in_X4 mc_X4_hasStored hy_X4_hasStored ⟨by decide, by decide⟩ rfl (Nat.le_of_ble_eq_true rfl) ?_
  refine j_if_ne hK 13 dX10_again_8 (by decide) (fun hc => ?_) (fun hc => ?_)
  · replace hf := if_2 hc hf
    refine j_aload_n hK dX10_again_13 0 rfl rfl ?_
    refine j_getR hK fl_X10_19 dX10_again_14 zo_0 zf_10_1 zr_0_1 ?_
    refine j_getR hK fl_X10_129 dX10_again_17 zo_3 zf_0_3 zr_3_3 ?_
    refine j_aload_n hK dX10_again_20 0 rfl rfl ?_
    refine j_getR hK fl_X10_33 dX10_again_21 zo_0 zf_10_3 zr_0_3 ?_
    refine j_getR hK fl_X10_420 dX10_again_24 zo_12 zf_4_3 zr_12_3 ?_
    refine j_iload_n hK dX10_again_27 1 rfl rfl ?_
    refine j_pc (pc' := 28) rfl ?_
    obtain ⟨hi4, hf⟩ := gd hf
    refine j_aald hK dX10_again_28 zb_78 hi4 ?_
    obtain ⟨r5, S6, h7, hf⟩ := bd_J hf
    refine k_callVv hK (c_X7_take zo_6 (st_a78 hi4) h7) dX10_again_29 zclX7 zo_6 ml_X10_233 mi_X7_take mx_X7_take in_X7 mc_X7_take hy_X7_take ⟨by decide, by decide⟩ rfl (Nat.le_of_ble_eq_true rfl) ?_
    refine j_aload_n hK dX10_again_32 0 rfl rfl ?_
    refine j_getR hK fl_X10_33 dX10_again_33 zo_0 zf_10_3 zr_0_3 ?_
    refine j_iconst hK (0 : Int32) dX10_again_36 ic_0 ?_
    refine j_putI hK fl_X10_228 dX10_again_37 zo_12 zf_4_2 ?_
    refine lt_S hf (fun S8 hf => ?_)
    refine j_iconst hK (1 : Int32) dX10_again_40 ic_1 ?_
    exact j_zret hK dX10_again_41 rfl rfl (rt_I hA hf)
  · replace hf := if_1 hc hf
    refine j_iconst hK (0 : Int32) dX10_again_11 ic_0 ?_
    exact j_zret hK dX10_again_12 rfl rfl (rt_I hA hf)
def f_X0_delayOfAll_4b (e : Int32 × Int32 → St → Option (Int32 × St)) (k : Int32 × Int32 → St → Option (Int32 × St)) (v : Int32 × Int32) (S : St) : Option (Int32 × St) := (if (gI S 3 2) ≤ v.2 then e (v.1, v.2) S else if inb v.2 12 then lt (v.1 + (gI S 7 v.2.toNatClampNeg)) (fun y2 => k (y2, (v.2 + (1 : Int32))) S) else none)
theorem t_X0_delayOfAll_4 {K : CT} (hK : KO K cX0_delayOfAll RX0 3 1 (some .int)) {r : Int32} {S' : St} (hA : zans K (some (.int r), S')) {e : Int32 × Int32 → St → Option (Int32 × St)} (he : ∀ (v : Int32 × Int32) (S : St), e v S = some (r, S') → J K 30 [(1, .int v.1)] [] S) : ∀ (n : Nat) (v : Int32 × Int32) (S : St), lp (f_X0_delayOfAll_4b  e) n v S = some (r, S') → J K 4 [(0, .ref 3), (1, .int v.1), (2, .int v.2)] [] S :=
  lp_J (P := fun (v : Int32 × Int32) (S : St) => J K 4 [(0, .ref 3), (1, .int v.1), (2, .int v.2)] [] S) (fun k hk v S hf => by
    unfold f_X0_delayOfAll_4b at hf
    refine j_iload_n hK dX0_delayOfAll_4 2 rfl rfl ?_
    refine j_aload_n hK dX0_delayOfAll_5 0 rfl rfl ?_
    refine j_getI hK fl_X0_18 dX0_delayOfAll_6 zo_3 zf_0_2 ?_
    refine j_icmp_ge hK 30 dX0_delayOfAll_9 (by decide) (fun hc => ?_) (fun hc => ?_)
    · replace hf := if_1 hc hf
      refine j_sub [1] rfl ?_
      exact he _ _ hf
    · replace hf := if_2 hc hf
      refine j_iload_n hK dX0_delayOfAll_12 1 rfl rfl ?_
      refine j_aload_n hK dX0_delayOfAll_13 0 rfl rfl ?_
      refine j_getR hK fl_X0_25 dX0_delayOfAll_14 zo_3 zf_0_3 zr_3_3 ?_
      refine j_getR hK fl_X0_29 dX0_delayOfAll_17 zo_6 zf_7_0 zr_6_0 ?_
      refine j_iload_n hK dX0_delayOfAll_20 2 rfl rfl ?_
      obtain ⟨hi1, hf⟩ := gd hf
      refine k_iald hK dX0_delayOfAll_21 zb_7 hi1 rfl ?_
      refine j_iadd hK dX0_delayOfAll_22 ?_
      refine j_pc (pc' := 23) rfl ?_
      refine lt_I hf (fun y2 hf => ?_)
      refine j_istore_n hK (L' := [(1, .int y2), (0, .ref 3), (2, .int v.2)]) dX0_delayOfAll_23 rfl (by decide) rfl ?_
      refine j_iinc hK (L' := [(2, .int (v.2 + (1 : Int32))), (1, .int y2), (0, .ref 3)]) dX0_delayOfAll_24 2 rfl (congrArg (fun y => v.2 + y) ic_1) (by decide) rfl ?_
      refine j_goto hK 4 dX0_delayOfAll_27 (by decide) ?_
      refine j_sub [2, 1, 0] rfl ?_
      exact hk _ _ hf)
def f_X0_delayOfAll (S : St) : Option (Int32 × St) := lp (f_X0_delayOfAll_4b  (fun v3 S4 => some (v3.1, S4))) FU ((0 : Int32), (0 : Int32)) S
theorem c_X0_delayOfAll {S : St} {r : Int32} {S' : St} (hf : f_X0_delayOfAll S = some (r, S')) : zM yX0_delayOfAll cX0_delayOfAll 3 1 (some .int) [.ref 3] S (some (.int r)) S' := by
  refine zM_of (zpl (by decide)) (Nat.le_of_ble_eq_true rfl) rfl (fun K hK hA => ?_)
  unfold f_X0_delayOfAll at hf
  refine j_iconst hK (0 : Int32) dX0_delayOfAll_0 ic_0 ?_
  refine j_istore_n hK (L' := [(1, .int (0 : Int32)), (0, .ref 3)]) dX0_delayOfAll_1 rfl (by decide) rfl ?_
  refine j_iconst hK (0 : Int32) dX0_delayOfAll_2 ic_0 ?_
  refine j_istore_n hK (L' := [(2, .int (0 : Int32)), (1, .int (0 : Int32)), (0, .ref 3)]) dX0_delayOfAll_3 rfl (by decide) rfl ?_
  refine j_sub [2, 1, 0] rfl ?_
  refine t_X0_delayOfAll_4 hK hA  (fun v3 S4 hf => ?_) _ _ _ hf
  refine j_iload_n hK dX0_delayOfAll_30 0 rfl rfl ?_
  exact j_iret hK dX0_delayOfAll_31 rfl (rt_I hA hf)
def f_X10_count (p1 : Int32) (S : St) : Option (Int32 × St) := (if p1 = (0 : Int32) then some ((gI S 3 2), S) else (if p1 = (1 : Int32) then bd (f_J6_bitCount_0f7a4 (gI S 6 3) S) (fun r3 S4 => some (r3, S4)) else (if p1 = (2 : Int32) then some ((gI S 6 4), S) else (if p1 = (3 : Int32) then some ((gI S 6 5), S) else (if p1 = (4 : Int32) then bd (f_X0_wearOfAll S) (fun r9 S10 => some (r9, S10)) else (if p1 = (5 : Int32) then bd (f_X0_delayOfAll S) (fun r13 S14 => some (r13, S14)) else (if p1 = (6 : Int32) then some ((gI S 101 3), S) else (if p1 = (7 : Int32) then some ((gI S 104 3), S) else (if p1 = (8 : Int32) then some ((gI S 12 2), S) else (if p1 = (9 : Int32) then some ((gI S 10 1), S) else (if p1 = (10 : Int32) then some ((gI S 1 1), S) else some ((-100 : Int32), S))))))))))))
theorem c_X10_count {p1 : Int32} {S : St} {r : Int32} {S' : St} (hf : f_X10_count p1 S = some (r, S')) : zM yX10_count cX10_count 2 2 (some .int) [.ref 0, .int p1] S (some (.int r)) S' := by
  refine zM_of (zpl (by decide)) (Nat.le_of_ble_eq_true rfl) rfl (fun K hK hA => ?_)
  unfold f_X10_count at hf
  refine j_iload_n hK dX10_count_0 1 rfl rfl ?_
  by_cases hs1 : p1 = (0 : Int32)
  · replace hf := if_1 hs1 hf
    refine j_tabC hK (0 : Int32) 60 dX10_count_1 hs1 (by decide) rfl (by decide) ?_
    refine j_aload_n hK dX10_count_60 0 rfl rfl ?_
    refine j_getR hK fl_X10_19 dX10_count_61 zo_0 zf_10_1 zr_0_1 ?_
    refine j_getI hK fl_X10_95 dX10_count_64 zo_3 zf_0_2 ?_
    exact j_iret hK dX10_count_67 rfl (rt_I hA hf)
  · replace hf := if_2 hs1 hf
    by_cases hs2 : p1 = (1 : Int32)
    · replace hf := if_1 hs2 hf
      refine j_tabC hK (1 : Int32) 68 dX10_count_1 hs2 (by decide) rfl (by decide) ?_
      refine j_aload_n hK dX10_count_68 0 rfl rfl ?_
      refine j_getR hK fl_X10_19 dX10_count_69 zo_0 zf_10_1 zr_0_1 ?_
      refine j_getR hK fl_X10_129 dX10_count_72 zo_3 zf_0_3 zr_3_3 ?_
      refine j_getI hK fl_X10_260 dX10_count_75 zo_6 zf_7_3 ?_
      obtain ⟨r3, S4, h5, hf⟩ := bd_J hf
      refine k_callSi hK (c_J6_bitCount_0f7a4 h5) dX10_count_78 ml_X10_263 ms_J6_bitCount_0f7a4 in_J6 mc_J6_bitCount_0f7a4 hy_J6_bitCount_0f7a4 ⟨by decide, by decide⟩ rfl (Nat.le_of_ble_eq_true rfl) ?_
      exact j_iret hK dX10_count_81 rfl (rt_I hA hf)
    · replace hf := if_2 hs2 hf
      by_cases hs6 : p1 = (2 : Int32)
      · replace hf := if_1 hs6 hf
        refine j_tabC hK (2 : Int32) 82 dX10_count_1 hs6 (by decide) rfl (by decide) ?_
        refine j_aload_n hK dX10_count_82 0 rfl rfl ?_
        refine j_getR hK fl_X10_19 dX10_count_83 zo_0 zf_10_1 zr_0_1 ?_
        refine j_getR hK fl_X10_129 dX10_count_86 zo_3 zf_0_3 zr_3_3 ?_
        refine j_getI hK fl_X10_424 dX10_count_89 zo_6 zf_7_4 ?_
        exact j_iret hK dX10_count_92 rfl (rt_I hA hf)
      · replace hf := if_2 hs6 hf
        by_cases hs7 : p1 = (3 : Int32)
        · replace hf := if_1 hs7 hf
          refine j_tabC hK (3 : Int32) 93 dX10_count_1 hs7 (by decide) rfl (by decide) ?_
          refine j_aload_n hK dX10_count_93 0 rfl rfl ?_
          refine j_getR hK fl_X10_19 dX10_count_94 zo_0 zf_10_1 zr_0_1 ?_
          refine j_getR hK fl_X10_129 dX10_count_97 zo_3 zf_0_3 zr_3_3 ?_
          refine j_getI hK fl_X10_225 dX10_count_100 zo_6 zf_7_5 ?_
          exact j_iret hK dX10_count_103 rfl (rt_I hA hf)
        · replace hf := if_2 hs7 hf
          by_cases hs8 : p1 = (4 : Int32)
          · replace hf := if_1 hs8 hf
            refine j_tabC hK (4 : Int32) 104 dX10_count_1 hs8 (by decide) rfl (by decide) ?_
            refine j_aload_n hK dX10_count_104 0 rfl rfl ?_
            refine j_getR hK fl_X10_19 dX10_count_105 zo_0 zf_10_1 zr_0_1 ?_
            obtain ⟨r9, S10, h11, hf⟩ := bd_J hf
            refine k_callVi hK (c_X0_wearOfAll h11) dX10_count_108 zclX0 zo_3 ml_X10_166 mi_X0_wearOfAll mx_X0_wearOfAll in_X0 mc_X0_wearOfAll hy_X0_wearOfAll ⟨by decide, by decide⟩ rfl (Nat.le_of_ble_eq_true rfl) ?_
            exact j_iret hK dX10_count_111 rfl (rt_I hA hf)
          · replace hf := if_2 hs8 hf
            by_cases hs12 : p1 = (5 : Int32)
            · replace hf := if_1 hs12 hf
              refine j_tabC hK (5 : Int32) 112 dX10_count_1 hs12 (by decide) rfl (by decide) ?_
              refine j_aload_n hK dX10_count_112 0 rfl rfl ?_
              refine j_getR hK fl_X10_19 dX10_count_113 zo_0 zf_10_1 zr_0_1 ?_
              obtain ⟨r13, S14, h15, hf⟩ := bd_J hf
              refine k_callVi hK (c_X0_delayOfAll h15) dX10_count_116 zclX0 zo_3 ml_X10_427 mi_X0_delayOfAll mx_X0_delayOfAll in_X0 mc_X0_delayOfAll hy_X0_delayOfAll ⟨by decide, by decide⟩ rfl (Nat.le_of_ble_eq_true rfl) ?_
              exact j_iret hK dX10_count_119 rfl (rt_I hA hf)
            · replace hf := if_2 hs12 hf
              by_cases hs16 : p1 = (6 : Int32)
              · replace hf := if_1 hs16 hf
                refine j_tabC hK (6 : Int32) 120 dX10_count_1 hs16 (by decide) rfl (by decide) ?_
                refine j_aload_n hK dX10_count_120 0 rfl rfl ?_
                refine j_getR hK fl_X10_56 dX10_count_121 zo_0 zf_10_6 zr_0_6 ?_
                refine j_getI hK fl_X10_342 dX10_count_124 zo_101 zf_1_3 ?_
                exact j_iret hK dX10_count_127 rfl (rt_I hA hf)
              · replace hf := if_2 hs16 hf
                by_cases hs17 : p1 = (7 : Int32)
                · replace hf := if_1 hs17 hf
                  refine j_tabC hK (7 : Int32) 128 dX10_count_1 hs17 (by decide) rfl (by decide) ?_
                  refine j_aload_n hK dX10_count_128 0 rfl rfl ?_
                  refine j_getR hK fl_X10_63 dX10_count_129 zo_0 zf_10_7 zr_0_7 ?_
                  refine j_getI hK fl_X10_352 dX10_count_132 zo_104 zf_3_3 ?_
                  exact j_iret hK dX10_count_135 rfl (rt_I hA hf)
                · replace hf := if_2 hs17 hf
                  by_cases hs18 : p1 = (8 : Int32)
                  · replace hf := if_1 hs18 hf
                    refine j_tabC hK (8 : Int32) 136 dX10_count_1 hs18 (by decide) rfl (by decide) ?_
                    refine j_aload_n hK dX10_count_136 0 rfl rfl ?_
                    refine j_getR hK fl_X10_33 dX10_count_137 zo_0 zf_10_3 zr_0_3 ?_
                    refine j_getI hK fl_X10_228 dX10_count_140 zo_12 zf_4_2 ?_
                    exact j_iret hK dX10_count_143 rfl (rt_I hA hf)
                  · replace hf := if_2 hs18 hf
                    by_cases hs19 : p1 = (9 : Int32)
                    · replace hf := if_1 hs19 hf
                      refine j_tabC hK (9 : Int32) 144 dX10_count_1 hs19 (by decide) rfl (by decide) ?_
                      refine j_aload_n hK dX10_count_144 0 rfl rfl ?_
                      refine j_getR hK fl_X10_26 dX10_count_145 zo_0 zf_10_2 zr_0_2 ?_
                      refine j_getI hK fl_X10_296 dX10_count_148 zo_10 zf_5_1 ?_
                      exact j_iret hK dX10_count_151 rfl (rt_I hA hf)
                    · replace hf := if_2 hs19 hf
                      by_cases hs20 : p1 = (10 : Int32)
                      · replace hf := if_1 hs20 hf
                        refine j_tabC hK (10 : Int32) 152 dX10_count_1 hs20 (by decide) rfl (by decide) ?_
                        refine j_aload_n hK dX10_count_152 0 rfl rfl ?_
                        refine j_getR hK fl_X10_10 dX10_count_153 zo_0 zf_10_0 zr_0_0 ?_
                        refine j_getI hK fl_X10_88 dX10_count_156 zo_1 zf_8_1 ?_
                        exact j_iret hK dX10_count_159 rfl (rt_I hA hf)
                      · replace hf := if_2 hs20 hf
                        refine j_tabOut hK 160 dX10_count_1 (by have q := And.intro (ne_toInt 0 (by decide) hs1) (And.intro (ne_toInt 1 (by decide) hs2) (And.intro (ne_toInt 2 (by decide) hs6) (And.intro (ne_toInt 3 (by decide) hs7) (And.intro (ne_toInt 4 (by decide) hs8) (And.intro (ne_toInt 5 (by decide) hs12) (And.intro (ne_toInt 6 (by decide) hs16) (And.intro (ne_toInt 7 (by decide) hs17) (And.intro (ne_toInt 8 (by decide) hs18) (And.intro (ne_toInt 9 (by decide) hs19) (And.intro (ne_toInt 10 (by decide) hs20) trivial)))))))))); omega) (by decide) ?_
                        refine j_bipush hK (-100 : Int32) dX10_count_160 bi_m100 ?_
                        exact j_iret hK dX10_count_162 rfl (rt_I hA hf)
def f_X10_row_15 (S : St) : Option (Option Int64 × St) := some (none, S)
theorem t_X10_row_15 {K : CT} (hK : KO K cX10_row RX10 2 6 (some .long)) {r : Option Int64} {S' : St} (hA : zansX K (r.map (fun v => some (.long v)), S')) {S : St} (hf : f_X10_row_15  S = some (r, S')) : J K 15 [] [] S := by
  unfold f_X10_row_15 at hf
  exact j_throw hK dX10_row_15 dX10_row_18 dX10_row_19 dX10_row_22 (by decide) (Nat.le_of_ble_eq_true rfl) (rt_XJt hA hf)
def f_X10_row (p1 : Int32) (S : St) : Option (Option Int64 × St) := (if p1 < 0 then f_X10_row_15  S else (if p1 < (gI S 10 1) then bd (f_X5_at p1 S) (fun r1 S2 => some (some r1, S2)) else f_X10_row_15  S))
theorem c_X10_row {p1 : Int32} {S : St} {r : Option Int64} {S' : St} (hf : f_X10_row p1 S = some (r, S')) : zMX yX10_row cX10_row 2 6 (some .long) [.ref 0, .int p1] S (r.map (fun v => some (.long v))) S' := by
  refine zMX_of (by decide) (Nat.le_of_ble_eq_true rfl) rfl (fun K hK hA => ?_)
  unfold f_X10_row at hf
  refine j_iload_n hK dX10_row_0 1 rfl rfl ?_
  refine j_if_lt hK 15 dX10_row_1 (by decide) (fun hc => ?_) (fun hc => ?_)
  · replace hf := if_1 hc hf
    refine j_sub [] rfl ?_
    exact t_X10_row_15 hK hA  hf
  · replace hf := if_2 hc hf
    refine j_iload_n hK dX10_row_4 1 rfl rfl ?_
    refine j_aload_n hK dX10_row_5 0 rfl rfl ?_
    refine j_getR hK fl_X10_26 dX10_row_6 zo_0 zf_10_2 zr_0_2 ?_
    refine j_getI hK fl_X10_296 dX10_row_9 zo_10 zf_5_1 ?_
    refine j_icmp_lt hK 23 dX10_row_12 (by decide) (fun hc => ?_) (fun hc => ?_)
    · replace hf := if_1 hc hf
      refine j_aload_n hK dX10_row_23 0 rfl rfl ?_
      refine j_getR hK fl_X10_26 dX10_row_24 zo_0 zf_10_2 zr_0_2 ?_
      refine j_iload_n hK dX10_row_27 1 rfl rfl ?_
      obtain ⟨r1, S2, h3, hf⟩ := bd_J hf
      refine k_callVl hK (c_X5_at h3) dX10_row_28 zclX5 zo_10 ml_X10_272 mi_X5_at mx_X5_at in_X5 mc_X5_at hy_X5_at ⟨by decide, by decide⟩ rfl (Nat.le_of_ble_eq_true rfl) ?_
      exact j_xlret hK dX10_row_31 rfl (rt_XJ hA hf)
    · replace hf := if_2 hc hf
      refine j_sub [] rfl ?_
      exact t_X10_row_15 hK hA  hf
def f_X11_thrown (S : St) : Option (Int32 × St) := some ((gI S 122 0), S)
theorem c_X11_thrown {S : St} {r : Int32} {S' : St} (hf : f_X11_thrown S = some (r, S')) : zM yX11_thrown cX11_thrown 1 1 (some .int) [.ref 122] S (some (.int r)) S' := by
  refine zM_of (zpl (by decide)) (Nat.le_of_ble_eq_true rfl) rfl (fun K hK hA => ?_)
  unfold f_X11_thrown at hf
  refine j_aload_n hK dX11_thrown_0 0 rfl rfl ?_
  refine j_getI hK fl_X11_3 dX11_thrown_1 zo_122 zf_11_0 ?_
  exact j_iret hK dX11_thrown_4 rfl (rt_I hA hf)
def f_X11_refuse (S : St) : Option (Int32 × St) := lt (sI S 122 0 (1 : Int32)) (fun S1 => some ((0 : Int32), S1))
theorem c_X11_refuse {S : St} {r : Int32} {S' : St} (hf : f_X11_refuse S = some (r, S')) : zM yX11_refuse cX11_refuse 1 1 (some .int) [.ref 122] S (some (.int r)) S' := by
  refine zM_of (zpl (by decide)) (Nat.le_of_ble_eq_true rfl) rfl (fun K hK hA => ?_)
  unfold f_X11_refuse at hf
  refine j_aload_n hK dX11_refuse_0 0 rfl rfl ?_
  refine j_iconst hK (1 : Int32) dX11_refuse_1 ic_1 ?_
  refine j_putI hK fl_X11_3 dX11_refuse_2 zo_122 zf_11_0 ?_
  refine lt_S hf (fun S1 hf => ?_)
  refine j_iconst hK (0 : Int32) dX11_refuse_5 ic_0 ?_
  exact j_iret hK dX11_refuse_6 rfl (rt_I hA hf)
def f_X11_in (p0 : Int64) (p2 : Int64) (p4 : Int64) (S : St) : Option (Int32 × St) := (if (lg_cmp p0 p2) < 0 then some ((0 : Int32), S) else (if 0 < (lg_cmp p0 p4) then some ((0 : Int32), S) else some ((1 : Int32), S)))
theorem c_X11_in {p0 : Int64} {p2 : Int64} {p4 : Int64} {S : St} {r : Int32} {S' : St} (hf : f_X11_in p0 p2 p4 S = some (r, S')) : zM yX11_in cX11_in 6 1 (some .boolean) [.long p0, .long p2, .long p4] S (some (.int r)) S' := by
  refine zM_of (zpl (by decide)) (Nat.le_of_ble_eq_true rfl) rfl (fun K hK hA => ?_)
  unfold f_X11_in at hf
  refine j_lload_n hK dX11_in_0 0 rfl rfl ?_
  refine j_lload_n hK dX11_in_1 1 rfl rfl ?_
  refine j_lcmp hK dX11_in_2 ?_
  refine j_if_lt hK 17 dX11_in_3 (by decide) (fun hc => ?_) (fun hc => ?_)
  · replace hf := if_1 hc hf
    refine j_iconst hK (0 : Int32) dX11_in_17 ic_0 ?_
    exact j_zret hK dX11_in_18 rfl rfl (rt_I hA hf)
  · replace hf := if_2 hc hf
    refine j_lload_n hK dX11_in_6 0 rfl rfl ?_
    refine j_lload hK dX11_in_7 2 rfl ?_
    refine j_lcmp hK dX11_in_9 ?_
    refine j_if_gt hK 17 dX11_in_10 (by decide) (fun hc => ?_) (fun hc => ?_)
    · replace hf := if_1 hc hf
      refine j_iconst hK (0 : Int32) dX11_in_17 ic_0 ?_
      exact j_zret hK dX11_in_18 rfl rfl (rt_I hA hf)
    · replace hf := if_2 hc hf
      refine j_iconst hK (1 : Int32) dX11_in_13 ic_1 ?_
      refine j_goto hK 18 dX11_in_14 (by decide) ?_
      exact j_zret hK dX11_in_18 rfl rfl (rt_I hA hf)
def f_X11_has (p0 : Int32) (p1 : Int32) (S : St) : Option (Int32 × St) := (if ((p0 >>> (p1 &&& 31)) &&& (1 : Int32)) = (1 : Int32) then some ((1 : Int32), S) else some ((0 : Int32), S))
theorem c_X11_has {p0 : Int32} {p1 : Int32} {S : St} {r : Int32} {S' : St} (hf : f_X11_has p0 p1 S = some (r, S')) : zM yX11_has cX11_has 2 1 (some .boolean) [.int p0, .int p1] S (some (.int r)) S' := by
  refine zM_of (zpl (by decide)) (Nat.le_of_ble_eq_true rfl) rfl (fun K hK hA => ?_)
  unfold f_X11_has at hf
  refine j_iload_n hK dX11_has_0 0 rfl rfl ?_
  refine j_iload_n hK dX11_has_1 1 rfl rfl ?_
  refine j_ishr hK dX11_has_2 ?_
  refine j_iconst hK (1 : Int32) dX11_has_3 ic_1 ?_
  refine j_iand hK dX11_has_4 ?_
  refine j_iconst hK (1 : Int32) dX11_has_5 ic_1 ?_
  refine j_icmp_ne hK 13 dX11_has_6 (by decide) (fun hc => ?_) (fun hc => ?_)
  · replace hf := if_2 hc hf
    refine j_iconst hK (0 : Int32) dX11_has_13 ic_0 ?_
    exact j_zret hK dX11_has_14 rfl rfl (rt_I hA hf)
  · replace hf := if_1 hc hf
    refine j_iconst hK (1 : Int32) dX11_has_9 ic_1 ?_
    refine j_goto hK 14 dX11_has_10 (by decide) ?_
    exact j_zret hK dX11_has_14 rfl rfl (rt_I hA hf)
def f_X11_flag (p0 : Int32) (S : St) : Option (Int32 × St) := (if p0 = 0 then some ((0 : Int32), S) else some ((1 : Int32), S))
theorem c_X11_flag {p0 : Int32} {S : St} {r : Int32} {S' : St} (hf : f_X11_flag p0 S = some (r, S')) : zM yX11_flag cX11_flag 1 1 (some .int) [.int p0] S (some (.int r)) S' := by
  refine zM_of (zpl (by decide)) (Nat.le_of_ble_eq_true rfl) rfl (fun K hK hA => ?_)
  unfold f_X11_flag at hf
  refine j_iload_n hK dX11_flag_0 0 rfl rfl ?_
  refine j_if_eq hK 8 dX11_flag_1 (by decide) (fun hc => ?_) (fun hc => ?_)
  · replace hf := if_1 hc hf
    refine j_iconst hK (0 : Int32) dX11_flag_8 ic_0 ?_
    exact j_iret hK dX11_flag_9 rfl (rt_I hA hf)
  · replace hf := if_2 hc hf
    refine j_iconst hK (1 : Int32) dX11_flag_4 ic_1 ?_
    refine j_goto hK 9 dX11_flag_5 (by decide) ?_
    exact j_iret hK dX11_flag_9 rfl (rt_I hA hf)
def f_X11_common (gf_X11_common : Int64 → Int64 → St → Option (Int64 × St)) (p0 : Int64) (p2 : Int64) (S : St) : Option (Int64 × St) := (if (lg_cmp p2 (0 : Int64)) = 0 then some (p0, S) else if ¬ p2 = 0 then bd (gf_X11_common p2 (p0 - p0 / p2 * p2) S) (fun r2 S3 => some (r2, S3)) else none)
theorem c_X11_common {dd : Nat} {gf_X11_common : Int64 → Int64 → St → Option (Int64 × St)} (hg_X11_common : ∀ {q0 : Int64} {q1 : Int64} {S0 : St} {r0 : Int64} {S1 : St}, gf_X11_common q0 q1 S0 = some (r0, S1) → zM yX11_common cX11_common 4 (dd + 39) (some .long) [.long q0, .long q1] S0 (some (.long r0)) S1) {p0 : Int64} {p2 : Int64} {S : St} {r : Int64} {S' : St} (hf : f_X11_common gf_X11_common p0 p2 S = some (r, S')) : zM yX11_common cX11_common 4 (dd + 40) (some .long) [.long p0, .long p2] S (some (.long r)) S' := by
  refine zM_of (zpl (by decide)) (Nat.le_of_ble_eq_true rfl) rfl (fun K hK hA => ?_)
  unfold f_X11_common at hf
  refine j_lload_n hK dX11_common_0 1 rfl rfl ?_
  refine j_lconst hK (0 : Int64) dX11_common_1 lc_0 ?_
  refine j_lcmp hK dX11_common_2 ?_
  refine j_if_ne hK 10 dX11_common_3 (by decide) (fun hc => ?_) (fun hc => ?_)
  · replace hf := if_2 hc hf
    refine j_lload_n hK dX11_common_10 1 rfl rfl ?_
    refine j_lload_n hK dX11_common_11 0 rfl rfl ?_
    refine j_lload_n hK dX11_common_12 1 rfl rfl ?_
    obtain ⟨hn1, hf⟩ := gd hf
    refine j_lrem hK dX11_common_13 hn1 ?_
    obtain ⟨r2, S3, h4, hf⟩ := bd_J hf
    refine k_callSl hK (hg_X11_common h4) dX11_common_14 ml_X11_7 ms_X11_common in_X11 mc_X11_common hy_X11_common ⟨by omega, by decide⟩ rfl (Nat.le_of_ble_eq_true rfl) ?_
    exact j_lret hK dX11_common_17 rfl (rt_L hA hf)
  · replace hf := if_1 hc hf
    refine j_lload_n hK dX11_common_6 0 rfl rfl ?_
    refine j_goto hK 17 dX11_common_7 (by decide) ?_
    exact j_lret hK dX11_common_17 rfl (rt_L hA hf)
def F_X11_common : Nat → Int64 → Int64 → St → Option (Int64 × St)
  | 0 => fun _ _ _ => none
  | n + 1 => f_X11_common (F_X11_common n)
theorem C_X11_common : ∀ (n : Nat) {p0 p2 : Int64} {S : St} {r : Int64} {S' : St}, F_X11_common n p0 p2 S = some (r, S') → zM yX11_common cX11_common 4 (n + 39) (some .long) [.long p0, .long p2] S (some (.long r)) S'
  | 0, _, _, _, _, _, hf => by cases hf
  | n + 1, _, _, _, _, _, hf => c_X11_common (gf_X11_common := F_X11_common n) (dd := n) (C_X11_common n) hf
def f_X11_enters (p1 : Int64) (S : St) : Option (Unit × St) := if inb (gI S 122 1) 24 then lt (sL S 123 (gI S 122 1).toNatClampNeg p1) (fun S2 => lt (sI S2 122 1 ((gI S2 122 1) + (1 : Int32))) (fun S3 => some ((), S3))) else none
theorem c_X11_enters {p1 : Int64} {S : St} {r : Unit} {S' : St} (hf : f_X11_enters p1 S = some (r, S')) : zM yX11_enters cX11_enters 3 1 none [.ref 122, .long p1] S (none) S' := by
  refine zM_of (zpl (by decide)) (Nat.le_of_ble_eq_true rfl) rfl (fun K hK hA => ?_)
  unfold f_X11_enters at hf
  refine j_aload_n hK dX11_enters_0 0 rfl rfl ?_
  refine j_getR hK fl_X11_11 dX11_enters_1 zo_122 zf_11_2 zr_122_2 ?_
  refine j_aload_n hK dX11_enters_4 0 rfl rfl ?_
  refine j_getI hK fl_X11_15 dX11_enters_5 zo_122 zf_11_1 ?_
  refine j_lload_n hK dX11_enters_8 1 rfl rfl ?_
  obtain ⟨hi1, hf⟩ := gd hf
  refine k_last hK dX11_enters_9 zb_123 hi1 rfl ?_
  refine lt_S hf (fun S2 hf => ?_)
  refine j_aload_n hK dX11_enters_10 0 rfl rfl ?_
  refine j_dup hK dX11_enters_11 rfl ?_
  refine j_pc (pc' := 12) rfl ?_
  refine j_getI hK fl_X11_15 dX11_enters_12 zo_122 zf_11_1 ?_
  refine j_iconst hK (1 : Int32) dX11_enters_15 ic_1 ?_
  refine j_iadd hK dX11_enters_16 ?_
  refine j_putI hK fl_X11_15 dX11_enters_17 zo_122 zf_11_1 ?_
  refine lt_S hf (fun S3 hf => ?_)
  exact j_vret hK dX11_enters_20 rfl (rt_V hA hf)
def f_X11_isPassage (p1 : Int32) (S : St) : Option (Int32 × St) := bd (f_X11_in p1.toInt64 (0 : Int64) ((gI S 122 3) - (1 : Int32)).toInt64 S) (fun r1 S2 => if r1 = 0 ∨ r1 = 1 then some (r1, S2) else none)
theorem c_X11_isPassage {p1 : Int32} {S : St} {r : Int32} {S' : St} (hf : f_X11_isPassage p1 S = some (r, S')) : zM yX11_isPassage cX11_isPassage 2 2 (some .boolean) [.ref 122, .int p1] S (some (.int r)) S' := by
  refine zM_of (zpl (by decide)) (Nat.le_of_ble_eq_true rfl) rfl (fun K hK hA => ?_)
  unfold f_X11_isPassage at hf
  refine j_iload_n hK dX11_isPassage_0 1 rfl rfl ?_
  refine j_i2l hK dX11_isPassage_1 ?_
  refine j_lconst hK (0 : Int64) dX11_isPassage_2 lc_0 ?_
  refine j_aload_n hK dX11_isPassage_3 0 rfl rfl ?_
  refine j_getI hK fl_X11_128 dX11_isPassage_4 zo_122 zf_11_3 ?_
  refine j_iconst hK (1 : Int32) dX11_isPassage_7 ic_1 ?_
  refine j_isub hK dX11_isPassage_8 ?_
  refine j_i2l hK dX11_isPassage_9 ?_
  refine j_pc (pc' := 10) rfl ?_
  obtain ⟨r1, S2, h3, hf⟩ := bd_J hf
  refine k_callSi hK (c_X11_in h3) dX11_isPassage_10 ml_X11_131 ms_X11_in in_X11 mc_X11_in hy_X11_in ⟨by decide, by decide⟩ rfl (Nat.le_of_ble_eq_true rfl) ?_
  obtain ⟨hz, hf⟩ := gd hf
  exact j_zret hK dX11_isPassage_13 rfl (nz hz) (rt_I hA hf)
def f_X11_isCavern (p0 : Int32) (S : St) : Option (Int32 × St) := bd (f_X11_in p0.toInt64 (0 : Int64) (7 : Int64) S) (fun r1 S2 => if r1 = 0 ∨ r1 = 1 then some (r1, S2) else none)
theorem c_X11_isCavern {p0 : Int32} {S : St} {r : Int32} {S' : St} (hf : f_X11_isCavern p0 S = some (r, S')) : zM yX11_isCavern cX11_isCavern 1 2 (some .boolean) [.int p0] S (some (.int r)) S' := by
  refine zM_of (zpl (by decide)) (Nat.le_of_ble_eq_true rfl) rfl (fun K hK hA => ?_)
  unfold f_X11_isCavern at hf
  refine j_iload_n hK dX11_isCavern_0 0 rfl rfl ?_
  refine j_i2l hK dX11_isCavern_1 ?_
  refine j_lconst hK (0 : Int64) dX11_isCavern_2 lc_0 ?_
  refine j_ldc2 hK (v := (7 : Int64)) cl_X11_135 dX11_isCavern_3 ?_
  obtain ⟨r1, S2, h3, hf⟩ := bd_J hf
  refine k_callSi hK (c_X11_in h3) dX11_isCavern_6 ml_X11_131 ms_X11_in in_X11 mc_X11_in hy_X11_in ⟨by decide, by decide⟩ rfl (Nat.le_of_ble_eq_true rfl) ?_
  obtain ⟨hz, hf⟩ := gd hf
  exact j_zret hK dX11_isCavern_9 rfl (nz hz) (rt_I hA hf)
def f_X11_isEnd_20 (S : St) : Option (Int32 × St) := some ((1 : Int32), S)
theorem t_X11_isEnd_20 {K : CT} (hK : KO K cX11_isEnd RX11 3 1 (some .boolean)) {r : Int32} {S' : St} (hA : zans K (some (.int r), S')) {S : St} (hf : f_X11_isEnd_20  S = some (r, S')) : J K 20 [] [] S := by
  unfold f_X11_isEnd_20 at hf
  refine j_iconst hK (1 : Int32) dX11_isEnd_20 ic_1 ?_
  refine j_goto hK 25 dX11_isEnd_21 (by decide) ?_
  exact j_zret hK dX11_isEnd_25 rfl rfl (rt_I hA hf)
def f_X11_isEnd (p1 : Int32) (p2 : Int32) (S : St) : Option (Int32 × St) := if inb p1 12 then (if (gI S 124 p1.toNatClampNeg) = p2 then f_X11_isEnd_20  S else if inb p1 12 then (if (gI S 125 p1.toNatClampNeg) = p2 then f_X11_isEnd_20  S else some ((0 : Int32), S)) else none) else none
theorem c_X11_isEnd {p1 : Int32} {p2 : Int32} {S : St} {r : Int32} {S' : St} (hf : f_X11_isEnd p1 p2 S = some (r, S')) : zM yX11_isEnd cX11_isEnd 3 1 (some .boolean) [.ref 122, .int p1, .int p2] S (some (.int r)) S' := by
  refine zM_of (zpl (by decide)) (Nat.le_of_ble_eq_true rfl) rfl (fun K hK hA => ?_)
  unfold f_X11_isEnd at hf
  refine j_aload_n hK dX11_isEnd_0 0 rfl rfl ?_
  refine j_getR hK fl_X11_24 dX11_isEnd_1 zo_122 zf_11_5 zr_122_5 ?_
  refine j_iload_n hK dX11_isEnd_4 1 rfl rfl ?_
  obtain ⟨hi1, hf⟩ := gd hf
  refine k_iald hK dX11_isEnd_5 zb_124 hi1 rfl ?_
  refine j_iload_n hK dX11_isEnd_6 2 rfl rfl ?_
  refine j_icmp_eq hK 20 dX11_isEnd_7 (by decide) (fun hc => ?_) (fun hc => ?_)
  · replace hf := if_1 hc hf
    refine j_sub [] rfl ?_
    exact t_X11_isEnd_20 hK hA  hf
  · replace hf := if_2 hc hf
    refine j_aload_n hK dX11_isEnd_10 0 rfl rfl ?_
    refine j_getR hK fl_X11_28 dX11_isEnd_11 zo_122 zf_11_6 zr_122_6 ?_
    refine j_iload_n hK dX11_isEnd_14 1 rfl rfl ?_
    obtain ⟨hi2, hf⟩ := gd hf
    refine k_iald hK dX11_isEnd_15 zb_125 hi2 rfl ?_
    refine j_iload_n hK dX11_isEnd_16 2 rfl rfl ?_
    refine j_icmp_ne hK 24 dX11_isEnd_17 (by decide) (fun hc => ?_) (fun hc => ?_)
    · replace hf := if_2 hc hf
      refine j_iconst hK (0 : Int32) dX11_isEnd_24 ic_0 ?_
      exact j_zret hK dX11_isEnd_25 rfl rfl (rt_I hA hf)
    · replace hf := if_1 hc hf
      refine j_sub [] rfl ?_
      exact t_X11_isEnd_20 hK hA  hf
def f_X11_beyond (p1 : Int32) (p2 : Int32) (S : St) : Option (Int32 × St) := if inb p1 12 then (if (gI S 124 p1.toNatClampNeg) = p2 then if inb p1 12 then some ((gI S 125 p1.toNatClampNeg), S) else none else if inb p1 12 then some ((gI S 124 p1.toNatClampNeg), S) else none) else none
theorem c_X11_beyond {p1 : Int32} {p2 : Int32} {S : St} {r : Int32} {S' : St} (hf : f_X11_beyond p1 p2 S = some (r, S')) : zM yX11_beyond cX11_beyond 3 1 (some .int) [.ref 122, .int p1, .int p2] S (some (.int r)) S' := by
  refine zM_of (zpl (by decide)) (Nat.le_of_ble_eq_true rfl) rfl (fun K hK hA => ?_)
  unfold f_X11_beyond at hf
  refine j_aload_n hK dX11_beyond_0 0 rfl rfl ?_
  refine j_getR hK fl_X11_24 dX11_beyond_1 zo_122 zf_11_5 zr_122_5 ?_
  refine j_iload_n hK dX11_beyond_4 1 rfl rfl ?_
  obtain ⟨hi1, hf⟩ := gd hf
  refine k_iald hK dX11_beyond_5 zb_124 hi1 rfl ?_
  refine j_iload_n hK dX11_beyond_6 2 rfl rfl ?_
  refine j_icmp_ne hK 19 dX11_beyond_7 (by decide) (fun hc => ?_) (fun hc => ?_)
  · replace hf := if_2 hc hf
    refine j_aload_n hK dX11_beyond_19 0 rfl rfl ?_
    refine j_getR hK fl_X11_24 dX11_beyond_20 zo_122 zf_11_5 zr_122_5 ?_
    refine j_iload_n hK dX11_beyond_23 1 rfl rfl ?_
    obtain ⟨hi2, hf⟩ := gd hf
    refine k_iald hK dX11_beyond_24 zb_124 hi2 rfl ?_
    exact j_iret hK dX11_beyond_25 rfl (rt_I hA hf)
  · replace hf := if_1 hc hf
    refine j_aload_n hK dX11_beyond_10 0 rfl rfl ?_
    refine j_getR hK fl_X11_28 dX11_beyond_11 zo_122 zf_11_6 zr_122_6 ?_
    refine j_iload_n hK dX11_beyond_14 1 rfl rfl ?_
    obtain ⟨hi3, hf⟩ := gd hf
    refine k_iald hK dX11_beyond_15 zb_125 hi3 rfl ?_
    refine j_goto hK 25 dX11_beyond_16 (by decide) ?_
    exact j_iret hK dX11_beyond_25 rfl (rt_I hA hf)
def f_X11_sumOf_5b (ar : Nat) (x2 : Int32) (e : Int32 × Int32 → St → Option (Int32 × St)) (k : Int32 × Int32 → St → Option (Int32 × St)) (v : Int32 × Int32) (S : St) : Option (Int32 × St) := (if (gI S 122 3) ≤ v.2 then e (v.1, v.2) S else if inb (x2 + v.2) 39 then lt (v.1 + (gI S ar (x2 + v.2).toNatClampNeg)) (fun y2 => k (y2, (v.2 + (1 : Int32))) S) else none)
theorem t_X11_sumOf_5 {K : CT} (hK : KO K cX11_sumOf RX11 5 1 (some .int)) {r : Int32} {S' : St} (hA : zans K (some (.int r), S')) {ar : Nat} (har : zB 12 39 ar) {x2 : Int32} {e : Int32 × Int32 → St → Option (Int32 × St)} (he : ∀ (v : Int32 × Int32) (S : St), e v S = some (r, S') → J K 29 [(3, .int v.1)] [] S) : ∀ (n : Nat) (v : Int32 × Int32) (S : St), lp (f_X11_sumOf_5b ar x2 e) n v S = some (r, S') → J K 5 [(0, .ref 122), (1, .ref ar), (2, .int x2), (3, .int v.1), (4, .int v.2)] [] S :=
  lp_J (P := fun (v : Int32 × Int32) (S : St) => J K 5 [(0, .ref 122), (1, .ref ar), (2, .int x2), (3, .int v.1), (4, .int v.2)] [] S) (fun k hk v S hf => by
    unfold f_X11_sumOf_5b at hf
    refine j_iload hK dX11_sumOf_5 4 rfl ?_
    refine j_aload_n hK dX11_sumOf_7 0 rfl rfl ?_
    refine j_getI hK fl_X11_128 dX11_sumOf_8 zo_122 zf_11_3 ?_
    refine j_icmp_ge hK 29 dX11_sumOf_11 (by decide) (fun hc => ?_) (fun hc => ?_)
    · replace hf := if_1 hc hf
      refine j_sub [3] rfl ?_
      exact he _ _ hf
    · replace hf := if_2 hc hf
      refine j_iload_n hK dX11_sumOf_14 3 rfl rfl ?_
      refine j_aload_n hK dX11_sumOf_15 1 rfl rfl ?_
      refine j_iload_n hK dX11_sumOf_16 2 rfl rfl ?_
      refine j_iload hK dX11_sumOf_17 4 rfl ?_
      refine j_iadd hK dX11_sumOf_19 ?_
      obtain ⟨hi1, hf⟩ := gd hf
      refine k_iald hK dX11_sumOf_20 har hi1 rfl ?_
      refine j_iadd hK dX11_sumOf_21 ?_
      refine j_pc (pc' := 22) rfl ?_
      refine lt_I hf (fun y2 hf => ?_)
      refine j_istore_n hK (L' := [(3, .int y2), (0, .ref 122), (1, .ref ar), (2, .int x2), (4, .int v.2)]) dX11_sumOf_22 rfl (by decide) rfl ?_
      refine j_iinc hK (L' := [(4, .int (v.2 + (1 : Int32))), (3, .int y2), (0, .ref 122), (1, .ref ar), (2, .int x2)]) dX11_sumOf_23 4 rfl (congrArg (fun y => v.2 + y) ic_1) (by decide) rfl ?_
      refine j_goto hK 5 dX11_sumOf_26 (by decide) ?_
      refine j_sub [2, 3, 4, 1, 0] rfl ?_
      exact hk _ _ hf)
def f_X11_sumOf (ar : Nat) (p2 : Int32) (S : St) : Option (Int32 × St) := lp (f_X11_sumOf_5b ar p2 (fun v3 S4 => some (v3.1, S4))) FU ((0 : Int32), (0 : Int32)) S
theorem c_X11_sumOf {ar : Nat} (har : zB 12 39 ar) {p2 : Int32} {S : St} {r : Int32} {S' : St} (hf : f_X11_sumOf ar p2 S = some (r, S')) : zM yX11_sumOf cX11_sumOf 5 1 (some .int) [.ref 122, .ref ar, .int p2] S (some (.int r)) S' := by
  refine zM_of (zpl (by decide)) (Nat.le_of_ble_eq_true rfl) rfl (fun K hK hA => ?_)
  unfold f_X11_sumOf at hf
  refine j_iconst hK (0 : Int32) dX11_sumOf_0 ic_0 ?_
  refine j_istore_n hK (L' := [(3, .int (0 : Int32)), (0, .ref 122), (1, .ref ar), (2, .int p2)]) dX11_sumOf_1 rfl (by decide) rfl ?_
  refine j_iconst hK (0 : Int32) dX11_sumOf_2 ic_0 ?_
  refine j_istore hK (L' := [(4, .int (0 : Int32)), (3, .int (0 : Int32)), (0, .ref 122), (1, .ref ar), (2, .int p2)]) dX11_sumOf_3 (by decide) rfl ?_
  refine j_sub [2, 3, 4, 1, 0] rfl ?_
  refine t_X11_sumOf_5 hK hA har (fun v3 S4 hf => ?_) _ _ _ hf
  refine j_iload_n hK dX11_sumOf_29 0 rfl rfl ?_
  exact j_iret hK dX11_sumOf_30 rfl (rt_I hA hf)
def f_X11_sign_18b (x1 : Int32) (e : Int32 → St → Option (Int32 × St)) (k : Int32 → St → Option (Int32 × St)) (v : Int32) (S : St) : Option (Int32 × St) := (if (4 : Int32) ≤ v then e v S else lt ((x1 >>> (((24 : Int32) - ((8 : Int32) * v)) &&& 31)) &&& (255 : Int32)) (fun y1 => if inb ((gI S 122 10) + v) 80 then lt (sI S 128 ((gI S 122 10) + v).toNatClampNeg y1) (fun S3 => k (v + (1 : Int32)) S3) else none))
theorem t_X11_sign_18 {K : CT} (hK : KO K cX11_sign RX11 3 1 (some .int)) {r : Int32} {S' : St} (hA : zans K (some (.int r), S')) {x1 : Int32} {e : Int32 → St → Option (Int32 × St)} (he : ∀ (v : Int32) (S : St), e v S = some (r, S') → J K 53 [(0, .ref 122)] [] S) : ∀ (n : Nat) (v : Int32) (S : St), lp (f_X11_sign_18b x1 e) n v S = some (r, S') → J K 18 [(0, .ref 122), (1, .int x1), (2, .int v)] [] S :=
  lp_J (P := fun (v : Int32) (S : St) => J K 18 [(0, .ref 122), (1, .int x1), (2, .int v)] [] S) (fun k hk v S hf => by
    unfold f_X11_sign_18b at hf
    refine j_iload_n hK dX11_sign_18 2 rfl rfl ?_
    refine j_iconst hK (4 : Int32) dX11_sign_19 ic_4 ?_
    refine j_icmp_ge hK 53 dX11_sign_20 (by decide) (fun hc => ?_) (fun hc => ?_)
    · replace hf := if_1 hc hf
      refine j_sub [0] rfl ?_
      exact he _ _ hf
    · replace hf := if_2 hc hf
      refine j_aload_n hK dX11_sign_23 0 rfl rfl ?_
      refine j_getR hK fl_X11_37 dX11_sign_24 zo_122 zf_11_9 zr_122_9 ?_
      refine j_aload_n hK dX11_sign_27 0 rfl rfl ?_
      refine j_getI hK fl_X11_137 dX11_sign_28 zo_122 zf_11_10 ?_
      refine j_iload_n hK dX11_sign_31 2 rfl rfl ?_
      refine j_iadd hK dX11_sign_32 ?_
      refine j_iload_n hK dX11_sign_33 1 rfl rfl ?_
      refine j_pc (pc' := 34) rfl ?_
      refine j_bipush hK (24 : Int32) dX11_sign_34 bi_24 ?_
      refine j_bipush hK (8 : Int32) dX11_sign_36 bi_8 ?_
      refine j_iload_n hK dX11_sign_38 2 rfl rfl ?_
      refine j_imul hK dX11_sign_39 ?_
      refine j_isub hK dX11_sign_40 ?_
      refine j_ishr hK dX11_sign_41 ?_
      refine j_sipush hK (255 : Int32) dX11_sign_42 si_255 ?_
      refine j_iand hK dX11_sign_45 ?_
      refine lt_I hf (fun y1 hf => ?_)
      refine j_pc (pc' := 46) rfl ?_
      obtain ⟨hi2, hf⟩ := gd hf
      refine k_iast hK dX11_sign_46 zb_128 hi2 rfl ?_
      refine lt_S hf (fun S3 hf => ?_)
      refine j_iinc hK (L' := [(2, .int (v + (1 : Int32))), (0, .ref 122), (1, .int x1)]) dX11_sign_47 2 rfl (congrArg (fun y => v + y) ic_1) (by decide) rfl ?_
      refine j_goto hK 18 dX11_sign_50 (by decide) ?_
      refine j_sub [1, 2, 0] rfl ?_
      exact hk _ _ hf)
def f_X11_sign (p1 : Int32) (S : St) : Option (Int32 × St) := lt (sI S 122 0 (0 : Int32)) (fun S4 => (if (gI S4 122 10) ≤ (76 : Int32) then lp (f_X11_sign_18b p1 (fun v5 S6 => lt (sI S6 122 10 ((gI S6 122 10) + (4 : Int32))) (fun S7 => some ((gI S7 122 10), S7)))) FU (0 : Int32) S4 else some ((-1 : Int32), S4)))
theorem c_X11_sign {p1 : Int32} {S : St} {r : Int32} {S' : St} (hf : f_X11_sign p1 S = some (r, S')) : zM yX11_sign cX11_sign 3 1 (some .int) [.ref 122, .int p1] S (some (.int r)) S' := by
  refine zM_of (zpl (by decide)) (Nat.le_of_ble_eq_true rfl) rfl (fun K hK hA => ?_)
  unfold f_X11_sign at hf
  refine j_aload_n hK dX11_sign_0 0 rfl rfl ?_
  refine j_iconst hK (0 : Int32) dX11_sign_1 ic_0 ?_
  refine j_putI hK fl_X11_3 dX11_sign_2 zo_122 zf_11_0 ?_
  refine lt_S hf (fun S4 hf => ?_)
  refine j_aload_n hK dX11_sign_5 0 rfl rfl ?_
  refine j_getI hK fl_X11_137 dX11_sign_6 zo_122 zf_11_10 ?_
  refine j_bipush hK (76 : Int32) dX11_sign_9 bi_76 ?_
  refine j_icmp_le hK 16 dX11_sign_11 (by decide) (fun hc => ?_) (fun hc => ?_)
  · replace hf := if_1 hc hf
    refine j_iconst hK (0 : Int32) dX11_sign_16 ic_0 ?_
    refine j_istore_n hK (L' := [(2, .int (0 : Int32)), (0, .ref 122), (1, .int p1)]) dX11_sign_17 rfl (by decide) rfl ?_
    refine j_sub [1, 2, 0] rfl ?_
    refine t_X11_sign_18 hK hA  (fun v5 S6 hf => ?_) _ _ _ hf
    refine j_aload_n hK dX11_sign_53 0 rfl rfl ?_
    refine j_dup hK dX11_sign_54 rfl ?_
    refine j_getI hK fl_X11_137 dX11_sign_55 zo_122 zf_11_10 ?_
    refine j_iconst hK (4 : Int32) dX11_sign_58 ic_4 ?_
    refine j_iadd hK dX11_sign_59 ?_
    refine j_putI hK fl_X11_137 dX11_sign_60 zo_122 zf_11_10 ?_
    refine lt_S hf (fun S7 hf => ?_)
    refine j_aload_n hK dX11_sign_63 0 rfl rfl ?_
    refine j_pc (pc' := 64) rfl ?_
    refine j_getI hK fl_X11_137 dX11_sign_64 zo_122 zf_11_10 ?_
    exact j_iret hK dX11_sign_67 rfl (rt_I hA hf)
  · replace hf := if_2 hc hf
    refine j_iconst hK (-1 : Int32) dX11_sign_14 ic_m1 ?_
    exact j_iret hK dX11_sign_15 rfl (rt_I hA hf)
