def f_X4_latest (S : St) : Option (Nat × St) := lt (sI S 12 2 (mxI (0 : Int32) ((gI S 12 2) - (1 : Int32)))) (fun S1 => bd (f_X4_marked S1) (fun r2 S3 => if isState r2 then some (r2, S3) else none))
theorem c_X4_latest {S : St} {r : Nat} {S' : St} (hf : f_X4_latest S = some (r, S')) : zM yX4_latest cX4_latest 1 2 (some (.object "CaveAdvice$State")) [.ref 12] S (some (.ref r)) S' := by
  refine zM_of (zpl (by decide)) (Nat.le_of_ble_eq_true rfl) rfl (fun K hK hA => ?_)
  unfold f_X4_latest at hf
  refine j_aload_n hK dX4_latest_0 0 rfl rfl ?_
  refine j_iconst hK (0 : Int32) dX4_latest_1 ic_0 ?_
  refine j_aload_n hK dX4_latest_2 0 rfl rfl ?_
  refine j_getI hK fl_X4_20 dX4_latest_3 zo_12 zf_4_2 ?_
  refine j_iconst hK (1 : Int32) dX4_latest_6 ic_1 ?_
  refine j_isub hK dX4_latest_7 ?_
  refine j_max hK ml_X4_38 dX4_latest_8 (by decide) (Nat.le_of_ble_eq_true rfl) ?_
  refine j_putI hK fl_X4_20 dX4_latest_11 zo_12 zf_4_2 ?_
  refine lt_S hf (fun S1 hf => ?_)
  refine j_pc (pc' := 14) rfl ?_
  refine j_aload_n hK dX4_latest_14 0 rfl rfl ?_
  obtain ⟨r2, S3, h4, hf⟩ := bd_J hf
  obtain ⟨hq5, hf⟩ := gd hf
  refine k_callVr hK (c_X4_marked h4) dX4_latest_15 zclX4 zo_12 ml_X4_30 mi_X4_marked mx_X4_marked in_X4 mc_X4_marked hy_X4_marked ⟨by decide, by decide⟩ rfl (Nat.le_of_ble_eq_true rfl) ?_
  exact j_aret hK dX4_latest_18 rfl (rt_R hA hf)
def f_X10_undo (S : St) : Option (Int32 × St) := (if (gI S 12 2) = 0 then some ((-1 : Int32), S) else bd (f_X4_latest S) (fun r1 S2 => if isState r1 then bd (f_X7_take 6 r1 S2) (fun r5 S6 => some ((gI S6 12 2), S6)) else none))
theorem c_X10_undo {S : St} {r : Int32} {S' : St} (hf : f_X10_undo S = some (r, S')) : zM yX10_undo cX10_undo 1 3 (some .int) [.ref 0] S (some (.int r)) S' := by
  refine zM_of (zpl (by decide)) (Nat.le_of_ble_eq_true rfl) rfl (fun K hK hA => ?_)
  unfold f_X10_undo at hf
  refine j_aload_n hK dX10_undo_0 0 rfl rfl ?_
  refine j_getR hK fl_X10_33 dX10_undo_1 zo_0 zf_10_3 zr_0_3 ?_
  refine j_getI hK fl_X10_228 dX10_undo_4 zo_12 zf_4_2 ?_
  refine j_if_ne hK 12 dX10_undo_7 (by decide) (fun hc => ?_) (fun hc => ?_)
  · replace hf := if_2 hc hf
    refine j_aload_n hK dX10_undo_12 0 rfl rfl ?_
    refine j_getR hK fl_X10_19 dX10_undo_13 zo_0 zf_10_1 zr_0_1 ?_
    refine j_getR hK fl_X10_129 dX10_undo_16 zo_3 zf_0_3 zr_3_3 ?_
    refine j_aload_n hK dX10_undo_19 0 rfl rfl ?_
    refine j_getR hK fl_X10_33 dX10_undo_20 zo_0 zf_10_3 zr_0_3 ?_
    obtain ⟨r1, S2, h3, hf⟩ := bd_J hf
    obtain ⟨hq4, hf⟩ := gd hf
    refine k_callVr hK (c_X4_latest h3) dX10_undo_23 zclX4 zo_12 ml_X10_229 mi_X4_latest mx_X4_latest in_X4 mc_X4_latest hy_X4_latest ⟨by decide, by decide⟩ rfl (Nat.le_of_ble_eq_true rfl) ?_
    obtain ⟨r5, S6, h7, hf⟩ := bd_J hf
    refine k_callVv hK (c_X7_take zo_6 hq4 h7) dX10_undo_26 zclX7 zo_6 ml_X10_233 mi_X7_take mx_X7_take in_X7 mc_X7_take hy_X7_take ⟨by decide, by decide⟩ rfl (Nat.le_of_ble_eq_true rfl) ?_
    refine j_pc (pc' := 29) rfl ?_
    refine j_aload_n hK dX10_undo_29 0 rfl rfl ?_
    refine j_getR hK fl_X10_33 dX10_undo_30 zo_0 zf_10_3 zr_0_3 ?_
    refine j_getI hK fl_X10_228 dX10_undo_33 zo_12 zf_4_2 ?_
    exact j_iret hK dX10_undo_36 rfl (rt_I hA hf)
  · replace hf := if_1 hc hf
    refine j_iconst hK (-1 : Int32) dX10_undo_10 ic_m1 ?_
    exact j_iret hK dX10_undo_11 rfl (rt_I hA hf)
def f_X10_route_38b (e : Int32 → St → Option (Int32 × St)) (k : Int32 → St → Option (Int32 × St)) (v : Int32) (S : St) : Option (Int32 × St) := (if (gI S 92 3) ≤ v then e v S else if inb v 12 then bd (f_X5_put (gI S 93 v.toNatClampNeg).toInt64 S) (fun r2 S3 => k (v + (1 : Int32)) S3) else none)
theorem t_X10_route_38 {K : CT} (hK : KO K cX10_route RX10 4 5 (some .int)) {r : Int32} {S' : St} (hA : zans K (some (.int r), S')) {e : Int32 → St → Option (Int32 × St)} (he : ∀ (v : Int32) (S : St), e v S = some (r, S') → J K 72 [(0, .ref 0)] [] S) : ∀ (n : Nat) (v : Int32) (S : St), lp (f_X10_route_38b  e) n v S = some (r, S') → J K 38 [(0, .ref 0), (3, .int v)] [] S :=
  lp_J (P := fun (v : Int32) (S : St) => J K 38 [(0, .ref 0), (3, .int v)] [] S) (fun k hk v S hf => by
    unfold f_X10_route_38b at hf
    refine j_iload_n hK dX10_route_38 1 rfl rfl ?_
    refine j_aload_n hK dX10_route_39 0 rfl rfl ?_
    refine j_getR hK fl_X10_42 dX10_route_40 zo_0 zf_10_4 zr_0_4 ?_
    refine j_getI hK fl_X10_268 dX10_route_43 zo_92 zf_2_3 ?_
    refine j_icmp_ge hK 72 dX10_route_46 (by decide) (fun hc => ?_) (fun hc => ?_)
    · replace hf := if_1 hc hf
      refine j_sub [0] rfl ?_
      exact he _ _ hf
    · replace hf := if_2 hc hf
      refine j_aload_n hK dX10_route_49 0 rfl rfl ?_
      refine j_getR hK fl_X10_26 dX10_route_50 zo_0 zf_10_2 zr_0_2 ?_
      refine j_aload_n hK dX10_route_53 0 rfl rfl ?_
      refine j_getR hK fl_X10_42 dX10_route_54 zo_0 zf_10_4 zr_0_4 ?_
      refine j_getR hK fl_X10_269 dX10_route_57 zo_92 zf_2_1 zr_92_1 ?_
      refine j_iload_n hK dX10_route_60 1 rfl rfl ?_
      obtain ⟨hi1, hf⟩ := gd hf
      refine k_iald hK dX10_route_61 zb_93 hi1 rfl ?_
      refine j_pc (pc' := 62) rfl ?_
      refine j_i2l hK dX10_route_62 ?_
      obtain ⟨r2, S3, h4, hf⟩ := bd_J hf
      refine k_callVv hK (c_X5_put h4) dX10_route_63 zclX5 zo_10 ml_X10_191 mi_X5_put mx_X5_put in_X5 mc_X5_put hy_X5_put ⟨by decide, by decide⟩ rfl (Nat.le_of_ble_eq_true rfl) ?_
      refine j_iinc hK (L' := [(3, .int (v + (1 : Int32))), (0, .ref 0)]) dX10_route_66 1 rfl (congrArg (fun y => v + y) ic_1) (by decide) rfl ?_
      refine j_goto hK 38 dX10_route_69 (by decide) ?_
      refine j_sub [1, 0] rfl ?_
      exact hk _ _ hf)
def f_X10_route (p1 : Int32) (p2 : Int32) (S : St) : Option (Int32 × St) := bd (f_X2_goes p1 p2 S) (fun r5 S6 => (if r5 = 0 then some ((-1 : Int32), S6) else bd (f_X5_begin S6) (fun r8 S9 => bd (f_X5_put (gI S9 92 4).toInt64 S9) (fun r11 S12 => lp (f_X10_route_38b  (fun v14 S15 => some ((gI S15 92 5), S15))) FU (0 : Int32) S12))))
theorem c_X10_route {p1 : Int32} {p2 : Int32} {S : St} {r : Int32} {S' : St} (hf : f_X10_route p1 p2 S = some (r, S')) : zM yX10_route cX10_route 4 5 (some .int) [.ref 0, .int p1, .int p2] S (some (.int r)) S' := by
  refine zM_of (zpl (by decide)) (Nat.le_of_ble_eq_true rfl) rfl (fun K hK hA => ?_)
  unfold f_X10_route at hf
  refine j_aload_n hK dX10_route_0 0 rfl rfl ?_
  refine j_getR hK fl_X10_42 dX10_route_1 zo_0 zf_10_4 zr_0_4 ?_
  refine j_iload_n hK dX10_route_4 1 rfl rfl ?_
  refine j_iload_n hK dX10_route_5 2 rfl rfl ?_
  obtain ⟨r5, S6, h7, hf⟩ := bd_J hf
  refine k_callVi hK (c_X2_goes h7) dX10_route_6 zclX2 zo_92 ml_X10_236 mi_X2_goes mx_X2_goes in_X2 mc_X2_goes hy_X2_goes ⟨by decide, by decide⟩ rfl (Nat.le_of_ble_eq_true rfl) ?_
  refine j_if_ne hK 14 dX10_route_9 (by decide) (fun hc => ?_) (fun hc => ?_)
  · replace hf := if_2 hc hf
    refine j_aload_n hK dX10_route_14 0 rfl rfl ?_
    refine j_getR hK fl_X10_26 dX10_route_15 zo_0 zf_10_2 zr_0_2 ?_
    obtain ⟨r8, S9, h10, hf⟩ := bd_J hf
    refine k_callVv hK (c_X5_begin h10) dX10_route_18 zclX5 zo_10 ml_X10_185 mi_X5_begin mx_X5_begin in_X5 mc_X5_begin hy_X5_begin ⟨by decide, by decide⟩ rfl (Nat.le_of_ble_eq_true rfl) ?_
    refine j_aload_n hK dX10_route_21 0 rfl rfl ?_
    refine j_getR hK fl_X10_26 dX10_route_22 zo_0 zf_10_2 zr_0_2 ?_
    refine j_aload_n hK dX10_route_25 0 rfl rfl ?_
    refine j_getR hK fl_X10_42 dX10_route_26 zo_0 zf_10_4 zr_0_4 ?_
    refine j_pc (pc' := 29) rfl ?_
    refine j_getI hK fl_X10_188 dX10_route_29 zo_92 zf_2_4 ?_
    refine j_i2l hK dX10_route_32 ?_
    obtain ⟨r11, S12, h13, hf⟩ := bd_J hf
    refine k_callVv hK (c_X5_put h13) dX10_route_33 zclX5 zo_10 ml_X10_191 mi_X5_put mx_X5_put in_X5 mc_X5_put hy_X5_put ⟨by decide, by decide⟩ rfl (Nat.le_of_ble_eq_true rfl) ?_
    refine j_iconst hK (0 : Int32) dX10_route_36 ic_0 ?_
    refine j_istore_n hK (L' := [(3, .int (0 : Int32)), (0, .ref 0), (1, .int p1), (2, .int p2)]) dX10_route_37 rfl (by decide) rfl ?_
    refine j_sub [1, 0] rfl ?_
    refine t_X10_route_38 hK hA  (fun v14 S15 hf => ?_) _ _ _ hf
    refine j_aload_n hK dX10_route_72 0 rfl rfl ?_
    refine j_getR hK fl_X10_42 dX10_route_73 zo_0 zf_10_4 zr_0_4 ?_
    refine j_getI hK fl_X10_254 dX10_route_76 zo_92 zf_2_5 ?_
    exact j_iret hK dX10_route_79 rfl (rt_I hA hf)
  · replace hf := if_1 hc hf
    refine j_iconst hK (-1 : Int32) dX10_route_12 ic_m1 ?_
    exact j_iret hK dX10_route_13 rfl (rt_I hA hf)
def f_X5_at (p1 : Int32) (S : St) : Option (Int64 × St) := (if p1 < 0 then some ((0 : Int64), S) else (if (gI S 10 1) ≤ p1 then some ((0 : Int64), S) else if inb p1 16 then some ((gL S 11 p1.toNatClampNeg), S) else none))
theorem c_X5_at {p1 : Int32} {S : St} {r : Int64} {S' : St} (hf : f_X5_at p1 S = some (r, S')) : zM yX5_at cX5_at 2 1 (some .long) [.ref 10, .int p1] S (some (.long r)) S' := by
  refine zM_of (zpl (by decide)) (Nat.le_of_ble_eq_true rfl) rfl (fun K hK hA => ?_)
  unfold f_X5_at at hf
  refine j_iload_n hK dX5_at_0 1 rfl rfl ?_
  refine j_if_lt hK 21 dX5_at_1 (by decide) (fun hc => ?_) (fun hc => ?_)
  · replace hf := if_1 hc hf
    refine j_lconst hK (0 : Int64) dX5_at_21 lc_0 ?_
    exact j_lret hK dX5_at_22 rfl (rt_L hA hf)
  · replace hf := if_2 hc hf
    refine j_iload_n hK dX5_at_4 1 rfl rfl ?_
    refine j_aload_n hK dX5_at_5 0 rfl rfl ?_
    refine j_getI hK fl_X5_13 dX5_at_6 zo_10 zf_5_1 ?_
    refine j_icmp_ge hK 21 dX5_at_9 (by decide) (fun hc => ?_) (fun hc => ?_)
    · replace hf := if_1 hc hf
      refine j_lconst hK (0 : Int64) dX5_at_21 lc_0 ?_
      exact j_lret hK dX5_at_22 rfl (rt_L hA hf)
    · replace hf := if_2 hc hf
      refine j_aload_n hK dX5_at_12 0 rfl rfl ?_
      refine j_getR hK fl_X5_9 dX5_at_13 zo_10 zf_5_0 zr_10_0 ?_
      refine j_iload_n hK dX5_at_16 1 rfl rfl ?_
      obtain ⟨hi1, hf⟩ := gd hf
      refine k_lald hK dX5_at_17 zb_11 hi1 rfl ?_
      refine j_goto hK 22 dX5_at_18 (by decide) ?_
      exact j_lret hK dX5_at_22 rfl (rt_L hA hf)
def f_X10_hears_86 (x4 : Int32) (x6 : Int32) (s0 : Int32) (s1 : Int32) (k e : Int32 × Int32 → St → Option (Int32 × St)) (S : St) : Option (Int32 × St) := lt (s0 + s1) (fun y1 => k (y1, (x6 + (1 : Int32))) S)
theorem t_X10_hears_86 {K : CT} (hK : KO K cX10_hears RX10 7 6 (some .int)) {r : Int32} {S' : St} (hA : zans K (some (.int r), S')) {x4 : Int32} {x6 : Int32} {s0 : Int32} {s1 : Int32} {k e : Int32 × Int32 → St → Option (Int32 × St)} (hk : ∀ (v : Int32 × Int32) (S : St), k v S = some (r, S') → J K 49 [(0, .ref 0), (4, .int x4), (5, .int v.1), (6, .int v.2)] [] S) (he : ∀ (v : Int32 × Int32) (S : St), e v S = some (r, S') → J K 95 [(5, .int v.1)] [] S) {S : St} (hf : f_X10_hears_86 x4 x6 s0 s1 k e S = some (r, S')) : J K 86 [(0, .ref 0), (4, .int x4), (6, .int x6)] [.int s1, .int s0] S := by
  unfold f_X10_hears_86 at hf
  refine j_iadd hK dX10_hears_86 ?_
  refine lt_I hf (fun y1 hf => ?_)
  refine j_istore hK (L' := [(5, .int y1), (0, .ref 0), (4, .int x4), (6, .int x6)]) dX10_hears_87 (by decide) rfl ?_
  refine j_iinc hK (L' := [(6, .int (x6 + (1 : Int32))), (5, .int y1), (0, .ref 0), (4, .int x4)]) dX10_hears_89 3 rfl (congrArg (fun y => x6 + y) ic_1) (by decide) rfl ?_
  refine j_goto hK 49 dX10_hears_92 (by decide) ?_
  refine j_sub [2, 3, 1, 0] rfl ?_
  exact hk _ _ hf
def f_X10_hears_49b (x4 : Int32) (e : Int32 × Int32 → St → Option (Int32 × St)) (k : Int32 × Int32 → St → Option (Int32 × St)) (v : Int32 × Int32) (S : St) : Option (Int32 × St) := (if x4 ≤ v.2 then e (v.1, v.2) S else bd (f_X5_at v.2 S) (fun r2 S3 => bd (f_X8_letter v.2 S3) (fun r5 S6 => (if (lg_cmp r2 r5.toInt64) = 0 then f_X10_hears_86 x4 v.2 v.1 (1 : Int32) k e S6 else f_X10_hears_86 x4 v.2 v.1 (0 : Int32) k e S6))))
theorem t_X10_hears_49 {K : CT} (hK : KO K cX10_hears RX10 7 6 (some .int)) {r : Int32} {S' : St} (hA : zans K (some (.int r), S')) {x4 : Int32} {e : Int32 × Int32 → St → Option (Int32 × St)} (he : ∀ (v : Int32 × Int32) (S : St), e v S = some (r, S') → J K 95 [(5, .int v.1)] [] S) : ∀ (n : Nat) (v : Int32 × Int32) (S : St), lp (f_X10_hears_49b x4 e) n v S = some (r, S') → J K 49 [(0, .ref 0), (4, .int x4), (5, .int v.1), (6, .int v.2)] [] S :=
  lp_J (P := fun (v : Int32 × Int32) (S : St) => J K 49 [(0, .ref 0), (4, .int x4), (5, .int v.1), (6, .int v.2)] [] S) (fun k hk v S hf => by
    unfold f_X10_hears_49b at hf
    refine j_iload hK dX10_hears_49 3 rfl ?_
    refine j_iload hK dX10_hears_51 1 rfl ?_
    refine j_icmp_ge hK 95 dX10_hears_53 (by decide) (fun hc => ?_) (fun hc => ?_)
    · replace hf := if_1 hc hf
      refine j_sub [2] rfl ?_
      exact he _ _ hf
    · replace hf := if_2 hc hf
      refine j_iload hK dX10_hears_56 2 rfl ?_
      refine j_aload_n hK dX10_hears_58 0 rfl rfl ?_
      refine j_getR hK fl_X10_26 dX10_hears_59 zo_0 zf_10_2 zr_0_2 ?_
      refine j_iload hK dX10_hears_62 3 rfl ?_
      obtain ⟨r2, S3, h4, hf⟩ := bd_J hf
      refine k_callVl hK (c_X5_at h4) dX10_hears_64 zclX5 zo_10 ml_X10_272 mi_X5_at mx_X5_at in_X5 mc_X5_at hy_X5_at ⟨by decide, by decide⟩ rfl (Nat.le_of_ble_eq_true rfl) ?_
      refine j_aload_n hK dX10_hears_67 0 rfl rfl ?_
      refine j_getR hK fl_X10_10 dX10_hears_68 zo_0 zf_10_0 zr_0_0 ?_
      refine j_pc (pc' := 71) rfl ?_
      refine j_iload hK dX10_hears_71 3 rfl ?_
      obtain ⟨r5, S6, h7, hf⟩ := bd_J hf
      refine k_callVi hK (c_X8_letter h7) dX10_hears_73 zclX8 zo_1 ml_X10_243 mi_X8_letter mx_X8_letter in_X8 mc_X8_letter hy_X8_letter ⟨by decide, by decide⟩ rfl (Nat.le_of_ble_eq_true rfl) ?_
      refine j_i2l hK dX10_hears_76 ?_
      refine j_lcmp hK dX10_hears_77 ?_
      refine j_if_ne hK 85 dX10_hears_78 (by decide) (fun hc => ?_) (fun hc => ?_)
      · replace hf := if_2 hc hf
        refine j_iconst hK (0 : Int32) dX10_hears_85 ic_0 ?_
        refine j_sub [0, 1, 3] rfl ?_
        exact t_X10_hears_86 hK hA hk he hf
      · replace hf := if_1 hc hf
        refine j_iconst hK (1 : Int32) dX10_hears_81 ic_1 ?_
        refine j_goto hK 86 dX10_hears_82 (by decide) ?_
        refine j_sub [0, 1, 3] rfl ?_
        exact t_X10_hears_86 hK hA hk he hf)
def f_X10_hears (p1 : Int32) (p2 : Int32) (S : St) : Option (Int32 × St) := bd (f_X10_refusalOfCall p1 p2 S) (fun r8 S9 => lt (gI S9 1 1) (fun y11 => lt (sI S9 1 1 (0 : Int32)) (fun S12 => (if r8 = 0 then bd (f_X5_begin S12) (fun r13 S14 => bd (f_X10_putLetters y11 S14) (fun r16 S17 => lp (f_X10_hears_49b y11 (fun v19 S20 => some (v19.1, S20))) FU ((0 : Int32), (0 : Int32)) S17)) else some (r8, S12)))))
theorem c_X10_hears {p1 : Int32} {p2 : Int32} {S : St} {r : Int32} {S' : St} (hf : f_X10_hears p1 p2 S = some (r, S')) : zM yX10_hears cX10_hears 7 6 (some .int) [.ref 0, .int p1, .int p2] S (some (.int r)) S' := by
  refine zM_of (zpl (by decide)) (Nat.le_of_ble_eq_true rfl) rfl (fun K hK hA => ?_)
  unfold f_X10_hears at hf
  refine j_aload_n hK dX10_hears_0 0 rfl rfl ?_
  refine j_iload_n hK dX10_hears_1 1 rfl rfl ?_
  refine j_iload_n hK dX10_hears_2 2 rfl rfl ?_
  obtain ⟨r8, S9, h10, hf⟩ := bd_J hf
  refine k_callVi hK (c_X10_refusalOfCall h10) dX10_hears_3 zclX10 zo_0 ml_X10_178 mi_X10_refusalOfCall mx_X10_refusalOfCall in_X10 mc_X10_refusalOfCall hy_X10_refusalOfCall ⟨by decide, by decide⟩ rfl (Nat.le_of_ble_eq_true rfl) ?_
  refine j_istore_n hK (L' := [(3, .int r8), (0, .ref 0), (1, .int p1), (2, .int p2)]) dX10_hears_6 rfl (by decide) rfl ?_
  refine j_aload_n hK dX10_hears_7 1 rfl rfl ?_
  refine j_getR hK fl_X10_10 dX10_hears_8 zo_0 zf_10_0 zr_0_0 ?_
  refine j_getI hK fl_X10_88 dX10_hears_11 zo_1 zf_8_1 ?_
  refine j_pc (pc' := 14) rfl ?_
  refine lt_I hf (fun y11 hf => ?_)
  refine j_istore hK (L' := [(4, .int y11), (3, .int r8), (0, .ref 0), (1, .int p1), (2, .int p2)]) dX10_hears_14 (by decide) rfl ?_
  refine j_aload_n hK dX10_hears_16 2 rfl rfl ?_
  refine j_getR hK fl_X10_10 dX10_hears_17 zo_0 zf_10_0 zr_0_0 ?_
  refine j_iconst hK (0 : Int32) dX10_hears_20 ic_0 ?_
  refine j_putI hK fl_X10_88 dX10_hears_21 zo_1 zf_8_1 ?_
  refine lt_S hf (fun S12 hf => ?_)
  refine j_iload_n hK dX10_hears_24 1 rfl rfl ?_
  refine j_if_eq hK 30 dX10_hears_25 (by decide) (fun hc => ?_) (fun hc => ?_)
  · replace hf := if_1 hc hf
    refine j_aload_n hK dX10_hears_30 2 rfl rfl ?_
    refine j_getR hK fl_X10_26 dX10_hears_31 zo_0 zf_10_2 zr_0_2 ?_
    obtain ⟨r13, S14, h15, hf⟩ := bd_J hf
    refine k_callVv hK (c_X5_begin h15) dX10_hears_34 zclX5 zo_10 ml_X10_185 mi_X5_begin mx_X5_begin in_X5 mc_X5_begin hy_X5_begin ⟨by decide, by decide⟩ rfl (Nat.le_of_ble_eq_true rfl) ?_
    refine j_aload_n hK dX10_hears_37 2 rfl rfl ?_
    refine j_iload hK dX10_hears_38 0 rfl ?_
    obtain ⟨r16, S17, h18, hf⟩ := bd_J hf
    refine k_callVv hK (c_X10_putLetters h18) dX10_hears_40 zclX10 zo_0 ml_X10_195 mi_X10_putLetters mx_X10_putLetters in_X10 mc_X10_putLetters hy_X10_putLetters ⟨by decide, by decide⟩ rfl (Nat.le_of_ble_eq_true rfl) ?_
    refine j_iconst hK (0 : Int32) dX10_hears_43 ic_0 ?_
    refine j_pc (pc' := 44) rfl ?_
    refine j_istore hK (L' := [(5, .int (0 : Int32)), (4, .int y11), (3, .int r8), (0, .ref 0), (1, .int p1), (2, .int p2)]) dX10_hears_44 (by decide) rfl ?_
    refine j_iconst hK (0 : Int32) dX10_hears_46 ic_0 ?_
    refine j_istore hK (L' := [(6, .int (0 : Int32)), (5, .int (0 : Int32)), (4, .int y11), (3, .int r8), (0, .ref 0), (1, .int p1), (2, .int p2)]) dX10_hears_47 (by decide) rfl ?_
    refine j_sub [4, 2, 1, 0] rfl ?_
    refine t_X10_hears_49 hK hA  (fun v19 S20 hf => ?_) _ _ _ hf
    refine j_iload hK dX10_hears_95 0 rfl ?_
    exact j_iret hK dX10_hears_97 rfl (rt_I hA hf)
  · replace hf := if_2 hc hf
    refine j_iload_n hK dX10_hears_28 1 rfl rfl ?_
    exact j_iret hK dX10_hears_29 rfl (rt_I hA hf)
def f_X2_imagesAt_3b (ru : Nat) (x2 : Int32) (e : Int32 → St → Option (Unit × St)) (k : Int32 → St → Option (Unit × St)) (v : Int32) (S : St) : Option (Unit × St) := (if (8 : Int32) ≤ v then e v S else bd (f_X2_comesOut ru v x2 S) (fun r1 S2 => if inb v 8 then lt (sI S2 120 v.toNatClampNeg r1) (fun S5 => k (v + (1 : Int32)) S5) else none))
theorem t_X2_imagesAt_3 {K : CT} (hK : KO K cX2_imagesAt RX2 5 5 none) {r : Unit} {S' : St} (hA : zans K (none, S')) {ru : Nat} (hru : isRule ru) {x2 : Int32} {e : Int32 → St → Option (Unit × St)} (he : ∀ (v : Int32) (S : St), e v S = some (r, S') → J K 28 [] [] S) : ∀ (n : Nat) (v : Int32) (S : St), lp (f_X2_imagesAt_3b ru x2 e) n v S = some (r, S') → J K 3 [(0, .ref 92), (1, .ref ru), (2, .int x2), (3, .ref 120), (4, .int v)] [] S :=
  lp_J (P := fun (v : Int32) (S : St) => J K 3 [(0, .ref 92), (1, .ref ru), (2, .int x2), (3, .ref 120), (4, .int v)] [] S) (fun k hk v S hf => by
    unfold f_X2_imagesAt_3b at hf
    refine j_iload hK dX2_imagesAt_3 4 rfl ?_
    refine j_aload_n hK dX2_imagesAt_5 3 rfl rfl ?_
    refine j_alen (ki := 0) (v := (8 : Int32)) hK dX2_imagesAt_6 zb_120 (by decide) ?_
    refine j_icmp_ge hK 28 dX2_imagesAt_7 (by decide) (fun hc => ?_) (fun hc => ?_)
    · replace hf := if_1 hc hf
      refine j_sub [] rfl ?_
      exact he _ _ hf
    · replace hf := if_2 hc hf
      refine j_aload_n hK dX2_imagesAt_10 3 rfl rfl ?_
      refine j_iload hK dX2_imagesAt_11 4 rfl ?_
      refine j_aload_n hK dX2_imagesAt_13 0 rfl rfl ?_
      refine j_aload_n hK dX2_imagesAt_14 1 rfl rfl ?_
      refine j_iload hK dX2_imagesAt_15 4 rfl ?_
      refine j_iload_n hK dX2_imagesAt_17 2 rfl rfl ?_
      obtain ⟨r1, S2, h3, hf⟩ := bd_J hf
      refine k_callVi hK (c_X2_comesOut hru h3) dX2_imagesAt_18 zclX2 zo_92 ml_X2_92 mi_X2_comesOut mx_X2_comesOut in_X2 mc_X2_comesOut hy_X2_comesOut ⟨by decide, by decide⟩ rfl (Nat.le_of_ble_eq_true rfl) ?_
      refine j_pc (pc' := 21) rfl ?_
      obtain ⟨hi4, hf⟩ := gd hf
      refine k_iast hK dX2_imagesAt_21 zb_120 hi4 rfl ?_
      refine lt_S hf (fun S5 hf => ?_)
      refine j_iinc hK (L' := [(4, .int (v + (1 : Int32))), (0, .ref 92), (1, .ref ru), (2, .int x2), (3, .ref 120)]) dX2_imagesAt_22 4 rfl (congrArg (fun y => v + y) ic_1) (by decide) rfl ?_
      refine j_goto hK 3 dX2_imagesAt_25 (by decide) ?_
      refine j_sub [1, 2, 3, 4, 0] rfl ?_
      exact hk _ _ hf)
def f_X2_imagesAt (ru : Nat) (p2 : Int32) (S : St) : Option (Unit × St) := lp (f_X2_imagesAt_3b ru p2 (fun v6 S7 => some ((), S7))) FU (0 : Int32) S
theorem c_X2_imagesAt {ru : Nat} (hru : isRule ru) {p2 : Int32} {S : St} {r : Unit} {S' : St} (hf : f_X2_imagesAt ru p2 S = some (r, S')) : zM yX2_imagesAt cX2_imagesAt 5 5 none [.ref 92, .ref ru, .int p2, .ref 120] S (none) S' := by
  refine zM_of (zpl (by decide)) (Nat.le_of_ble_eq_true rfl) rfl (fun K hK hA => ?_)
  unfold f_X2_imagesAt at hf
  refine j_iconst hK (0 : Int32) dX2_imagesAt_0 ic_0 ?_
  refine j_istore hK (L' := [(4, .int (0 : Int32)), (0, .ref 92), (1, .ref ru), (2, .int p2), (3, .ref 120)]) dX2_imagesAt_1 (by decide) rfl ?_
  refine j_sub [1, 2, 3, 4, 0] rfl ?_
  refine t_X2_imagesAt_3 hK hA hru (fun v6 S7 hf => ?_) _ _ _ hf
  exact j_vret hK dX2_imagesAt_28 rfl (rt_V hA hf)
def f_X10_timesAmongImages_26 (x1 : Int32) (x3 : Int32) (s0 : Int32) (s1 : Int32) (k e : Int32 × Int32 → St → Option (Int32 × St)) (S : St) : Option (Int32 × St) := lt (s0 + s1) (fun y1 => k (y1, (x3 + (1 : Int32))) S)
theorem t_X10_timesAmongImages_26 {K : CT} (hK : KO K cX10_timesAmongImages RX10 4 1 (some .int)) {r : Int32} {S' : St} (hA : zans K (some (.int r), S')) {x1 : Int32} {x3 : Int32} {s0 : Int32} {s1 : Int32} {k e : Int32 × Int32 → St → Option (Int32 × St)} (hk : ∀ (v : Int32 × Int32) (S : St), k v S = some (r, S') → J K 4 [(0, .ref 0), (1, .int x1), (2, .int v.1), (3, .int v.2)] [] S) (he : ∀ (v : Int32 × Int32) (S : St), e v S = some (r, S') → J K 34 [(2, .int v.1)] [] S) {S : St} (hf : f_X10_timesAmongImages_26 x1 x3 s0 s1 k e S = some (r, S')) : J K 26 [(0, .ref 0), (1, .int x1), (3, .int x3)] [.int s1, .int s0] S := by
  unfold f_X10_timesAmongImages_26 at hf
  refine j_iadd hK dX10_timesAmongImages_26 ?_
  refine lt_I hf (fun y1 hf => ?_)
  refine j_istore_n hK (L' := [(2, .int y1), (0, .ref 0), (1, .int x1), (3, .int x3)]) dX10_timesAmongImages_27 rfl (by decide) rfl ?_
  refine j_iinc hK (L' := [(3, .int (x3 + (1 : Int32))), (2, .int y1), (0, .ref 0), (1, .int x1)]) dX10_timesAmongImages_28 3 rfl (congrArg (fun y => x3 + y) ic_1) (by decide) rfl ?_
  refine j_goto hK 4 dX10_timesAmongImages_31 (by decide) ?_
  refine j_sub [2, 3, 1, 0] rfl ?_
  exact hk _ _ hf
def f_X10_timesAmongImages_4b (x1 : Int32) (e : Int32 × Int32 → St → Option (Int32 × St)) (k : Int32 × Int32 → St → Option (Int32 × St)) (v : Int32 × Int32) (S : St) : Option (Int32 × St) := (if (8 : Int32) ≤ v.2 then e (v.1, v.2) S else if inb v.2 8 then (if (gI S 120 v.2.toNatClampNeg) = x1 then f_X10_timesAmongImages_26 x1 v.2 v.1 (1 : Int32) k e S else f_X10_timesAmongImages_26 x1 v.2 v.1 (0 : Int32) k e S) else none)
theorem t_X10_timesAmongImages_4 {K : CT} (hK : KO K cX10_timesAmongImages RX10 4 1 (some .int)) {r : Int32} {S' : St} (hA : zans K (some (.int r), S')) {x1 : Int32} {e : Int32 × Int32 → St → Option (Int32 × St)} (he : ∀ (v : Int32 × Int32) (S : St), e v S = some (r, S') → J K 34 [(2, .int v.1)] [] S) : ∀ (n : Nat) (v : Int32 × Int32) (S : St), lp (f_X10_timesAmongImages_4b x1 e) n v S = some (r, S') → J K 4 [(0, .ref 0), (1, .int x1), (2, .int v.1), (3, .int v.2)] [] S :=
  lp_J (P := fun (v : Int32 × Int32) (S : St) => J K 4 [(0, .ref 0), (1, .int x1), (2, .int v.1), (3, .int v.2)] [] S) (fun k hk v S hf => by
    unfold f_X10_timesAmongImages_4b at hf
    refine j_iload_n hK dX10_timesAmongImages_4 3 rfl rfl ?_
    refine j_bipush hK (8 : Int32) dX10_timesAmongImages_5 bi_8 ?_
    refine j_icmp_ge hK 34 dX10_timesAmongImages_7 (by decide) (fun hc => ?_) (fun hc => ?_)
    · replace hf := if_1 hc hf
      refine j_sub [2] rfl ?_
      exact he _ _ hf
    · replace hf := if_2 hc hf
      refine j_iload_n hK dX10_timesAmongImages_10 2 rfl rfl ?_
      refine j_aload_n hK dX10_timesAmongImages_11 0 rfl rfl ?_
      refine j_getR hK fl_X10_77 dX10_timesAmongImages_12 zo_0 zf_10_10 zr_0_10 ?_
      refine j_iload_n hK dX10_timesAmongImages_15 3 rfl rfl ?_
      obtain ⟨hi2, hf⟩ := gd hf
      refine k_iald hK dX10_timesAmongImages_16 zb_120 hi2 rfl ?_
      refine j_iload_n hK dX10_timesAmongImages_17 1 rfl rfl ?_
      refine j_icmp_ne hK 25 dX10_timesAmongImages_18 (by decide) (fun hc => ?_) (fun hc => ?_)
      · replace hf := if_2 hc hf
        refine j_iconst hK (0 : Int32) dX10_timesAmongImages_25 ic_0 ?_
        refine j_sub [0, 1, 3] rfl ?_
        exact t_X10_timesAmongImages_26 hK hA hk he hf
      · replace hf := if_1 hc hf
        refine j_iconst hK (1 : Int32) dX10_timesAmongImages_21 ic_1 ?_
        refine j_goto hK 26 dX10_timesAmongImages_22 (by decide) ?_
        refine j_sub [0, 1, 3] rfl ?_
        exact t_X10_timesAmongImages_26 hK hA hk he hf)
def f_X10_timesAmongImages (p1 : Int32) (S : St) : Option (Int32 × St) := lp (f_X10_timesAmongImages_4b p1 (fun v3 S4 => some (v3.1, S4))) FU ((0 : Int32), (0 : Int32)) S
theorem c_X10_timesAmongImages {p1 : Int32} {S : St} {r : Int32} {S' : St} (hf : f_X10_timesAmongImages p1 S = some (r, S')) : zM yX10_timesAmongImages cX10_timesAmongImages 4 1 (some .int) [.ref 0, .int p1] S (some (.int r)) S' := by
  refine zM_of (zpl (by decide)) (Nat.le_of_ble_eq_true rfl) rfl (fun K hK hA => ?_)
  unfold f_X10_timesAmongImages at hf
  refine j_iconst hK (0 : Int32) dX10_timesAmongImages_0 ic_0 ?_
  refine j_istore_n hK (L' := [(2, .int (0 : Int32)), (0, .ref 0), (1, .int p1)]) dX10_timesAmongImages_1 rfl (by decide) rfl ?_
  refine j_iconst hK (0 : Int32) dX10_timesAmongImages_2 ic_0 ?_
  refine j_istore_n hK (L' := [(3, .int (0 : Int32)), (2, .int (0 : Int32)), (0, .ref 0), (1, .int p1)]) dX10_timesAmongImages_3 rfl (by decide) rfl ?_
  refine j_sub [2, 3, 1, 0] rfl ?_
  refine t_X10_timesAmongImages_4 hK hA  (fun v3 S4 hf => ?_) _ _ _ hf
  refine j_iload_n hK dX10_timesAmongImages_34 0 rfl rfl ?_
  exact j_iret hK dX10_timesAmongImages_35 rfl (rt_I hA hf)
def f_X10_firstImage_2b (x1 : Int32) (e : Int32 → St → Option (Int32 × St)) (k : Int32 → St → Option (Int32 × St)) (v : Int32) (S : St) : Option (Int32 × St) := (if (8 : Int32) ≤ v then e v S else if inb v 8 then (if (gI S 120 v.toNatClampNeg) = x1 then some (v, S) else k (v + (1 : Int32)) S) else none)
theorem t_X10_firstImage_2 {K : CT} (hK : KO K cX10_firstImage RX10 3 1 (some .int)) {r : Int32} {S' : St} (hA : zans K (some (.int r), S')) {x1 : Int32} {e : Int32 → St → Option (Int32 × St)} (he : ∀ (v : Int32) (S : St), e v S = some (r, S') → J K 26 [] [] S) : ∀ (n : Nat) (v : Int32) (S : St), lp (f_X10_firstImage_2b x1 e) n v S = some (r, S') → J K 2 [(0, .ref 0), (1, .int x1), (2, .int v)] [] S :=
  lp_J (P := fun (v : Int32) (S : St) => J K 2 [(0, .ref 0), (1, .int x1), (2, .int v)] [] S) (fun k hk v S hf => by
    unfold f_X10_firstImage_2b at hf
    refine j_iload_n hK dX10_firstImage_2 2 rfl rfl ?_
    refine j_bipush hK (8 : Int32) dX10_firstImage_3 bi_8 ?_
    refine j_icmp_ge hK 26 dX10_firstImage_5 (by decide) (fun hc => ?_) (fun hc => ?_)
    · replace hf := if_1 hc hf
      refine j_sub [] rfl ?_
      exact he _ _ hf
    · replace hf := if_2 hc hf
      refine j_aload_n hK dX10_firstImage_8 0 rfl rfl ?_
      refine j_getR hK fl_X10_77 dX10_firstImage_9 zo_0 zf_10_10 zr_0_10 ?_
      refine j_iload_n hK dX10_firstImage_12 2 rfl rfl ?_
      obtain ⟨hi1, hf⟩ := gd hf
      refine k_iald hK dX10_firstImage_13 zb_120 hi1 rfl ?_
      refine j_iload_n hK dX10_firstImage_14 1 rfl rfl ?_
      refine j_icmp_ne hK 20 dX10_firstImage_15 (by decide) (fun hc => ?_) (fun hc => ?_)
      · replace hf := if_2 hc hf
        refine j_iinc hK (L' := [(2, .int (v + (1 : Int32))), (0, .ref 0), (1, .int x1)]) dX10_firstImage_20 2 rfl (congrArg (fun y => v + y) ic_1) (by decide) rfl ?_
        refine j_goto hK 2 dX10_firstImage_23 (by decide) ?_
        refine j_sub [1, 2, 0] rfl ?_
        exact hk _ _ hf
      · replace hf := if_1 hc hf
        refine j_iload_n hK dX10_firstImage_18 2 rfl rfl ?_
        exact j_iret hK dX10_firstImage_19 rfl (rt_I hA hf))
def f_X10_firstImage (p1 : Int32) (S : St) : Option (Int32 × St) := lp (f_X10_firstImage_2b p1 (fun v2 S3 => some ((-1 : Int32), S3))) FU (0 : Int32) S
theorem c_X10_firstImage {p1 : Int32} {S : St} {r : Int32} {S' : St} (hf : f_X10_firstImage p1 S = some (r, S')) : zM yX10_firstImage cX10_firstImage 3 1 (some .int) [.ref 0, .int p1] S (some (.int r)) S' := by
  refine zM_of (zpl (by decide)) (Nat.le_of_ble_eq_true rfl) rfl (fun K hK hA => ?_)
  unfold f_X10_firstImage at hf
  refine j_iconst hK (0 : Int32) dX10_firstImage_0 ic_0 ?_
  refine j_istore_n hK (L' := [(2, .int (0 : Int32)), (0, .ref 0), (1, .int p1)]) dX10_firstImage_1 rfl (by decide) rfl ?_
  refine j_sub [1, 2, 0] rfl ?_
  refine t_X10_firstImage_2 hK hA  (fun v2 S3 hf => ?_) _ _ _ hf
  refine j_iconst hK (-1 : Int32) dX10_firstImage_26 ic_m1 ?_
  exact j_iret hK dX10_firstImage_27 rfl (rt_I hA hf)
def f_X10_asks_43b (x4 : Int32) (e : Int32 × Int32 → St → Option (Int32 × St)) (k : Int32 × Int32 → St → Option (Int32 × St)) (v : Int32 × Int32) (S : St) : Option (Int32 × St) := (if x4 ≤ v.2 then e (v.1, v.2) S else if isRule (gI S 0 8).toNatClampNeg then bd (f_X2_imagesAt (gI S 0 8).toNatClampNeg v.2 S) (fun r2 S3 => bd (f_X8_letter v.2 S3) (fun r5 S6 => bd (f_X10_timesAmongImages r5 S6) (fun r8 S9 => lt (v.1 * r8) (fun y11 => bd (f_X8_letter v.2 S9) (fun r12 S13 => bd (f_X10_firstImage r12 S13) (fun r15 S16 => bd (f_X5_put r15.toInt64 S16) (fun r18 S19 => k (y11, (v.2 + (1 : Int32))) S19))))))) else none)
theorem t_X10_asks_43 {K : CT} (hK : KO K cX10_asks RX10 7 6 (some .int)) {r : Int32} {S' : St} (hA : zans K (some (.int r), S')) {x4 : Int32} {e : Int32 × Int32 → St → Option (Int32 × St)} (he : ∀ (v : Int32 × Int32) (S : St), e v S = some (r, S') → J K 112 [(0, .ref 0), (5, .int v.1)] [] S) : ∀ (n : Nat) (v : Int32 × Int32) (S : St), lp (f_X10_asks_43b x4 e) n v S = some (r, S') → J K 43 [(0, .ref 0), (4, .int x4), (5, .int v.1), (6, .int v.2)] [] S :=
  lp_J (P := fun (v : Int32 × Int32) (S : St) => J K 43 [(0, .ref 0), (4, .int x4), (5, .int v.1), (6, .int v.2)] [] S) (fun k hk v S hf => by
    unfold f_X10_asks_43b at hf
    refine j_iload hK dX10_asks_43 3 rfl ?_
    refine j_iload hK dX10_asks_45 1 rfl ?_
    refine j_icmp_ge hK 112 dX10_asks_47 (by decide) (fun hc => ?_) (fun hc => ?_)
    · replace hf := if_1 hc hf
      refine j_sub [0, 2] rfl ?_
      exact he _ _ hf
    · replace hf := if_2 hc hf
      refine j_aload_n hK dX10_asks_50 0 rfl rfl ?_
      refine j_getR hK fl_X10_42 dX10_asks_51 zo_0 zf_10_4 zr_0_4 ?_
      refine j_aload_n hK dX10_asks_54 0 rfl rfl ?_
      obtain ⟨hr1, hf⟩ := gd hf
      refine j_getD hK fl_X10_70 dX10_asks_55 zo_0 zf_10_8 ?_
      refine j_iload hK dX10_asks_58 3 rfl ?_
      refine j_aload_n hK dX10_asks_60 0 rfl rfl ?_
      refine j_getR hK fl_X10_77 dX10_asks_61 zo_0 zf_10_10 zr_0_10 ?_
      refine j_pc (pc' := 64) rfl ?_
      obtain ⟨r2, S3, h4, hf⟩ := bd_J hf
      refine k_callVv hK (c_X2_imagesAt hr1 h4) dX10_asks_64 zclX2 zo_92 ml_X10_276 mi_X2_imagesAt mx_X2_imagesAt in_X2 mc_X2_imagesAt hy_X2_imagesAt ⟨by decide, by decide⟩ rfl (Nat.le_of_ble_eq_true rfl) ?_
      refine j_iload hK dX10_asks_67 2 rfl ?_
      refine j_aload_n hK dX10_asks_69 0 rfl rfl ?_
      refine j_aload_n hK dX10_asks_70 0 rfl rfl ?_
      refine j_getR hK fl_X10_10 dX10_asks_71 zo_0 zf_10_0 zr_0_0 ?_
      refine j_iload hK dX10_asks_74 3 rfl ?_
      obtain ⟨r5, S6, h7, hf⟩ := bd_J hf
      refine k_callVi hK (c_X8_letter h7) dX10_asks_76 zclX8 zo_1 ml_X10_243 mi_X8_letter mx_X8_letter in_X8 mc_X8_letter hy_X8_letter ⟨by decide, by decide⟩ rfl (Nat.le_of_ble_eq_true rfl) ?_
      obtain ⟨r8, S9, h10, hf⟩ := bd_J hf
      refine k_callVi hK (c_X10_timesAmongImages h10) dX10_asks_79 zclX10 zo_0 ml_X10_280 mi_X10_timesAmongImages mx_X10_timesAmongImages in_X10 mc_X10_timesAmongImages hy_X10_timesAmongImages ⟨by decide, by decide⟩ rfl (Nat.le_of_ble_eq_true rfl) ?_
      refine j_pc (pc' := 82) rfl ?_
      refine j_imul hK dX10_asks_82 ?_
      refine lt_I hf (fun y11 hf => ?_)
      refine j_istore hK (L' := [(5, .int y11), (0, .ref 0), (4, .int x4), (6, .int v.2)]) dX10_asks_83 (by decide) rfl ?_
      refine j_aload_n hK dX10_asks_85 1 rfl rfl ?_
      refine j_getR hK fl_X10_26 dX10_asks_86 zo_0 zf_10_2 zr_0_2 ?_
      refine j_aload_n hK dX10_asks_89 1 rfl rfl ?_
      refine j_aload_n hK dX10_asks_90 1 rfl rfl ?_
      refine j_getR hK fl_X10_10 dX10_asks_91 zo_0 zf_10_0 zr_0_0 ?_
      refine j_iload hK dX10_asks_94 3 rfl ?_
      refine j_pc (pc' := 96) rfl ?_
      obtain ⟨r12, S13, h14, hf⟩ := bd_J hf
      refine k_callVi hK (c_X8_letter h14) dX10_asks_96 zclX8 zo_1 ml_X10_243 mi_X8_letter mx_X8_letter in_X8 mc_X8_letter hy_X8_letter ⟨by decide, by decide⟩ rfl (Nat.le_of_ble_eq_true rfl) ?_
      obtain ⟨r15, S16, h17, hf⟩ := bd_J hf
      refine k_callVi hK (c_X10_firstImage h17) dX10_asks_99 zclX10 zo_0 ml_X10_283 mi_X10_firstImage mx_X10_firstImage in_X10 mc_X10_firstImage hy_X10_firstImage ⟨by decide, by decide⟩ rfl (Nat.le_of_ble_eq_true rfl) ?_
      refine j_i2l hK dX10_asks_102 ?_
      obtain ⟨r18, S19, h20, hf⟩ := bd_J hf
      refine k_callVv hK (c_X5_put h20) dX10_asks_103 zclX5 zo_10 ml_X10_191 mi_X5_put mx_X5_put in_X5 mc_X5_put hy_X5_put ⟨by decide, by decide⟩ rfl (Nat.le_of_ble_eq_true rfl) ?_
      refine j_iinc hK (L' := [(6, .int (v.2 + (1 : Int32))), (5, .int y11), (0, .ref 0), (4, .int x4)]) dX10_asks_106 3 rfl (congrArg (fun y => v.2 + y) ic_1) (by decide) rfl ?_
      refine j_goto hK 43 dX10_asks_109 (by decide) ?_
      refine j_sub [2, 3, 1, 0] rfl ?_
      exact hk _ _ hf)
def f_X10_asks (p1 : Int32) (p2 : Int32) (S : St) : Option (Int32 × St) := bd (f_X10_refusalOfCall p1 p2 S) (fun r21 S22 => lt (gI S22 1 1) (fun y24 => lt (sI S22 1 1 (0 : Int32)) (fun S25 => (if r21 = 0 then bd (f_X5_begin S25) (fun r26 S27 => lp (f_X10_asks_43b y24 (fun v29 S30 => (if v29.1 = 0 then bd (f_X5_begin S30) (fun r31 S32 => some (v29.1, S32)) else some (v29.1, S30)))) FU ((1 : Int32), (0 : Int32)) S27) else some (r21, S25)))))
theorem c_X10_asks {p1 : Int32} {p2 : Int32} {S : St} {r : Int32} {S' : St} (hf : f_X10_asks p1 p2 S = some (r, S')) : zM yX10_asks cX10_asks 7 6 (some .int) [.ref 0, .int p1, .int p2] S (some (.int r)) S' := by
  refine zM_of (zpl (by decide)) (Nat.le_of_ble_eq_true rfl) rfl (fun K hK hA => ?_)
  unfold f_X10_asks at hf
  refine j_aload_n hK dX10_asks_0 0 rfl rfl ?_
  refine j_iload_n hK dX10_asks_1 1 rfl rfl ?_
  refine j_iload_n hK dX10_asks_2 2 rfl rfl ?_
  obtain ⟨r21, S22, h23, hf⟩ := bd_J hf
  refine k_callVi hK (c_X10_refusalOfCall h23) dX10_asks_3 zclX10 zo_0 ml_X10_178 mi_X10_refusalOfCall mx_X10_refusalOfCall in_X10 mc_X10_refusalOfCall hy_X10_refusalOfCall ⟨by decide, by decide⟩ rfl (Nat.le_of_ble_eq_true rfl) ?_
  refine j_istore_n hK (L' := [(3, .int r21), (0, .ref 0), (1, .int p1), (2, .int p2)]) dX10_asks_6 rfl (by decide) rfl ?_
  refine j_aload_n hK dX10_asks_7 1 rfl rfl ?_
  refine j_getR hK fl_X10_10 dX10_asks_8 zo_0 zf_10_0 zr_0_0 ?_
  refine j_getI hK fl_X10_88 dX10_asks_11 zo_1 zf_8_1 ?_
  refine j_pc (pc' := 14) rfl ?_
  refine lt_I hf (fun y24 hf => ?_)
  refine j_istore hK (L' := [(4, .int y24), (3, .int r21), (0, .ref 0), (1, .int p1), (2, .int p2)]) dX10_asks_14 (by decide) rfl ?_
  refine j_aload_n hK dX10_asks_16 2 rfl rfl ?_
  refine j_getR hK fl_X10_10 dX10_asks_17 zo_0 zf_10_0 zr_0_0 ?_
  refine j_iconst hK (0 : Int32) dX10_asks_20 ic_0 ?_
  refine j_putI hK fl_X10_88 dX10_asks_21 zo_1 zf_8_1 ?_
  refine lt_S hf (fun S25 hf => ?_)
  refine j_iload_n hK dX10_asks_24 1 rfl rfl ?_
  refine j_if_eq hK 30 dX10_asks_25 (by decide) (fun hc => ?_) (fun hc => ?_)
  · replace hf := if_1 hc hf
    refine j_aload_n hK dX10_asks_30 2 rfl rfl ?_
    refine j_getR hK fl_X10_26 dX10_asks_31 zo_0 zf_10_2 zr_0_2 ?_
    obtain ⟨r26, S27, h28, hf⟩ := bd_J hf
    refine k_callVv hK (c_X5_begin h28) dX10_asks_34 zclX5 zo_10 ml_X10_185 mi_X5_begin mx_X5_begin in_X5 mc_X5_begin hy_X5_begin ⟨by decide, by decide⟩ rfl (Nat.le_of_ble_eq_true rfl) ?_
    refine j_iconst hK (1 : Int32) dX10_asks_37 ic_1 ?_
    refine j_istore hK (L' := [(5, .int (1 : Int32)), (4, .int y24), (3, .int r21), (0, .ref 0), (1, .int p1), (2, .int p2)]) dX10_asks_38 (by decide) rfl ?_
    refine j_iconst hK (0 : Int32) dX10_asks_40 ic_0 ?_
    refine j_istore hK (L' := [(6, .int (0 : Int32)), (5, .int (1 : Int32)), (4, .int y24), (3, .int r21), (0, .ref 0), (1, .int p1), (2, .int p2)]) dX10_asks_41 (by decide) rfl ?_
    refine j_sub [4, 2, 1, 0] rfl ?_
    refine t_X10_asks_43 hK hA  (fun v29 S30 hf => ?_) _ _ _ hf
    refine j_iload hK dX10_asks_112 1 rfl ?_
    refine j_if_ne hK 124 dX10_asks_114 (by decide) (fun hc => ?_) (fun hc => ?_)
    · replace hf := if_2 hc hf
      refine j_iload hK dX10_asks_124 1 rfl ?_
      exact j_iret hK dX10_asks_126 rfl (rt_I hA hf)
    · replace hf := if_1 hc hf
      refine j_aload_n hK dX10_asks_117 0 rfl rfl ?_
      refine j_getR hK fl_X10_26 dX10_asks_118 zo_0 zf_10_2 zr_0_2 ?_
      obtain ⟨r31, S32, h33, hf⟩ := bd_J hf
      refine k_callVv hK (c_X5_begin h33) dX10_asks_121 zclX5 zo_10 ml_X10_185 mi_X5_begin mx_X5_begin in_X5 mc_X5_begin hy_X5_begin ⟨by decide, by decide⟩ rfl (Nat.le_of_ble_eq_true rfl) ?_
      refine j_iload hK dX10_asks_124 1 rfl ?_
      exact j_iret hK dX10_asks_126 rfl (rt_I hA hf)
  · replace hf := if_2 hc hf
    refine j_iload_n hK dX10_asks_28 1 rfl rfl ?_
    exact j_iret hK dX10_asks_29 rfl (rt_I hA hf)
def f_X8_faultOfPair_70 (x2 : Int32) (S : St) : Option (Int32 × St) := some (x2, S)
theorem t_X8_faultOfPair_70 {K : CT} (hK : KO K cX8_faultOfPair RX8 3 3 (some .int)) {r : Int32} {S' : St} (hA : zans K (some (.int r), S')) {x2 : Int32} {S : St} (hf : f_X8_faultOfPair_70 x2 S = some (r, S')) : J K 70 [(2, .int x2)] [] S := by
  unfold f_X8_faultOfPair_70 at hf
  refine j_iload_n hK dX8_faultOfPair_70 0 rfl rfl ?_
  refine j_goto hK 75 dX8_faultOfPair_71 (by decide) ?_
  exact j_iret hK dX8_faultOfPair_75 rfl (rt_I hA hf)
def f_X8_faultOfPair (S : St) : Option (Int32 × St) := bd (f_X8_lettersFrom (0 : Int32) S) (fun r1 S2 => lt (mnI r1 (6 : Int32)) (fun y4 => (if y4 = 0 then some (y4, S2) else (if (gI S2 1 1) ≤ y4 then some (y4, S2) else bd (f_X8_within y4 (59 : Int32) (59 : Int32) S2) (fun r5 S6 => (if r5 = 0 then some (y4, S6) else bd (f_X8_lettersFrom (y4 + (1 : Int32)) S6) (fun r8 S9 => lt ((y4 + (1 : Int32)) + (mnI r8 y4)) (fun y11 => (if y11 < (((2 : Int32) * y4) + (1 : Int32)) then f_X8_faultOfPair_70 y11 S9 else (if (gI S9 1 1) ≤ y11 then some ((-1 : Int32), S9) else f_X8_faultOfPair_70 y11 S9))))))))))
theorem c_X8_faultOfPair {S : St} {r : Int32} {S' : St} (hf : f_X8_faultOfPair S = some (r, S')) : zM yX8_faultOfPair cX8_faultOfPair 3 3 (some .int) [.ref 1] S (some (.int r)) S' := by
  refine zM_of (zpl (by decide)) (Nat.le_of_ble_eq_true rfl) rfl (fun K hK hA => ?_)
  unfold f_X8_faultOfPair at hf
  refine j_aload_n hK dX8_faultOfPair_0 0 rfl rfl ?_
  refine j_iconst hK (0 : Int32) dX8_faultOfPair_1 ic_0 ?_
  obtain ⟨r1, S2, h3, hf⟩ := bd_J hf
  refine k_callVi hK (c_X8_lettersFrom h3) dX8_faultOfPair_2 zclX8 zo_1 ml_X8_37 mi_X8_lettersFrom mx_X8_lettersFrom in_X8 mc_X8_lettersFrom hy_X8_lettersFrom ⟨by decide, by decide⟩ rfl (Nat.le_of_ble_eq_true rfl) ?_
  refine j_bipush hK (6 : Int32) dX8_faultOfPair_5 bi_6 ?_
  refine j_min hK ml_X8_23 dX8_faultOfPair_7 (by decide) (Nat.le_of_ble_eq_true rfl) ?_
  refine lt_I hf (fun y4 hf => ?_)
  refine j_istore_n hK (L' := [(1, .int y4), (0, .ref 1)]) dX8_faultOfPair_10 rfl (by decide) rfl ?_
  refine j_iload_n hK dX8_faultOfPair_11 0 rfl rfl ?_
  refine j_if_eq hK 35 dX8_faultOfPair_12 (by decide) (fun hc => ?_) (fun hc => ?_)
  · replace hf := if_1 hc hf
    refine j_iload_n hK dX8_faultOfPair_35 0 rfl rfl ?_
    exact j_iret hK dX8_faultOfPair_36 rfl (rt_I hA hf)
  · replace hf := if_2 hc hf
    refine j_iload_n hK dX8_faultOfPair_15 0 rfl rfl ?_
    refine j_aload_n hK dX8_faultOfPair_16 1 rfl rfl ?_
    refine j_getI hK fl_X8_15 dX8_faultOfPair_17 zo_1 zf_8_1 ?_
    refine j_icmp_ge hK 35 dX8_faultOfPair_20 (by decide) (fun hc => ?_) (fun hc => ?_)
    · replace hf := if_1 hc hf
      refine j_iload_n hK dX8_faultOfPair_35 0 rfl rfl ?_
      exact j_iret hK dX8_faultOfPair_36 rfl (rt_I hA hf)
    · replace hf := if_2 hc hf
      refine j_aload_n hK dX8_faultOfPair_23 1 rfl rfl ?_
      refine j_iload_n hK dX8_faultOfPair_24 0 rfl rfl ?_
      refine j_bipush hK (59 : Int32) dX8_faultOfPair_25 bi_59 ?_
      refine j_bipush hK (59 : Int32) dX8_faultOfPair_27 bi_59 ?_
      obtain ⟨r5, S6, h7, hf⟩ := bd_J hf
      refine k_callVi hK (c_X8_within h7) dX8_faultOfPair_29 zclX8 zo_1 ml_X8_19 mi_X8_within mx_X8_within in_X8 mc_X8_within hy_X8_within ⟨by decide, by decide⟩ rfl (Nat.le_of_ble_eq_true rfl) ?_
      refine j_if_ne hK 37 dX8_faultOfPair_32 (by decide) (fun hc => ?_) (fun hc => ?_)
      · replace hf := if_2 hc hf
        refine j_iload_n hK dX8_faultOfPair_37 0 rfl rfl ?_
        refine j_iconst hK (1 : Int32) dX8_faultOfPair_38 ic_1 ?_
        refine j_iadd hK dX8_faultOfPair_39 ?_
        refine j_aload_n hK dX8_faultOfPair_40 1 rfl rfl ?_
        refine j_iload_n hK dX8_faultOfPair_41 0 rfl rfl ?_
        refine j_iconst hK (1 : Int32) dX8_faultOfPair_42 ic_1 ?_
        refine j_iadd hK dX8_faultOfPair_43 ?_
        refine j_pc (pc' := 44) rfl ?_
        obtain ⟨r8, S9, h10, hf⟩ := bd_J hf
        refine k_callVi hK (c_X8_lettersFrom h10) dX8_faultOfPair_44 zclX8 zo_1 ml_X8_37 mi_X8_lettersFrom mx_X8_lettersFrom in_X8 mc_X8_lettersFrom hy_X8_lettersFrom ⟨by decide, by decide⟩ rfl (Nat.le_of_ble_eq_true rfl) ?_
        refine j_iload_n hK dX8_faultOfPair_47 0 rfl rfl ?_
        refine j_min hK ml_X8_23 dX8_faultOfPair_48 (by decide) (Nat.le_of_ble_eq_true rfl) ?_
        refine j_iadd hK dX8_faultOfPair_51 ?_
        refine lt_I hf (fun y11 hf => ?_)
        refine j_istore_n hK (L' := [(2, .int y11), (1, .int y4), (0, .ref 1)]) dX8_faultOfPair_52 rfl (by decide) rfl ?_
        refine j_iload_n hK dX8_faultOfPair_53 0 rfl rfl ?_
        refine j_iconst hK (2 : Int32) dX8_faultOfPair_54 ic_2 ?_
        refine j_iload_n hK dX8_faultOfPair_55 1 rfl rfl ?_
        refine j_pc (pc' := 56) rfl ?_
        refine j_imul hK dX8_faultOfPair_56 ?_
        refine j_iconst hK (1 : Int32) dX8_faultOfPair_57 ic_1 ?_
        refine j_iadd hK dX8_faultOfPair_58 ?_
        refine j_icmp_lt hK 70 dX8_faultOfPair_59 (by decide) (fun hc => ?_) (fun hc => ?_)
        · replace hf := if_1 hc hf
          refine j_sub [0] rfl ?_
          exact t_X8_faultOfPair_70 hK hA  hf
        · replace hf := if_2 hc hf
          refine j_iload_n hK dX8_faultOfPair_62 0 rfl rfl ?_
          refine j_aload_n hK dX8_faultOfPair_63 2 rfl rfl ?_
          refine j_getI hK fl_X8_15 dX8_faultOfPair_64 zo_1 zf_8_1 ?_
          refine j_icmp_ge hK 74 dX8_faultOfPair_67 (by decide) (fun hc => ?_) (fun hc => ?_)
          · replace hf := if_1 hc hf
            refine j_iconst hK (-1 : Int32) dX8_faultOfPair_74 ic_m1 ?_
            exact j_iret hK dX8_faultOfPair_75 rfl (rt_I hA hf)
          · replace hf := if_2 hc hf
            refine j_sub [0] rfl ?_
            exact t_X8_faultOfPair_70 hK hA  hf
      · replace hf := if_1 hc hf
        refine j_iload_n hK dX8_faultOfPair_35 0 rfl rfl ?_
        exact j_iret hK dX8_faultOfPair_36 rfl (rt_I hA hf)
def f_X10_turnsIntoOther_2b (x1 : Int32) (e : Int32 → St → Option (Int32 × St)) (k : Int32 → St → Option (Int32 × St)) (v : Int32) (S : St) : Option (Int32 × St) := (if x1 ≤ v then e v S else if isRule (gI S 0 8).toNatClampNeg then bd (f_X8_letter v S) (fun r2 S3 => bd (f_X2_comesOut (gI S 0 8).toNatClampNeg r2 v S3) (fun r5 S6 => bd (f_X8_letter ((x1 + (1 : Int32)) + v) S6) (fun r8 S9 => (if r5 = r8 then k (v + (1 : Int32)) S9 else some ((0 : Int32), S9))))) else none)
theorem t_X10_turnsIntoOther_2 {K : CT} (hK : KO K cX10_turnsIntoOther RX10 4 5 (some .boolean)) {r : Int32} {S' : St} (hA : zans K (some (.int r), S')) {x1 : Int32} {e : Int32 → St → Option (Int32 × St)} (he : ∀ (v : Int32) (S : St), e v S = some (r, S') → J K 52 [] [] S) : ∀ (n : Nat) (v : Int32) (S : St), lp (f_X10_turnsIntoOther_2b x1 e) n v S = some (r, S') → J K 2 [(0, .ref 0), (1, .int x1), (2, .int v)] [] S :=
  lp_J (P := fun (v : Int32) (S : St) => J K 2 [(0, .ref 0), (1, .int x1), (2, .int v)] [] S) (fun k hk v S hf => by
    unfold f_X10_turnsIntoOther_2b at hf
    refine j_iload_n hK dX10_turnsIntoOther_2 2 rfl rfl ?_
    refine j_iload_n hK dX10_turnsIntoOther_3 1 rfl rfl ?_
    refine j_icmp_ge hK 52 dX10_turnsIntoOther_4 (by decide) (fun hc => ?_) (fun hc => ?_)
    · replace hf := if_1 hc hf
      refine j_sub [] rfl ?_
      exact he _ _ hf
    · replace hf := if_2 hc hf
      refine j_aload_n hK dX10_turnsIntoOther_7 0 rfl rfl ?_
      refine j_getR hK fl_X10_42 dX10_turnsIntoOther_8 zo_0 zf_10_4 zr_0_4 ?_
      refine j_aload_n hK dX10_turnsIntoOther_11 0 rfl rfl ?_
      obtain ⟨hr1, hf⟩ := gd hf
      refine j_getD hK fl_X10_70 dX10_turnsIntoOther_12 zo_0 zf_10_8 ?_
      refine j_aload_n hK dX10_turnsIntoOther_15 0 rfl rfl ?_
      refine j_getR hK fl_X10_10 dX10_turnsIntoOther_16 zo_0 zf_10_0 zr_0_0 ?_
      refine j_iload_n hK dX10_turnsIntoOther_19 2 rfl rfl ?_
      refine j_pc (pc' := 20) rfl ?_
      obtain ⟨r2, S3, h4, hf⟩ := bd_J hf
      refine k_callVi hK (c_X8_letter h4) dX10_turnsIntoOther_20 zclX8 zo_1 ml_X10_243 mi_X8_letter mx_X8_letter in_X8 mc_X8_letter hy_X8_letter ⟨by decide, by decide⟩ rfl (Nat.le_of_ble_eq_true rfl) ?_
      refine j_iload_n hK dX10_turnsIntoOther_23 2 rfl rfl ?_
      obtain ⟨r5, S6, h7, hf⟩ := bd_J hf
      refine k_callVi hK (c_X2_comesOut hr1 h7) dX10_turnsIntoOther_24 zclX2 zo_92 ml_X10_246 mi_X2_comesOut mx_X2_comesOut in_X2 mc_X2_comesOut hy_X2_comesOut ⟨by decide, by decide⟩ rfl (Nat.le_of_ble_eq_true rfl) ?_
      refine j_istore_n hK (L' := [(3, .int r5), (0, .ref 0), (1, .int x1), (2, .int v)]) dX10_turnsIntoOther_27 rfl (by decide) rfl ?_
      refine j_iload_n hK dX10_turnsIntoOther_28 0 rfl rfl ?_
      refine j_aload_n hK dX10_turnsIntoOther_29 1 rfl rfl ?_
      refine j_getR hK fl_X10_10 dX10_turnsIntoOther_30 zo_0 zf_10_0 zr_0_0 ?_
      refine j_iload_n hK dX10_turnsIntoOther_33 2 rfl rfl ?_
      refine j_pc (pc' := 34) rfl ?_
      refine j_iconst hK (1 : Int32) dX10_turnsIntoOther_34 ic_1 ?_
      refine j_iadd hK dX10_turnsIntoOther_35 ?_
      refine j_iload_n hK dX10_turnsIntoOther_36 3 rfl rfl ?_
      refine j_iadd hK dX10_turnsIntoOther_37 ?_
      obtain ⟨r8, S9, h10, hf⟩ := bd_J hf
      refine k_callVi hK (c_X8_letter h10) dX10_turnsIntoOther_38 zclX8 zo_1 ml_X10_243 mi_X8_letter mx_X8_letter in_X8 mc_X8_letter hy_X8_letter ⟨by decide, by decide⟩ rfl (Nat.le_of_ble_eq_true rfl) ?_
      refine j_icmp_eq hK 46 dX10_turnsIntoOther_41 (by decide) (fun hc => ?_) (fun hc => ?_)
      · replace hf := if_1 hc hf
        refine j_iinc hK (L' := [(2, .int (v + (1 : Int32))), (3, .int r5), (0, .ref 0), (1, .int x1)]) dX10_turnsIntoOther_46 3 rfl (congrArg (fun y => v + y) ic_1) (by decide) rfl ?_
        refine j_goto hK 2 dX10_turnsIntoOther_49 (by decide) ?_
        refine j_sub [2, 3, 0] rfl ?_
        exact hk _ _ hf
      · replace hf := if_2 hc hf
        refine j_iconst hK (0 : Int32) dX10_turnsIntoOther_44 ic_0 ?_
        exact j_zret hK dX10_turnsIntoOther_45 rfl rfl (rt_I hA hf))
def f_X10_turnsIntoOther (p1 : Int32) (S : St) : Option (Int32 × St) := lp (f_X10_turnsIntoOther_2b p1 (fun v11 S12 => some ((1 : Int32), S12))) FU (0 : Int32) S
theorem c_X10_turnsIntoOther {p1 : Int32} {S : St} {r : Int32} {S' : St} (hf : f_X10_turnsIntoOther p1 S = some (r, S')) : zM yX10_turnsIntoOther cX10_turnsIntoOther 4 5 (some .boolean) [.ref 0, .int p1] S (some (.int r)) S' := by
  refine zM_of (zpl (by decide)) (Nat.le_of_ble_eq_true rfl) rfl (fun K hK hA => ?_)
  unfold f_X10_turnsIntoOther at hf
  refine j_iconst hK (0 : Int32) dX10_turnsIntoOther_0 ic_0 ?_
  refine j_istore_n hK (L' := [(2, .int (0 : Int32)), (0, .ref 0), (1, .int p1)]) dX10_turnsIntoOther_1 rfl (by decide) rfl ?_
  refine j_sub [1, 2, 0] rfl ?_
  refine t_X10_turnsIntoOther_2 hK hA  (fun v11 S12 hf => ?_) _ _ _ hf
  refine j_iconst hK (1 : Int32) dX10_turnsIntoOther_52 ic_1 ?_
  exact j_zret hK dX10_turnsIntoOther_53 rfl rfl (rt_I hA hf)
def f_X10_putIfFirst (p1 : Int32) (p2 : Int32) (S : St) : Option (Unit × St) := (if (gI S 10 1) = 0 then bd (f_X5_put p1.toInt64 S) (fun r1 S2 => bd (f_X5_put p2.toInt64 S2) (fun r4 S5 => some ((), S5))) else some ((), S))
theorem c_X10_putIfFirst {p1 : Int32} {p2 : Int32} {S : St} {r : Unit} {S' : St} (hf : f_X10_putIfFirst p1 p2 S = some (r, S')) : zM yX10_putIfFirst cX10_putIfFirst 3 2 none [.ref 0, .int p1, .int p2] S (none) S' := by
  refine zM_of (zpl (by decide)) (Nat.le_of_ble_eq_true rfl) rfl (fun K hK hA => ?_)
  unfold f_X10_putIfFirst at hf
  refine j_aload_n hK dX10_putIfFirst_0 0 rfl rfl ?_
  refine j_getR hK fl_X10_26 dX10_putIfFirst_1 zo_0 zf_10_2 zr_0_2 ?_
  refine j_getI hK fl_X10_296 dX10_putIfFirst_4 zo_10 zf_5_1 ?_
  refine j_if_ne hK 28 dX10_putIfFirst_7 (by decide) (fun hc => ?_) (fun hc => ?_)
  · replace hf := if_2 hc hf
    exact j_vret hK dX10_putIfFirst_28 rfl (rt_V hA hf)
  · replace hf := if_1 hc hf
    refine j_aload_n hK dX10_putIfFirst_10 0 rfl rfl ?_
    refine j_getR hK fl_X10_26 dX10_putIfFirst_11 zo_0 zf_10_2 zr_0_2 ?_
    refine j_iload_n hK dX10_putIfFirst_14 1 rfl rfl ?_
    refine j_i2l hK dX10_putIfFirst_15 ?_
    obtain ⟨r1, S2, h3, hf⟩ := bd_J hf
    refine k_callVv hK (c_X5_put h3) dX10_putIfFirst_16 zclX5 zo_10 ml_X10_191 mi_X5_put mx_X5_put in_X5 mc_X5_put hy_X5_put ⟨by decide, by decide⟩ rfl (Nat.le_of_ble_eq_true rfl) ?_
    refine j_aload_n hK dX10_putIfFirst_19 0 rfl rfl ?_
    refine j_getR hK fl_X10_26 dX10_putIfFirst_20 zo_0 zf_10_2 zr_0_2 ?_
    refine j_pc (pc' := 23) rfl ?_
    refine j_iload_n hK dX10_putIfFirst_23 2 rfl rfl ?_
    refine j_i2l hK dX10_putIfFirst_24 ?_
    obtain ⟨r4, S5, h6, hf⟩ := bd_J hf
    refine k_callVv hK (c_X5_put h6) dX10_putIfFirst_25 zclX5 zo_10 ml_X10_191 mi_X5_put mx_X5_put in_X5 mc_X5_put hy_X5_put ⟨by decide, by decide⟩ rfl (Nat.le_of_ble_eq_true rfl) ?_
    exact j_vret hK dX10_putIfFirst_28 rfl (rt_V hA hf)
def f_X10_becomes_102 (x2 : Int32) (x3 : Int32) (x4 : Int32) (x5 : Int32) (k e : Int32 × Int32 → St → Option (Int32 × St)) (S : St) : Option (Int32 × St) := k (x3, (x5 + (1 : Int32))) S
theorem t_X10_becomes_102 {K : CT} (hK : KO K cX10_becomes RX10 6 6 (some .int)) {r : Int32} {S' : St} (hA : zans K (some (.int r), S')) {x2 : Int32} {x3 : Int32} {x4 : Int32} {x5 : Int32} {k e : Int32 × Int32 → St → Option (Int32 × St)} (hk : ∀ (v : Int32 × Int32) (S : St), k v S = some (r, S') → J K 57 [(0, .ref 0), (2, .int x2), (3, .int v.1), (4, .int x4), (5, .int v.2)] [] S) (he : ∀ (v : Int32 × Int32) (S : St), e v S = some (r, S') → J K 108 [(0, .ref 0), (2, .int x2), (3, .int v.1), (4, .int x4)] [] S) {S : St} (hf : f_X10_becomes_102 x2 x3 x4 x5 k e S = some (r, S')) : J K 102 [(0, .ref 0), (2, .int x2), (3, .int x3), (4, .int x4), (5, .int x5)] [] S := by
  unfold f_X10_becomes_102 at hf
  refine j_iinc hK (L' := [(5, .int (x5 + (1 : Int32))), (0, .ref 0), (2, .int x2), (3, .int x3), (4, .int x4)]) dX10_becomes_102 4 rfl (congrArg (fun y => x5 + y) ic_1) (by decide) rfl ?_
  refine j_goto hK 57 dX10_becomes_105 (by decide) ?_
  refine j_sub [1, 2, 3, 4, 0] rfl ?_
  exact hk _ _ hf
def f_X10_becomes_57b (x2 : Int32) (x4 : Int32) (e : Int32 × Int32 → St → Option (Int32 × St)) (k : Int32 × Int32 → St → Option (Int32 × St)) (v : Int32 × Int32) (S : St) : Option (Int32 × St) := (if (gI S 3 2) ≤ v.2 then e (v.1, v.2) S else bd (f_X2_goes x4 v.2 S) (fun r1 S2 => (if r1 = 0 then f_X10_becomes_102 x2 v.1 x4 v.2 k e S2 else bd (f_X10_turnsIntoOther x2 S2) (fun r4 S5 => (if r4 = 0 then f_X10_becomes_102 x2 v.1 x4 v.2 k e S5 else bd (f_X10_putIfFirst x4 v.2 S5) (fun r7 S8 => f_X10_becomes_102 x2 (v.1 + (1 : Int32)) x4 v.2 k e S8))))))
theorem t_X10_becomes_57 {K : CT} (hK : KO K cX10_becomes RX10 6 6 (some .int)) {r : Int32} {S' : St} (hA : zans K (some (.int r), S')) {x2 : Int32} {x4 : Int32} {e : Int32 × Int32 → St → Option (Int32 × St)} (he : ∀ (v : Int32 × Int32) (S : St), e v S = some (r, S') → J K 108 [(0, .ref 0), (2, .int x2), (3, .int v.1), (4, .int x4)] [] S) : ∀ (n : Nat) (v : Int32 × Int32) (S : St), lp (f_X10_becomes_57b x2 x4 e) n v S = some (r, S') → J K 57 [(0, .ref 0), (2, .int x2), (3, .int v.1), (4, .int x4), (5, .int v.2)] [] S :=
  lp_J (P := fun (v : Int32 × Int32) (S : St) => J K 57 [(0, .ref 0), (2, .int x2), (3, .int v.1), (4, .int x4), (5, .int v.2)] [] S) (fun k hk v S hf => by
    unfold f_X10_becomes_57b at hf
    refine j_iload hK dX10_becomes_57 4 rfl ?_
    refine j_aload_n hK dX10_becomes_59 0 rfl rfl ?_
    refine j_getR hK fl_X10_19 dX10_becomes_60 zo_0 zf_10_1 zr_0_1 ?_
    refine j_getI hK fl_X10_95 dX10_becomes_63 zo_3 zf_0_2 ?_
    refine j_icmp_ge hK 108 dX10_becomes_66 (by decide) (fun hc => ?_) (fun hc => ?_)
    · replace hf := if_1 hc hf
      refine j_sub [0, 1, 2, 3] rfl ?_
      exact he _ _ hf
    · replace hf := if_2 hc hf
      refine j_aload_n hK dX10_becomes_69 0 rfl rfl ?_
      refine j_getR hK fl_X10_42 dX10_becomes_70 zo_0 zf_10_4 zr_0_4 ?_
      refine j_iload hK dX10_becomes_73 3 rfl ?_
      refine j_iload hK dX10_becomes_75 4 rfl ?_
      obtain ⟨r1, S2, h3, hf⟩ := bd_J hf
      refine k_callVi hK (c_X2_goes h3) dX10_becomes_77 zclX2 zo_92 ml_X10_236 mi_X2_goes mx_X2_goes in_X2 mc_X2_goes hy_X2_goes ⟨by decide, by decide⟩ rfl (Nat.le_of_ble_eq_true rfl) ?_
      refine j_if_eq hK 102 dX10_becomes_80 (by decide) (fun hc => ?_) (fun hc => ?_)
      · replace hf := if_1 hc hf
        exact t_X10_becomes_102 hK hA hk he hf
      · replace hf := if_2 hc hf
        refine j_aload_n hK dX10_becomes_83 0 rfl rfl ?_
        refine j_iload_n hK dX10_becomes_84 1 rfl rfl ?_
        obtain ⟨r4, S5, h6, hf⟩ := bd_J hf
        refine k_callVi hK (c_X10_turnsIntoOther h6) dX10_becomes_85 zclX10 zo_0 ml_X10_289 mi_X10_turnsIntoOther mx_X10_turnsIntoOther in_X10 mc_X10_turnsIntoOther hy_X10_turnsIntoOther ⟨by decide, by decide⟩ rfl (Nat.le_of_ble_eq_true rfl) ?_
        refine j_if_eq hK 102 dX10_becomes_88 (by decide) (fun hc => ?_) (fun hc => ?_)
        · replace hf := if_1 hc hf
          exact t_X10_becomes_102 hK hA hk he hf
        · replace hf := if_2 hc hf
          refine j_aload_n hK dX10_becomes_91 0 rfl rfl ?_
          refine j_iload hK dX10_becomes_92 3 rfl ?_
          refine j_iload hK dX10_becomes_94 4 rfl ?_
          obtain ⟨r7, S8, h9, hf⟩ := bd_J hf
          refine k_callVv hK (c_X10_putIfFirst h9) dX10_becomes_96 zclX10 zo_0 ml_X10_292 mi_X10_putIfFirst mx_X10_putIfFirst in_X10 mc_X10_putIfFirst hy_X10_putIfFirst ⟨by decide, by decide⟩ rfl (Nat.le_of_ble_eq_true rfl) ?_
          refine j_iinc hK (L' := [(3, .int (v.1 + (1 : Int32))), (0, .ref 0), (2, .int x2), (4, .int x4), (5, .int v.2)]) dX10_becomes_99 2 rfl (congrArg (fun y => v.1 + y) ic_1) (by decide) rfl ?_
          refine j_sub [1, 2, 0, 3, 4] rfl ?_
          exact t_X10_becomes_102 hK hA hk he hf)
def f_X10_becomes_47b (x2 : Int32) (e : Int32 × Int32 → St → Option (Int32 × St)) (k : Int32 × Int32 → St → Option (Int32 × St)) (v : Int32 × Int32) (S : St) : Option (Int32 × St) := (if (8 : Int32) ≤ v.2 then e (v.1, v.2) S else lp (f_X10_becomes_57b x2 v.2 (fun v10 S11 => k (v10.1, (v.2 + (1 : Int32))) S11)) FU (v.1, (0 : Int32)) S)
theorem t_X10_becomes_47 {K : CT} (hK : KO K cX10_becomes RX10 6 6 (some .int)) {r : Int32} {S' : St} (hA : zans K (some (.int r), S')) {x2 : Int32} {e : Int32 × Int32 → St → Option (Int32 × St)} (he : ∀ (v : Int32 × Int32) (S : St), e v S = some (r, S') → J K 114 [(3, .int v.1)] [] S) : ∀ (n : Nat) (v : Int32 × Int32) (S : St), lp (f_X10_becomes_47b x2 e) n v S = some (r, S') → J K 47 [(0, .ref 0), (2, .int x2), (3, .int v.1), (4, .int v.2)] [] S :=
  lp_J (P := fun (v : Int32 × Int32) (S : St) => J K 47 [(0, .ref 0), (2, .int x2), (3, .int v.1), (4, .int v.2)] [] S) (fun k hk v S hf => by
    unfold f_X10_becomes_47b at hf
    refine j_iload hK dX10_becomes_47 3 rfl ?_
    refine j_bipush hK (8 : Int32) dX10_becomes_49 bi_8 ?_
    refine j_icmp_ge hK 114 dX10_becomes_51 (by decide) (fun hc => ?_) (fun hc => ?_)
    · replace hf := if_1 hc hf
      refine j_sub [2] rfl ?_
      exact he _ _ hf
    · replace hf := if_2 hc hf
      refine j_iconst hK (0 : Int32) dX10_becomes_54 ic_0 ?_
      refine j_istore hK (L' := [(5, .int (0 : Int32)), (0, .ref 0), (2, .int x2), (3, .int v.1), (4, .int v.2)]) dX10_becomes_55 (by decide) rfl ?_
      refine j_sub [1, 2, 3, 4, 0] rfl ?_
      refine t_X10_becomes_57 hK hA  (fun v10 S11 hf => ?_) _ _ _ hf
      refine j_iinc hK (L' := [(4, .int (v.2 + (1 : Int32))), (0, .ref 0), (2, .int x2), (3, .int v10.1)]) dX10_becomes_108 3 rfl (congrArg (fun y => v.2 + y) ic_1) (by decide) rfl ?_
      refine j_goto hK 47 dX10_becomes_111 (by decide) ?_
      refine j_sub [1, 2, 3, 0] rfl ?_
      exact hk _ _ hf)
def f_X10_becomes (S : St) : Option (Int32 × St) := bd (f_X8_faultOfPair S) (fun r12 S13 => lt ((gI S13 1 1) / (2 : Int32)) (fun y15 => lt (sI S13 1 1 (0 : Int32)) (fun S16 => (if r12 = (-1 : Int32) then bd (f_X5_begin S16) (fun r17 S18 => lp (f_X10_becomes_47b y15 (fun v20 S21 => some (v20.1, S21))) FU ((0 : Int32), (0 : Int32)) S18) else some (((-1 : Int32) - r12), S16)))))
theorem c_X10_becomes {S : St} {r : Int32} {S' : St} (hf : f_X10_becomes S = some (r, S')) : zM yX10_becomes cX10_becomes 6 6 (some .int) [.ref 0] S (some (.int r)) S' := by
  refine zM_of (zpl (by decide)) (Nat.le_of_ble_eq_true rfl) rfl (fun K hK hA => ?_)
  unfold f_X10_becomes at hf
  refine j_aload_n hK dX10_becomes_0 0 rfl rfl ?_
  refine j_getR hK fl_X10_10 dX10_becomes_1 zo_0 zf_10_0 zr_0_0 ?_
  obtain ⟨r12, S13, h14, hf⟩ := bd_J hf
  refine k_callVi hK (c_X8_faultOfPair h14) dX10_becomes_4 zclX8 zo_1 ml_X10_286 mi_X8_faultOfPair mx_X8_faultOfPair in_X8 mc_X8_faultOfPair hy_X8_faultOfPair ⟨by decide, by decide⟩ rfl (Nat.le_of_ble_eq_true rfl) ?_
  refine j_istore_n hK (L' := [(1, .int r12), (0, .ref 0)]) dX10_becomes_7 rfl (by decide) rfl ?_
  refine j_aload_n hK dX10_becomes_8 1 rfl rfl ?_
  refine j_getR hK fl_X10_10 dX10_becomes_9 zo_0 zf_10_0 zr_0_0 ?_
  refine j_getI hK fl_X10_88 dX10_becomes_12 zo_1 zf_8_1 ?_
  refine j_iconst hK (2 : Int32) dX10_becomes_15 ic_2 ?_
  refine j_pc (pc' := 16) rfl ?_
  refine j_idiv hK dX10_becomes_16 (by decide) ?_
  refine lt_I hf (fun y15 hf => ?_)
  refine j_istore_n hK (L' := [(2, .int y15), (1, .int r12), (0, .ref 0)]) dX10_becomes_17 rfl (by decide) rfl ?_
  refine j_aload_n hK dX10_becomes_18 2 rfl rfl ?_
  refine j_getR hK fl_X10_10 dX10_becomes_19 zo_0 zf_10_0 zr_0_0 ?_
  refine j_iconst hK (0 : Int32) dX10_becomes_22 ic_0 ?_
  refine j_putI hK fl_X10_88 dX10_becomes_23 zo_1 zf_8_1 ?_
  refine lt_S hf (fun S16 hf => ?_)
  refine j_iload_n hK dX10_becomes_26 1 rfl rfl ?_
  refine j_iconst hK (-1 : Int32) dX10_becomes_27 ic_m1 ?_
  refine j_pc (pc' := 28) rfl ?_
  refine j_icmp_eq hK 35 dX10_becomes_28 (by decide) (fun hc => ?_) (fun hc => ?_)
  · replace hf := if_1 hc hf
    refine j_aload_n hK dX10_becomes_35 2 rfl rfl ?_
    refine j_getR hK fl_X10_26 dX10_becomes_36 zo_0 zf_10_2 zr_0_2 ?_
    obtain ⟨r17, S18, h19, hf⟩ := bd_J hf
    refine k_callVv hK (c_X5_begin h19) dX10_becomes_39 zclX5 zo_10 ml_X10_185 mi_X5_begin mx_X5_begin in_X5 mc_X5_begin hy_X5_begin ⟨by decide, by decide⟩ rfl (Nat.le_of_ble_eq_true rfl) ?_
    refine j_iconst hK (0 : Int32) dX10_becomes_42 ic_0 ?_
    refine j_istore_n hK (L' := [(3, .int (0 : Int32)), (2, .int y15), (1, .int r12), (0, .ref 0)]) dX10_becomes_43 rfl (by decide) rfl ?_
    refine j_iconst hK (0 : Int32) dX10_becomes_44 ic_0 ?_
    refine j_istore hK (L' := [(4, .int (0 : Int32)), (3, .int (0 : Int32)), (2, .int y15), (1, .int r12), (0, .ref 0)]) dX10_becomes_45 (by decide) rfl ?_
    refine j_sub [4, 2, 1, 0] rfl ?_
    refine t_X10_becomes_47 hK hA  (fun v20 S21 hf => ?_) _ _ _ hf
    refine j_iload_n hK dX10_becomes_114 0 rfl rfl ?_
    exact j_iret hK dX10_becomes_115 rfl (rt_I hA hf)
  · replace hf := if_2 hc hf
    refine j_iconst hK (-1 : Int32) dX10_becomes_31 ic_m1 ?_
    refine j_iload_n hK dX10_becomes_32 1 rfl rfl ?_
    refine j_isub hK dX10_becomes_33 ?_
    exact j_iret hK dX10_becomes_34 rfl (rt_I hA hf)
def f_X10_keeps_82 (x3 : Int32) (x4 : Int32) (x6 : Int32) (s0 : Int32) (s1 : Int32) (k e : Int32 × Int32 → St → Option (Int32 × St)) (S : St) : Option (Int32 × St) := lt (s0 + s1) (fun y1 => k (y1, (x6 + (1 : Int32))) S)
theorem t_X10_keeps_82 {K : CT} (hK : KO K cX10_keeps RX10 7 6 (some .int)) {r : Int32} {S' : St} (hA : zans K (some (.int r), S')) {x3 : Int32} {x4 : Int32} {x6 : Int32} {s0 : Int32} {s1 : Int32} {k e : Int32 × Int32 → St → Option (Int32 × St)} (hk : ∀ (v : Int32 × Int32) (S : St), k v S = some (r, S') → J K 56 [(0, .ref 0), (3, .int x3), (4, .int x4), (5, .int v.1), (6, .int v.2)] [] S) (he : ∀ (v : Int32 × Int32) (S : St), e v S = some (r, S') → J K 91 [(0, .ref 0), (3, .int x3), (4, .int x4), (5, .int v.1)] [] S) {S : St} (hf : f_X10_keeps_82 x3 x4 x6 s0 s1 k e S = some (r, S')) : J K 82 [(0, .ref 0), (3, .int x3), (4, .int x4), (6, .int x6)] [.int s1, .int s0] S := by
  unfold f_X10_keeps_82 at hf
  refine j_iadd hK dX10_keeps_82 ?_
  refine lt_I hf (fun y1 hf => ?_)
  refine j_istore hK (L' := [(5, .int y1), (0, .ref 0), (3, .int x3), (4, .int x4), (6, .int x6)]) dX10_keeps_83 (by decide) rfl ?_
  refine j_iinc hK (L' := [(6, .int (x6 + (1 : Int32))), (5, .int y1), (0, .ref 0), (3, .int x3), (4, .int x4)]) dX10_keeps_85 4 rfl (congrArg (fun y => x6 + y) ic_1) (by decide) rfl ?_
  refine j_goto hK 56 dX10_keeps_88 (by decide) ?_
  refine j_sub [2, 3, 4, 1, 0] rfl ?_
  exact hk _ _ hf
def f_X10_keeps_56b (x3 : Int32) (x4 : Int32) (e : Int32 × Int32 → St → Option (Int32 × St)) (k : Int32 × Int32 → St → Option (Int32 × St)) (v : Int32 × Int32) (S : St) : Option (Int32 × St) := (if (8 : Int32) ≤ v.2 then e (v.1, v.2) S else if inb v.2 8 then (if (gI S 120 v.2.toNatClampNeg) = v.2 then f_X10_keeps_82 x3 x4 v.2 v.1 (1 : Int32) k e S else f_X10_keeps_82 x3 x4 v.2 v.1 (0 : Int32) k e S) else none)
theorem t_X10_keeps_56 {K : CT} (hK : KO K cX10_keeps RX10 7 6 (some .int)) {r : Int32} {S' : St} (hA : zans K (some (.int r), S')) {x3 : Int32} {x4 : Int32} {e : Int32 × Int32 → St → Option (Int32 × St)} (he : ∀ (v : Int32 × Int32) (S : St), e v S = some (r, S') → J K 91 [(0, .ref 0), (3, .int x3), (4, .int x4), (5, .int v.1)] [] S) : ∀ (n : Nat) (v : Int32 × Int32) (S : St), lp (f_X10_keeps_56b x3 x4 e) n v S = some (r, S') → J K 56 [(0, .ref 0), (3, .int x3), (4, .int x4), (5, .int v.1), (6, .int v.2)] [] S :=
  lp_J (P := fun (v : Int32 × Int32) (S : St) => J K 56 [(0, .ref 0), (3, .int x3), (4, .int x4), (5, .int v.1), (6, .int v.2)] [] S) (fun k hk v S hf => by
    unfold f_X10_keeps_56b at hf
    refine j_iload hK dX10_keeps_56 4 rfl ?_
    refine j_bipush hK (8 : Int32) dX10_keeps_58 bi_8 ?_
    refine j_icmp_ge hK 91 dX10_keeps_60 (by decide) (fun hc => ?_) (fun hc => ?_)
    · replace hf := if_1 hc hf
      refine j_sub [0, 1, 2, 3] rfl ?_
      exact he _ _ hf
    · replace hf := if_2 hc hf
      refine j_iload hK dX10_keeps_63 3 rfl ?_
      refine j_aload_n hK dX10_keeps_65 0 rfl rfl ?_
      refine j_getR hK fl_X10_77 dX10_keeps_66 zo_0 zf_10_10 zr_0_10 ?_
      refine j_iload hK dX10_keeps_69 4 rfl ?_
      obtain ⟨hi2, hf⟩ := gd hf
      refine k_iald hK dX10_keeps_71 zb_120 hi2 rfl ?_
      refine j_iload hK dX10_keeps_72 4 rfl ?_
      refine j_icmp_ne hK 81 dX10_keeps_74 (by decide) (fun hc => ?_) (fun hc => ?_)
      · replace hf := if_2 hc hf
        refine j_iconst hK (0 : Int32) dX10_keeps_81 ic_0 ?_
        refine j_sub [0, 1, 2, 4] rfl ?_
        exact t_X10_keeps_82 hK hA hk he hf
      · replace hf := if_1 hc hf
        refine j_iconst hK (1 : Int32) dX10_keeps_77 ic_1 ?_
        refine j_goto hK 82 dX10_keeps_78 (by decide) ?_
        refine j_sub [0, 1, 2, 4] rfl ?_
        exact t_X10_keeps_82 hK hA hk he hf)
def f_X10_keeps_26b (e : Int32 × Int32 → St → Option (Int32 × St)) (k : Int32 × Int32 → St → Option (Int32 × St)) (v : Int32 × Int32) (S : St) : Option (Int32 × St) := (if (6 : Int32) ≤ v.2 then e (v.1, v.2) S else if isRule (gI S 0 8).toNatClampNeg then bd (f_X2_imagesAt (gI S 0 8).toNatClampNeg v.2 S) (fun r4 S5 => lp (f_X10_keeps_56b v.1 v.2 (fun v7 S8 => bd (f_X5_put v7.1.toInt64 S8) (fun r9 S10 => lt (v.1 + v7.1) (fun y12 => k (y12, (v.2 + (1 : Int32))) S10)))) FU ((0 : Int32), (0 : Int32)) S5) else none)
theorem t_X10_keeps_26 {K : CT} (hK : KO K cX10_keeps RX10 7 6 (some .int)) {r : Int32} {S' : St} (hA : zans K (some (.int r), S')) {e : Int32 × Int32 → St → Option (Int32 × St)} (he : ∀ (v : Int32 × Int32) (S : St), e v S = some (r, S') → J K 112 [(3, .int v.1)] [] S) : ∀ (n : Nat) (v : Int32 × Int32) (S : St), lp (f_X10_keeps_26b  e) n v S = some (r, S') → J K 26 [(0, .ref 0), (3, .int v.1), (4, .int v.2)] [] S :=
  lp_J (P := fun (v : Int32 × Int32) (S : St) => J K 26 [(0, .ref 0), (3, .int v.1), (4, .int v.2)] [] S) (fun k hk v S hf => by
    unfold f_X10_keeps_26b at hf
    refine j_iload hK dX10_keeps_26 2 rfl ?_
    refine j_bipush hK (6 : Int32) dX10_keeps_28 bi_6 ?_
    refine j_icmp_ge hK 112 dX10_keeps_30 (by decide) (fun hc => ?_) (fun hc => ?_)
    · replace hf := if_1 hc hf
      refine j_sub [1] rfl ?_
      exact he _ _ hf
    · replace hf := if_2 hc hf
      refine j_aload_n hK dX10_keeps_33 0 rfl rfl ?_
      refine j_getR hK fl_X10_42 dX10_keeps_34 zo_0 zf_10_4 zr_0_4 ?_
      refine j_aload_n hK dX10_keeps_37 0 rfl rfl ?_
      obtain ⟨hr3, hf⟩ := gd hf
      refine j_getD hK fl_X10_70 dX10_keeps_38 zo_0 zf_10_8 ?_
      refine j_iload hK dX10_keeps_41 2 rfl ?_
      refine j_aload_n hK dX10_keeps_43 0 rfl rfl ?_
      refine j_getR hK fl_X10_77 dX10_keeps_44 zo_0 zf_10_10 zr_0_10 ?_
      refine j_pc (pc' := 47) rfl ?_
      obtain ⟨r4, S5, h6, hf⟩ := bd_J hf
      refine k_callVv hK (c_X2_imagesAt hr3 h6) dX10_keeps_47 zclX2 zo_92 ml_X10_276 mi_X2_imagesAt mx_X2_imagesAt in_X2 mc_X2_imagesAt hy_X2_imagesAt ⟨by decide, by decide⟩ rfl (Nat.le_of_ble_eq_true rfl) ?_
      refine j_iconst hK (0 : Int32) dX10_keeps_50 ic_0 ?_
      refine j_istore hK (L' := [(5, .int (0 : Int32)), (0, .ref 0), (3, .int v.1), (4, .int v.2)]) dX10_keeps_51 (by decide) rfl ?_
      refine j_iconst hK (0 : Int32) dX10_keeps_53 ic_0 ?_
      refine j_istore hK (L' := [(6, .int (0 : Int32)), (5, .int (0 : Int32)), (0, .ref 0), (3, .int v.1), (4, .int v.2)]) dX10_keeps_54 (by decide) rfl ?_
      refine j_sub [2, 3, 4, 1, 0] rfl ?_
      refine t_X10_keeps_56 hK hA  (fun v7 S8 hf => ?_) _ _ _ hf
      refine j_aload_n hK dX10_keeps_91 0 rfl rfl ?_
      refine j_getR hK fl_X10_26 dX10_keeps_92 zo_0 zf_10_2 zr_0_2 ?_
      refine j_iload hK dX10_keeps_95 3 rfl ?_
      refine j_i2l hK dX10_keeps_97 ?_
      obtain ⟨r9, S10, h11, hf⟩ := bd_J hf
      refine k_callVv hK (c_X5_put h11) dX10_keeps_98 zclX5 zo_10 ml_X10_191 mi_X5_put mx_X5_put in_X5 mc_X5_put hy_X5_put ⟨by decide, by decide⟩ rfl (Nat.le_of_ble_eq_true rfl) ?_
      refine j_iload_n hK dX10_keeps_101 1 rfl rfl ?_
      refine j_iload hK dX10_keeps_102 3 rfl ?_
      refine j_pc (pc' := 104) rfl ?_
      refine j_iadd hK dX10_keeps_104 ?_
      refine lt_I hf (fun y12 hf => ?_)
      refine j_istore_n hK (L' := [(3, .int y12), (0, .ref 0), (4, .int v.2), (5, .int v7.1)]) dX10_keeps_105 rfl (by decide) rfl ?_
      refine j_iinc hK (L' := [(4, .int (v.2 + (1 : Int32))), (3, .int y12), (0, .ref 0), (5, .int v7.1)]) dX10_keeps_106 2 rfl (congrArg (fun y => v.2 + y) ic_1) (by decide) rfl ?_
      refine j_goto hK 26 dX10_keeps_109 (by decide) ?_
      refine j_sub [2, 1, 0] rfl ?_
      exact hk _ _ hf)
def f_X10_keeps (p1 : Int32) (p2 : Int32) (S : St) : Option (Int32 × St) := bd (f_X2_goes p1 p2 S) (fun r13 S14 => (if r13 = 0 then some ((-1 : Int32), S14) else bd (f_X5_begin S14) (fun r16 S17 => lp (f_X10_keeps_26b  (fun v19 S20 => some (v19.1, S20))) FU ((0 : Int32), (0 : Int32)) S17)))
theorem c_X10_keeps {p1 : Int32} {p2 : Int32} {S : St} {r : Int32} {S' : St} (hf : f_X10_keeps p1 p2 S = some (r, S')) : zM yX10_keeps cX10_keeps 7 6 (some .int) [.ref 0, .int p1, .int p2] S (some (.int r)) S' := by
  refine zM_of (zpl (by decide)) (Nat.le_of_ble_eq_true rfl) rfl (fun K hK hA => ?_)
  unfold f_X10_keeps at hf
  refine j_aload_n hK dX10_keeps_0 0 rfl rfl ?_
  refine j_getR hK fl_X10_42 dX10_keeps_1 zo_0 zf_10_4 zr_0_4 ?_
  refine j_iload_n hK dX10_keeps_4 1 rfl rfl ?_
  refine j_iload_n hK dX10_keeps_5 2 rfl rfl ?_
  obtain ⟨r13, S14, h15, hf⟩ := bd_J hf
  refine k_callVi hK (c_X2_goes h15) dX10_keeps_6 zclX2 zo_92 ml_X10_236 mi_X2_goes mx_X2_goes in_X2 mc_X2_goes hy_X2_goes ⟨by decide, by decide⟩ rfl (Nat.le_of_ble_eq_true rfl) ?_
  refine j_if_ne hK 14 dX10_keeps_9 (by decide) (fun hc => ?_) (fun hc => ?_)
  · replace hf := if_2 hc hf
    refine j_aload_n hK dX10_keeps_14 0 rfl rfl ?_
    refine j_getR hK fl_X10_26 dX10_keeps_15 zo_0 zf_10_2 zr_0_2 ?_
    obtain ⟨r16, S17, h18, hf⟩ := bd_J hf
    refine k_callVv hK (c_X5_begin h18) dX10_keeps_18 zclX5 zo_10 ml_X10_185 mi_X5_begin mx_X5_begin in_X5 mc_X5_begin hy_X5_begin ⟨by decide, by decide⟩ rfl (Nat.le_of_ble_eq_true rfl) ?_
    refine j_iconst hK (0 : Int32) dX10_keeps_21 ic_0 ?_
    refine j_istore_n hK (L' := [(3, .int (0 : Int32)), (0, .ref 0), (1, .int p1), (2, .int p2)]) dX10_keeps_22 rfl (by decide) rfl ?_
    refine j_iconst hK (0 : Int32) dX10_keeps_23 ic_0 ?_
    refine j_istore hK (L' := [(4, .int (0 : Int32)), (3, .int (0 : Int32)), (0, .ref 0), (1, .int p1), (2, .int p2)]) dX10_keeps_24 (by decide) rfl ?_
    refine j_sub [2, 1, 0] rfl ?_
    refine t_X10_keeps_26 hK hA  (fun v19 S20 hf => ?_) _ _ _ hf
    refine j_iload_n hK dX10_keeps_112 0 rfl rfl ?_
    exact j_iret hK dX10_keeps_113 rfl (rt_I hA hf)
  · replace hf := if_1 hc hf
    refine j_iconst hK (-1 : Int32) dX10_keeps_12 ic_m1 ?_
    exact j_iret hK dX10_keeps_13 rfl (rt_I hA hf)
def f_X10_apart_93 (x3 : Int32) (x4 : Int32) (x5 : Int32) (x6 : Int32) (x8 : Int32) (x9 : Int32) (x10 : Int32) (s0 : Int32) (s1 : Int32) (k e : Int32 × Int32 × Int32 → St → Option (Int32 × St)) (S : St) : Option (Int32 × St) := lt (s0 + s1) (fun y1 => lt (mxI x8 x10) (fun y2 => k (y1, y2, (x9 + (1 : Int32))) S))
theorem t_X10_apart_93 {K : CT} (hK : KO K cX10_apart RX10 11 6 (some .int)) {r : Int32} {S' : St} (hA : zans K (some (.int r), S')) {x3 : Int32} {x4 : Int32} {x5 : Int32} {x6 : Int32} {x8 : Int32} {x9 : Int32} {x10 : Int32} {s0 : Int32} {s1 : Int32} {k e : Int32 × Int32 × Int32 → St → Option (Int32 × St)} (hk : ∀ (v : Int32 × Int32 × Int32) (S : St), k v S = some (r, S') → J K 66 [(0, .ref 0), (3, .int x3), (4, .int x4), (5, .int x5), (6, .int x6), (7, .int v.1), (8, .int v.2.1), (9, .int v.2.2)] [] S) (he : ∀ (v : Int32 × Int32 × Int32) (S : St), e v S = some (r, S') → J K 111 [(0, .ref 0), (3, .int x3), (4, .int x4), (5, .int x5), (6, .int x6), (7, .int v.1), (8, .int v.2.1)] [] S) {S : St} (hf : f_X10_apart_93 x3 x4 x5 x6 x8 x9 x10 s0 s1 k e S = some (r, S')) : J K 93 [(0, .ref 0), (3, .int x3), (4, .int x4), (5, .int x5), (6, .int x6), (8, .int x8), (9, .int x9), (10, .int x10)] [.int s1, .int s0] S := by
  unfold f_X10_apart_93 at hf
  refine j_iadd hK dX10_apart_93 ?_
  refine lt_I hf (fun y1 hf => ?_)
  refine j_istore hK (L' := [(7, .int y1), (0, .ref 0), (3, .int x3), (4, .int x4), (5, .int x5), (6, .int x6), (8, .int x8), (9, .int x9), (10, .int x10)]) dX10_apart_94 (by decide) rfl ?_
  refine j_iload hK dX10_apart_96 6 rfl ?_
  refine j_iload hK dX10_apart_98 8 rfl ?_
  refine j_max hK ml_X10_175 dX10_apart_100 (by decide) (Nat.le_of_ble_eq_true rfl) ?_
  refine lt_I hf (fun y2 hf => ?_)
  refine j_istore hK (L' := [(8, .int y2), (7, .int y1), (0, .ref 0), (3, .int x3), (4, .int x4), (5, .int x5), (6, .int x6), (9, .int x9), (10, .int x10)]) dX10_apart_103 (by decide) rfl ?_
  refine j_iinc hK (L' := [(9, .int (x9 + (1 : Int32))), (8, .int y2), (7, .int y1), (0, .ref 0), (3, .int x3), (4, .int x4), (5, .int x5), (6, .int x6), (10, .int x10)]) dX10_apart_105 7 rfl (congrArg (fun y => x9 + y) ic_1) (by decide) rfl ?_
  refine j_goto hK 66 dX10_apart_108 (by decide) ?_
  refine j_sub [3, 4, 5, 6, 7, 2, 1, 0] rfl ?_
  exact hk _ _ hf
def f_X10_apart_66b (x3 : Int32) (x4 : Int32) (x5 : Int32) (x6 : Int32) (e : Int32 × Int32 × Int32 → St → Option (Int32 × St)) (k : Int32 × Int32 × Int32 → St → Option (Int32 × St)) (v : Int32 × Int32 × Int32) (S : St) : Option (Int32 × St) := (if (8 : Int32) ≤ v.2.2 then e (v.1, v.2.1, v.2.2) S else bd (f_X10_timesAmongImages v.2.2 S) (fun r3 S4 => (if r3 ≤ 0 then f_X10_apart_93 x3 x4 x5 x6 v.2.1 v.2.2 r3 v.1 (0 : Int32) k e S4 else f_X10_apart_93 x3 x4 x5 x6 v.2.1 v.2.2 r3 v.1 (1 : Int32) k e S4)))
theorem t_X10_apart_66 {K : CT} (hK : KO K cX10_apart RX10 11 6 (some .int)) {r : Int32} {S' : St} (hA : zans K (some (.int r), S')) {x3 : Int32} {x4 : Int32} {x5 : Int32} {x6 : Int32} {e : Int32 × Int32 × Int32 → St → Option (Int32 × St)} (he : ∀ (v : Int32 × Int32 × Int32) (S : St), e v S = some (r, S') → J K 111 [(0, .ref 0), (3, .int x3), (4, .int x4), (5, .int x5), (6, .int x6), (7, .int v.1), (8, .int v.2.1)] [] S) : ∀ (n : Nat) (v : Int32 × Int32 × Int32) (S : St), lp (f_X10_apart_66b x3 x4 x5 x6 e) n v S = some (r, S') → J K 66 [(0, .ref 0), (3, .int x3), (4, .int x4), (5, .int x5), (6, .int x6), (7, .int v.1), (8, .int v.2.1), (9, .int v.2.2)] [] S :=
  lp_J (P := fun (v : Int32 × Int32 × Int32) (S : St) => J K 66 [(0, .ref 0), (3, .int x3), (4, .int x4), (5, .int x5), (6, .int x6), (7, .int v.1), (8, .int v.2.1), (9, .int v.2.2)] [] S) (fun k hk v S hf => by
    unfold f_X10_apart_66b at hf
    refine j_iload hK dX10_apart_66 7 rfl ?_
    refine j_bipush hK (8 : Int32) dX10_apart_68 bi_8 ?_
    refine j_icmp_ge hK 111 dX10_apart_70 (by decide) (fun hc => ?_) (fun hc => ?_)
    · replace hf := if_1 hc hf
      refine j_sub [0, 1, 2, 3, 4, 5, 6] rfl ?_
      exact he _ _ hf
    · replace hf := if_2 hc hf
      refine j_aload_n hK dX10_apart_73 0 rfl rfl ?_
      refine j_iload hK dX10_apart_74 7 rfl ?_
      obtain ⟨r3, S4, h5, hf⟩ := bd_J hf
      refine k_callVi hK (c_X10_timesAmongImages h5) dX10_apart_76 zclX10 zo_0 ml_X10_280 mi_X10_timesAmongImages mx_X10_timesAmongImages in_X10 mc_X10_timesAmongImages hy_X10_timesAmongImages ⟨by decide, by decide⟩ rfl (Nat.le_of_ble_eq_true rfl) ?_
      refine j_istore hK (L' := [(10, .int r3), (0, .ref 0), (3, .int x3), (4, .int x4), (5, .int x5), (6, .int x6), (7, .int v.1), (8, .int v.2.1), (9, .int v.2.2)]) dX10_apart_79 (by decide) rfl ?_
      refine j_iload hK dX10_apart_81 6 rfl ?_
      refine j_iload hK dX10_apart_83 0 rfl ?_
      refine j_if_le hK 92 dX10_apart_85 (by decide) (fun hc => ?_) (fun hc => ?_)
      · replace hf := if_1 hc hf
        refine j_iconst hK (0 : Int32) dX10_apart_92 ic_0 ?_
        refine j_sub [1, 2, 3, 4, 5, 7, 8, 0] rfl ?_
        exact t_X10_apart_93 hK hA hk he hf
      · replace hf := if_2 hc hf
        refine j_iconst hK (1 : Int32) dX10_apart_88 ic_1 ?_
        refine j_goto hK 93 dX10_apart_89 (by decide) ?_
        refine j_sub [1, 2, 3, 4, 5, 7, 8, 0] rfl ?_
        exact t_X10_apart_93 hK hA hk he hf)
def f_X10_apart_34b (x3 : Int32) (e : Int32 × Int32 × Int32 → St → Option (Int32 × St)) (k : Int32 × Int32 × Int32 → St → Option (Int32 × St)) (v : Int32 × Int32 × Int32) (S : St) : Option (Int32 × St) := (if x3 ≤ v.2.2 then e (v.1, v.2.1, v.2.2) S else if isRule (gI S 0 8).toNatClampNeg then bd (f_X2_imagesAt (gI S 0 8).toNatClampNeg v.2.2 S) (fun r7 S8 => lp (f_X10_apart_66b x3 v.1 v.2.1 v.2.2 (fun v10 S11 => lt (v.1 * v10.1) (fun y12 => lt (v.2.1 * v10.2.1) (fun y13 => k (y12, y13, (v.2.2 + (1 : Int32))) S11)))) FU ((0 : Int32), (0 : Int32), (0 : Int32)) S8) else none)
theorem t_X10_apart_34 {K : CT} (hK : KO K cX10_apart RX10 11 6 (some .int)) {r : Int32} {S' : St} (hA : zans K (some (.int r), S')) {x3 : Int32} {e : Int32 × Int32 × Int32 → St → Option (Int32 × St)} (he : ∀ (v : Int32 × Int32 × Int32) (S : St), e v S = some (r, S') → J K 131 [(0, .ref 0), (4, .int v.1), (5, .int v.2.1)] [] S) : ∀ (n : Nat) (v : Int32 × Int32 × Int32) (S : St), lp (f_X10_apart_34b x3 e) n v S = some (r, S') → J K 34 [(0, .ref 0), (3, .int x3), (4, .int v.1), (5, .int v.2.1), (6, .int v.2.2)] [] S :=
  lp_J (P := fun (v : Int32 × Int32 × Int32) (S : St) => J K 34 [(0, .ref 0), (3, .int x3), (4, .int v.1), (5, .int v.2.1), (6, .int v.2.2)] [] S) (fun k hk v S hf => by
    unfold f_X10_apart_34b at hf
    refine j_iload hK dX10_apart_34 4 rfl ?_
    refine j_iload_n hK dX10_apart_36 1 rfl rfl ?_
    refine j_icmp_ge hK 131 dX10_apart_37 (by decide) (fun hc => ?_) (fun hc => ?_)
    · replace hf := if_1 hc hf
      refine j_sub [0, 2, 3] rfl ?_
      exact he _ _ hf
    · replace hf := if_2 hc hf
      refine j_aload_n hK dX10_apart_40 0 rfl rfl ?_
      refine j_getR hK fl_X10_42 dX10_apart_41 zo_0 zf_10_4 zr_0_4 ?_
      refine j_aload_n hK dX10_apart_44 0 rfl rfl ?_
      obtain ⟨hr6, hf⟩ := gd hf
      refine j_getD hK fl_X10_70 dX10_apart_45 zo_0 zf_10_8 ?_
      refine j_iload hK dX10_apart_48 4 rfl ?_
      refine j_aload_n hK dX10_apart_50 0 rfl rfl ?_
      refine j_getR hK fl_X10_77 dX10_apart_51 zo_0 zf_10_10 zr_0_10 ?_
      refine j_pc (pc' := 54) rfl ?_
      obtain ⟨r7, S8, h9, hf⟩ := bd_J hf
      refine k_callVv hK (c_X2_imagesAt hr6 h9) dX10_apart_54 zclX2 zo_92 ml_X10_276 mi_X2_imagesAt mx_X2_imagesAt in_X2 mc_X2_imagesAt hy_X2_imagesAt ⟨by decide, by decide⟩ rfl (Nat.le_of_ble_eq_true rfl) ?_
      refine j_iconst hK (0 : Int32) dX10_apart_57 ic_0 ?_
      refine j_istore hK (L' := [(7, .int (0 : Int32)), (0, .ref 0), (3, .int x3), (4, .int v.1), (5, .int v.2.1), (6, .int v.2.2)]) dX10_apart_58 (by decide) rfl ?_
      refine j_iconst hK (0 : Int32) dX10_apart_60 ic_0 ?_
      refine j_istore hK (L' := [(8, .int (0 : Int32)), (7, .int (0 : Int32)), (0, .ref 0), (3, .int x3), (4, .int v.1), (5, .int v.2.1), (6, .int v.2.2)]) dX10_apart_61 (by decide) rfl ?_
      refine j_iconst hK (0 : Int32) dX10_apart_63 ic_0 ?_
      refine j_istore hK (L' := [(9, .int (0 : Int32)), (8, .int (0 : Int32)), (7, .int (0 : Int32)), (0, .ref 0), (3, .int x3), (4, .int v.1), (5, .int v.2.1), (6, .int v.2.2)]) dX10_apart_64 (by decide) rfl ?_
      refine j_sub [3, 4, 5, 6, 7, 2, 1, 0] rfl ?_
      refine t_X10_apart_66 hK hA  (fun v10 S11 hf => ?_) _ _ _ hf
      refine j_iload hK dX10_apart_111 2 rfl ?_
      refine j_iload hK dX10_apart_113 5 rfl ?_
      refine j_imul hK dX10_apart_115 ?_
      refine lt_I hf (fun y12 hf => ?_)
      refine j_istore hK (L' := [(4, .int y12), (0, .ref 0), (3, .int x3), (5, .int v.2.1), (6, .int v.2.2), (7, .int v10.1), (8, .int v10.2.1)]) dX10_apart_116 (by decide) rfl ?_
      refine j_iload hK dX10_apart_118 3 rfl ?_
      refine j_iload hK dX10_apart_120 6 rfl ?_
      refine j_imul hK dX10_apart_122 ?_
      refine j_pc (pc' := 123) rfl ?_
      refine lt_I hf (fun y13 hf => ?_)
      refine j_istore hK (L' := [(5, .int y13), (4, .int y12), (0, .ref 0), (3, .int x3), (6, .int v.2.2), (7, .int v10.1), (8, .int v10.2.1)]) dX10_apart_123 (by decide) rfl ?_
      refine j_iinc hK (L' := [(6, .int (v.2.2 + (1 : Int32))), (5, .int y13), (4, .int y12), (0, .ref 0), (3, .int x3), (7, .int v10.1), (8, .int v10.2.1)]) dX10_apart_125 4 rfl (congrArg (fun y => v.2.2 + y) ic_1) (by decide) rfl ?_
      refine j_goto hK 34 dX10_apart_128 (by decide) ?_
      refine j_sub [3, 4, 2, 1, 0] rfl ?_
      exact hk _ _ hf)
def f_X10_apart (p1 : Int32) (p2 : Int32) (p3 : Int32) (S : St) : Option (Int32 × St) := (if p3 < (1 : Int32) then some ((-1 : Int32), S) else (if (6 : Int32) < p3 then some ((-1 : Int32), S) else bd (f_X2_goes p1 p2 S) (fun r14 S15 => (if r14 = 0 then some ((-1 : Int32), S15) else lp (f_X10_apart_34b p3 (fun v17 S18 => bd (f_X5_begin S18) (fun r19 S20 => bd (f_X5_put v17.2.1.toInt64 S20) (fun r22 S23 => some (v17.1, S23))))) FU ((1 : Int32), (1 : Int32), (0 : Int32)) S15))))
theorem c_X10_apart {p1 : Int32} {p2 : Int32} {p3 : Int32} {S : St} {r : Int32} {S' : St} (hf : f_X10_apart p1 p2 p3 S = some (r, S')) : zM yX10_apart cX10_apart 11 6 (some .int) [.ref 0, .int p1, .int p2, .int p3] S (some (.int r)) S' := by
  refine zM_of (zpl (by decide)) (Nat.le_of_ble_eq_true rfl) rfl (fun K hK hA => ?_)
  unfold f_X10_apart at hf
  refine j_iload_n hK dX10_apart_0 3 rfl rfl ?_
  refine j_iconst hK (1 : Int32) dX10_apart_1 ic_1 ?_
  refine j_icmp_lt hK 23 dX10_apart_2 (by decide) (fun hc => ?_) (fun hc => ?_)
  · replace hf := if_1 hc hf
    refine j_iconst hK (-1 : Int32) dX10_apart_23 ic_m1 ?_
    exact j_iret hK dX10_apart_24 rfl (rt_I hA hf)
  · replace hf := if_2 hc hf
    refine j_iload_n hK dX10_apart_5 3 rfl rfl ?_
    refine j_bipush hK (6 : Int32) dX10_apart_6 bi_6 ?_
    refine j_icmp_gt hK 23 dX10_apart_8 (by decide) (fun hc => ?_) (fun hc => ?_)
    · replace hf := if_1 hc hf
      refine j_iconst hK (-1 : Int32) dX10_apart_23 ic_m1 ?_
      exact j_iret hK dX10_apart_24 rfl (rt_I hA hf)
    · replace hf := if_2 hc hf
      refine j_aload_n hK dX10_apart_11 0 rfl rfl ?_
      refine j_getR hK fl_X10_42 dX10_apart_12 zo_0 zf_10_4 zr_0_4 ?_
      refine j_iload_n hK dX10_apart_15 1 rfl rfl ?_
      refine j_iload_n hK dX10_apart_16 2 rfl rfl ?_
      obtain ⟨r14, S15, h16, hf⟩ := bd_J hf
      refine k_callVi hK (c_X2_goes h16) dX10_apart_17 zclX2 zo_92 ml_X10_236 mi_X2_goes mx_X2_goes in_X2 mc_X2_goes hy_X2_goes ⟨by decide, by decide⟩ rfl (Nat.le_of_ble_eq_true rfl) ?_
      refine j_if_ne hK 25 dX10_apart_20 (by decide) (fun hc => ?_) (fun hc => ?_)
      · replace hf := if_2 hc hf
        refine j_iconst hK (1 : Int32) dX10_apart_25 ic_1 ?_
        refine j_istore hK (L' := [(4, .int (1 : Int32)), (0, .ref 0), (1, .int p1), (2, .int p2), (3, .int p3)]) dX10_apart_26 (by decide) rfl ?_
        refine j_iconst hK (1 : Int32) dX10_apart_28 ic_1 ?_
        refine j_istore hK (L' := [(5, .int (1 : Int32)), (4, .int (1 : Int32)), (0, .ref 0), (1, .int p1), (2, .int p2), (3, .int p3)]) dX10_apart_29 (by decide) rfl ?_
        refine j_iconst hK (0 : Int32) dX10_apart_31 ic_0 ?_
        refine j_istore hK (L' := [(6, .int (0 : Int32)), (5, .int (1 : Int32)), (4, .int (1 : Int32)), (0, .ref 0), (1, .int p1), (2, .int p2), (3, .int p3)]) dX10_apart_32 (by decide) rfl ?_
        refine j_sub [3, 6, 2, 1, 0] rfl ?_
        refine t_X10_apart_34 hK hA  (fun v17 S18 hf => ?_) _ _ _ hf
        refine j_aload_n hK dX10_apart_131 0 rfl rfl ?_
        refine j_getR hK fl_X10_26 dX10_apart_132 zo_0 zf_10_2 zr_0_2 ?_
        obtain ⟨r19, S20, h21, hf⟩ := bd_J hf
        refine k_callVv hK (c_X5_begin h21) dX10_apart_135 zclX5 zo_10 ml_X10_185 mi_X5_begin mx_X5_begin in_X5 mc_X5_begin hy_X5_begin ⟨by decide, by decide⟩ rfl (Nat.le_of_ble_eq_true rfl) ?_
        refine j_aload_n hK dX10_apart_138 0 rfl rfl ?_
        refine j_getR hK fl_X10_26 dX10_apart_139 zo_0 zf_10_2 zr_0_2 ?_
        refine j_iload hK dX10_apart_142 2 rfl ?_
        refine j_i2l hK dX10_apart_144 ?_
        refine j_pc (pc' := 145) rfl ?_
        obtain ⟨r22, S23, h24, hf⟩ := bd_J hf
        refine k_callVv hK (c_X5_put h24) dX10_apart_145 zclX5 zo_10 ml_X10_191 mi_X5_put mx_X5_put in_X5 mc_X5_put hy_X5_put ⟨by decide, by decide⟩ rfl (Nat.le_of_ble_eq_true rfl) ?_
        refine j_iload hK dX10_apart_148 1 rfl ?_
        exact j_iret hK dX10_apart_150 rfl (rt_I hA hf)
      · replace hf := if_1 hc hf
        refine j_iconst hK (-1 : Int32) dX10_apart_23 ic_m1 ?_
        exact j_iret hK dX10_apart_24 rfl (rt_I hA hf)
def f_X10_longest_76 (x1 : Int32) (x2 : Int32) (x3 : Int32) (x4 : Int32) (x5 : Int32) (k e : Int32 × Int32 × Int32 × Int32 → St → Option (Int32 × St)) (S : St) : Option (Int32 × St) := k (x2, x3, x4, (x5 + (1 : Int32))) S
theorem t_X10_longest_76 {K : CT} (hK : KO K cX10_longest RX10 6 5 (some .int)) {r : Int32} {S' : St} (hA : zans K (some (.int r), S')) {x1 : Int32} {x2 : Int32} {x3 : Int32} {x4 : Int32} {x5 : Int32} {k e : Int32 × Int32 × Int32 × Int32 → St → Option (Int32 × St)} (hk : ∀ (v : Int32 × Int32 × Int32 × Int32) (S : St), k v S = some (r, S') → J K 20 [(0, .ref 0), (1, .int x1), (2, .int v.1), (3, .int v.2.1), (4, .int v.2.2.1), (5, .int v.2.2.2)] [] S) (he : ∀ (v : Int32 × Int32 × Int32 × Int32) (S : St), e v S = some (r, S') → J K 82 [(0, .ref 0), (2, .int v.1), (3, .int v.2.1), (4, .int v.2.2.1)] [] S) {S : St} (hf : f_X10_longest_76 x1 x2 x3 x4 x5 k e S = some (r, S')) : J K 76 [(0, .ref 0), (1, .int x1), (2, .int x2), (3, .int x3), (4, .int x4), (5, .int x5)] [] S := by
  unfold f_X10_longest_76 at hf
  refine j_iinc hK (L' := [(5, .int (x5 + (1 : Int32))), (0, .ref 0), (1, .int x1), (2, .int x2), (3, .int x3), (4, .int x4)]) dX10_longest_76 5 rfl (congrArg (fun y => x5 + y) ic_1) (by decide) rfl ?_
  refine j_goto hK 20 dX10_longest_79 (by decide) ?_
  refine j_sub [1, 2, 3, 4, 5, 0] rfl ?_
  exact hk _ _ hf
def f_X10_longest_20b (x1 : Int32) (e : Int32 × Int32 × Int32 × Int32 → St → Option (Int32 × St)) (k : Int32 × Int32 × Int32 × Int32 → St → Option (Int32 × St)) (v : Int32 × Int32 × Int32 × Int32) (S : St) : Option (Int32 × St) := (if (gI S 3 2) ≤ v.2.2.2 then e (v.1, v.2.1, v.2.2.1, v.2.2.2) S else bd (f_X2_goes x1 v.2.2.2 S) (fun r1 S2 => (if r1 = 0 then f_X10_longest_76 x1 v.1 v.2.1 v.2.2.1 v.2.2.2 k e S2 else (if (gI S2 92 4) ≤ v.2.1 then f_X10_longest_76 x1 v.1 v.2.1 v.2.2.1 v.2.2.2 k e S2 else lt (gI S2 92 4) (fun y4 => lt (gI S2 92 5) (fun y5 => f_X10_longest_76 x1 v.2.2.2 y4 y5 v.2.2.2 k e S2))))))
theorem t_X10_longest_20 {K : CT} (hK : KO K cX10_longest RX10 6 5 (some .int)) {r : Int32} {S' : St} (hA : zans K (some (.int r), S')) {x1 : Int32} {e : Int32 × Int32 × Int32 × Int32 → St → Option (Int32 × St)} (he : ∀ (v : Int32 × Int32 × Int32 × Int32) (S : St), e v S = some (r, S') → J K 82 [(0, .ref 0), (2, .int v.1), (3, .int v.2.1), (4, .int v.2.2.1)] [] S) : ∀ (n : Nat) (v : Int32 × Int32 × Int32 × Int32) (S : St), lp (f_X10_longest_20b x1 e) n v S = some (r, S') → J K 20 [(0, .ref 0), (1, .int x1), (2, .int v.1), (3, .int v.2.1), (4, .int v.2.2.1), (5, .int v.2.2.2)] [] S :=
  lp_J (P := fun (v : Int32 × Int32 × Int32 × Int32) (S : St) => J K 20 [(0, .ref 0), (1, .int x1), (2, .int v.1), (3, .int v.2.1), (4, .int v.2.2.1), (5, .int v.2.2.2)] [] S) (fun k hk v S hf => by
    unfold f_X10_longest_20b at hf
    refine j_iload hK dX10_longest_20 5 rfl ?_
    refine j_aload_n hK dX10_longest_22 0 rfl rfl ?_
    refine j_getR hK fl_X10_19 dX10_longest_23 zo_0 zf_10_1 zr_0_1 ?_
    refine j_getI hK fl_X10_95 dX10_longest_26 zo_3 zf_0_2 ?_
    refine j_icmp_ge hK 82 dX10_longest_29 (by decide) (fun hc => ?_) (fun hc => ?_)
    · replace hf := if_1 hc hf
      refine j_sub [0, 2, 3, 4] rfl ?_
      exact he _ _ hf
    · replace hf := if_2 hc hf
      refine j_aload_n hK dX10_longest_32 0 rfl rfl ?_
      refine j_getR hK fl_X10_42 dX10_longest_33 zo_0 zf_10_4 zr_0_4 ?_
      refine j_iload_n hK dX10_longest_36 1 rfl rfl ?_
      refine j_iload hK dX10_longest_37 5 rfl ?_
      obtain ⟨r1, S2, h3, hf⟩ := bd_J hf
      refine k_callVi hK (c_X2_goes h3) dX10_longest_39 zclX2 zo_92 ml_X10_236 mi_X2_goes mx_X2_goes in_X2 mc_X2_goes hy_X2_goes ⟨by decide, by decide⟩ rfl (Nat.le_of_ble_eq_true rfl) ?_
      refine j_if_eq hK 76 dX10_longest_42 (by decide) (fun hc => ?_) (fun hc => ?_)
      · replace hf := if_1 hc hf
        exact t_X10_longest_76 hK hA hk he hf
      · replace hf := if_2 hc hf
        refine j_aload_n hK dX10_longest_45 0 rfl rfl ?_
        refine j_getR hK fl_X10_42 dX10_longest_46 zo_0 zf_10_4 zr_0_4 ?_
        refine j_getI hK fl_X10_188 dX10_longest_49 zo_92 zf_2_4 ?_
        refine j_iload_n hK dX10_longest_52 3 rfl rfl ?_
        refine j_icmp_le hK 76 dX10_longest_53 (by decide) (fun hc => ?_) (fun hc => ?_)
        · replace hf := if_1 hc hf
          exact t_X10_longest_76 hK hA hk he hf
        · replace hf := if_2 hc hf
          refine j_iload hK dX10_longest_56 5 rfl ?_
          refine j_istore_n hK (L' := [(2, .int v.2.2.2), (0, .ref 0), (1, .int x1), (3, .int v.2.1), (4, .int v.2.2.1), (5, .int v.2.2.2)]) dX10_longest_58 rfl (by decide) rfl ?_
          refine j_aload_n hK dX10_longest_59 1 rfl rfl ?_
          refine j_getR hK fl_X10_42 dX10_longest_60 zo_0 zf_10_4 zr_0_4 ?_
          refine j_getI hK fl_X10_188 dX10_longest_63 zo_92 zf_2_4 ?_
          refine lt_I hf (fun y4 hf => ?_)
          refine j_istore_n hK (L' := [(3, .int y4), (2, .int v.2.2.2), (0, .ref 0), (1, .int x1), (4, .int v.2.2.1), (5, .int v.2.2.2)]) dX10_longest_66 rfl (by decide) rfl ?_
          refine j_aload_n hK dX10_longest_67 2 rfl rfl ?_
          refine j_pc (pc' := 68) rfl ?_
          refine j_getR hK fl_X10_42 dX10_longest_68 zo_0 zf_10_4 zr_0_4 ?_
          refine j_getI hK fl_X10_254 dX10_longest_71 zo_92 zf_2_5 ?_
          refine lt_I hf (fun y5 hf => ?_)
          refine j_istore hK (L' := [(4, .int y5), (3, .int y4), (2, .int v.2.2.2), (0, .ref 0), (1, .int x1), (5, .int v.2.2.2)]) dX10_longest_74 (by decide) rfl ?_
          refine j_sub [3, 4, 2, 1, 0, 5] rfl ?_
          exact t_X10_longest_76 hK hA hk he hf)
def f_X10_longest (p1 : Int32) (S : St) : Option (Int32 × St) := bd (f_X10_isCavern p1 S) (fun r6 S7 => (if r6 = 0 then some ((-1 : Int32), S7) else lp (f_X10_longest_20b p1 (fun v9 S10 => (if v9.1 < 0 then some (v9.1, S10) else bd (f_X5_begin S10) (fun r11 S12 => bd (f_X5_put v9.2.1.toInt64 S12) (fun r14 S15 => bd (f_X5_put v9.2.2.1.toInt64 S15) (fun r17 S18 => some (v9.1, S18))))))) FU ((-2 : Int32), (0 : Int32), (0 : Int32), (0 : Int32)) S7))
theorem c_X10_longest {p1 : Int32} {S : St} {r : Int32} {S' : St} (hf : f_X10_longest p1 S = some (r, S')) : zM yX10_longest cX10_longest 6 5 (some .int) [.ref 0, .int p1] S (some (.int r)) S' := by
  refine zM_of (zpl (by decide)) (Nat.le_of_ble_eq_true rfl) rfl (fun K hK hA => ?_)
  unfold f_X10_longest at hf
  refine j_iload_n hK dX10_longest_0 1 rfl rfl ?_
  obtain ⟨r6, S7, h8, hf⟩ := bd_J hf
  refine k_callSi hK (c_X10_isCavern h8) dX10_longest_1 ml_X10_147 ms_X10_isCavern in_X10 mc_X10_isCavern hy_X10_isCavern ⟨by decide, by decide⟩ rfl (Nat.le_of_ble_eq_true rfl) ?_
  refine j_if_ne hK 9 dX10_longest_4 (by decide) (fun hc => ?_) (fun hc => ?_)
  · replace hf := if_2 hc hf
    refine j_bipush hK (-2 : Int32) dX10_longest_9 bi_m2 ?_
    refine j_istore_n hK (L' := [(2, .int (-2 : Int32)), (0, .ref 0), (1, .int p1)]) dX10_longest_11 rfl (by decide) rfl ?_
    refine j_iconst hK (0 : Int32) dX10_longest_12 ic_0 ?_
    refine j_istore_n hK (L' := [(3, .int (0 : Int32)), (2, .int (-2 : Int32)), (0, .ref 0), (1, .int p1)]) dX10_longest_13 rfl (by decide) rfl ?_
    refine j_iconst hK (0 : Int32) dX10_longest_14 ic_0 ?_
    refine j_istore hK (L' := [(4, .int (0 : Int32)), (3, .int (0 : Int32)), (2, .int (-2 : Int32)), (0, .ref 0), (1, .int p1)]) dX10_longest_15 (by decide) rfl ?_
    refine j_iconst hK (0 : Int32) dX10_longest_17 ic_0 ?_
    refine j_pc (pc' := 18) rfl ?_
    refine j_istore hK (L' := [(5, .int (0 : Int32)), (4, .int (0 : Int32)), (3, .int (0 : Int32)), (2, .int (-2 : Int32)), (0, .ref 0), (1, .int p1)]) dX10_longest_18 (by decide) rfl ?_
    refine j_sub [4, 5, 3, 2, 1, 0] rfl ?_
    refine t_X10_longest_20 hK hA  (fun v9 S10 hf => ?_) _ _ _ hf
    refine j_iload_n hK dX10_longest_82 1 rfl rfl ?_
    refine j_if_lt hK 112 dX10_longest_83 (by decide) (fun hc => ?_) (fun hc => ?_)
    · replace hf := if_1 hc hf
      refine j_iload_n hK dX10_longest_112 1 rfl rfl ?_
      exact j_iret hK dX10_longest_113 rfl (rt_I hA hf)
    · replace hf := if_2 hc hf
      refine j_aload_n hK dX10_longest_86 0 rfl rfl ?_
      refine j_getR hK fl_X10_26 dX10_longest_87 zo_0 zf_10_2 zr_0_2 ?_
      obtain ⟨r11, S12, h13, hf⟩ := bd_J hf
      refine k_callVv hK (c_X5_begin h13) dX10_longest_90 zclX5 zo_10 ml_X10_185 mi_X5_begin mx_X5_begin in_X5 mc_X5_begin hy_X5_begin ⟨by decide, by decide⟩ rfl (Nat.le_of_ble_eq_true rfl) ?_
      refine j_aload_n hK dX10_longest_93 0 rfl rfl ?_
      refine j_getR hK fl_X10_26 dX10_longest_94 zo_0 zf_10_2 zr_0_2 ?_
      refine j_iload_n hK dX10_longest_97 2 rfl rfl ?_
      refine j_i2l hK dX10_longest_98 ?_
      refine j_pc (pc' := 99) rfl ?_
      obtain ⟨r14, S15, h16, hf⟩ := bd_J hf
      refine k_callVv hK (c_X5_put h16) dX10_longest_99 zclX5 zo_10 ml_X10_191 mi_X5_put mx_X5_put in_X5 mc_X5_put hy_X5_put ⟨by decide, by decide⟩ rfl (Nat.le_of_ble_eq_true rfl) ?_
      refine j_aload_n hK dX10_longest_102 0 rfl rfl ?_
      refine j_getR hK fl_X10_26 dX10_longest_103 zo_0 zf_10_2 zr_0_2 ?_
      refine j_iload hK dX10_longest_106 3 rfl ?_
      refine j_i2l hK dX10_longest_108 ?_
      obtain ⟨r17, S18, h19, hf⟩ := bd_J hf
      refine k_callVv hK (c_X5_put h19) dX10_longest_109 zclX5 zo_10 ml_X10_191 mi_X5_put mx_X5_put in_X5 mc_X5_put hy_X5_put ⟨by decide, by decide⟩ rfl (Nat.le_of_ble_eq_true rfl) ?_
      refine j_iload_n hK dX10_longest_112 1 rfl rfl ?_
      exact j_iret hK dX10_longest_113 rfl (rt_I hA hf)
  · replace hf := if_1 hc hf
    refine j_iconst hK (-1 : Int32) dX10_longest_7 ic_m1 ?_
    exact j_iret hK dX10_longest_8 rfl (rt_I hA hf)
def f_X10_rounds_70 (x1 : Int32) (x2 : Int32) (x3 : Int32) (x4 : Int32) (x5 : Int32) (k e : Int32 × Int32 × Int32 × Int32 → St → Option (Int32 × St)) (S : St) : Option (Int32 × St) := k (x1, x2, x3, (x5 + (1 : Int32))) S
theorem t_X10_rounds_70 {K : CT} (hK : KO K cX10_rounds RX10 6 5 (some .int)) {r : Int32} {S' : St} (hA : zans K (some (.int r), S')) {x1 : Int32} {x2 : Int32} {x3 : Int32} {x4 : Int32} {x5 : Int32} {k e : Int32 × Int32 × Int32 × Int32 → St → Option (Int32 × St)} (hk : ∀ (v : Int32 × Int32 × Int32 × Int32) (S : St), k v S = some (r, S') → J K 19 [(0, .ref 0), (1, .int v.1), (2, .int v.2.1), (3, .int v.2.2.1), (4, .int x4), (5, .int v.2.2.2)] [] S) (he : ∀ (v : Int32 × Int32 × Int32 × Int32) (S : St), e v S = some (r, S') → J K 76 [(0, .ref 0), (1, .int v.1), (2, .int v.2.1), (3, .int v.2.2.1), (4, .int x4)] [] S) {S : St} (hf : f_X10_rounds_70 x1 x2 x3 x4 x5 k e S = some (r, S')) : J K 70 [(0, .ref 0), (1, .int x1), (2, .int x2), (3, .int x3), (4, .int x4), (5, .int x5)] [] S := by
  unfold f_X10_rounds_70 at hf
  refine j_iinc hK (L' := [(5, .int (x5 + (1 : Int32))), (0, .ref 0), (1, .int x1), (2, .int x2), (3, .int x3), (4, .int x4)]) dX10_rounds_70 5 rfl (congrArg (fun y => x5 + y) ic_1) (by decide) rfl ?_
  refine j_goto hK 19 dX10_rounds_73 (by decide) ?_
  refine j_sub [1, 2, 3, 4, 5, 0] rfl ?_
  exact hk _ _ hf
def f_X10_rounds_19b (x4 : Int32) (e : Int32 × Int32 × Int32 × Int32 → St → Option (Int32 × St)) (k : Int32 × Int32 × Int32 × Int32 → St → Option (Int32 × St)) (v : Int32 × Int32 × Int32 × Int32) (S : St) : Option (Int32 × St) := (if (gI S 3 2) ≤ v.2.2.2 then e (v.1, v.2.1, v.2.2.1, v.2.2.2) S else bd (f_X2_goes x4 v.2.2.2 S) (fun r1 S2 => (if r1 = 0 then f_X10_rounds_70 v.1 v.2.1 v.2.2.1 x4 v.2.2.2 k e S2 else (if (gI S2 92 5) = x4 then lt (v.1 ||| ((1 : Int32) <<< (x4 &&& 31))) (fun y4 => f_X10_rounds_70 y4 (v.2.1 + (1 : Int32)) (v.2.2.1 + (1 : Int32)) x4 v.2.2.2 k e S2) else f_X10_rounds_70 v.1 (v.2.1 + (1 : Int32)) v.2.2.1 x4 v.2.2.2 k e S2))))
theorem t_X10_rounds_19 {K : CT} (hK : KO K cX10_rounds RX10 6 5 (some .int)) {r : Int32} {S' : St} (hA : zans K (some (.int r), S')) {x4 : Int32} {e : Int32 × Int32 × Int32 × Int32 → St → Option (Int32 × St)} (he : ∀ (v : Int32 × Int32 × Int32 × Int32) (S : St), e v S = some (r, S') → J K 76 [(0, .ref 0), (1, .int v.1), (2, .int v.2.1), (3, .int v.2.2.1), (4, .int x4)] [] S) : ∀ (n : Nat) (v : Int32 × Int32 × Int32 × Int32) (S : St), lp (f_X10_rounds_19b x4 e) n v S = some (r, S') → J K 19 [(0, .ref 0), (1, .int v.1), (2, .int v.2.1), (3, .int v.2.2.1), (4, .int x4), (5, .int v.2.2.2)] [] S :=
  lp_J (P := fun (v : Int32 × Int32 × Int32 × Int32) (S : St) => J K 19 [(0, .ref 0), (1, .int v.1), (2, .int v.2.1), (3, .int v.2.2.1), (4, .int x4), (5, .int v.2.2.2)] [] S) (fun k hk v S hf => by
    unfold f_X10_rounds_19b at hf
    refine j_iload hK dX10_rounds_19 5 rfl ?_
    refine j_aload_n hK dX10_rounds_21 0 rfl rfl ?_
    refine j_getR hK fl_X10_19 dX10_rounds_22 zo_0 zf_10_1 zr_0_1 ?_
    refine j_getI hK fl_X10_95 dX10_rounds_25 zo_3 zf_0_2 ?_
    refine j_icmp_ge hK 76 dX10_rounds_28 (by decide) (fun hc => ?_) (fun hc => ?_)
    · replace hf := if_1 hc hf
      refine j_sub [0, 1, 2, 3, 4] rfl ?_
      exact he _ _ hf
    · replace hf := if_2 hc hf
      refine j_aload_n hK dX10_rounds_31 0 rfl rfl ?_
      refine j_getR hK fl_X10_42 dX10_rounds_32 zo_0 zf_10_4 zr_0_4 ?_
      refine j_iload hK dX10_rounds_35 4 rfl ?_
      refine j_iload hK dX10_rounds_37 5 rfl ?_
      obtain ⟨r1, S2, h3, hf⟩ := bd_J hf
      refine k_callVi hK (c_X2_goes h3) dX10_rounds_39 zclX2 zo_92 ml_X10_236 mi_X2_goes mx_X2_goes in_X2 mc_X2_goes hy_X2_goes ⟨by decide, by decide⟩ rfl (Nat.le_of_ble_eq_true rfl) ?_
      refine j_if_eq hK 70 dX10_rounds_42 (by decide) (fun hc => ?_) (fun hc => ?_)
      · replace hf := if_1 hc hf
        exact t_X10_rounds_70 hK hA hk he hf
      · replace hf := if_2 hc hf
        refine j_iinc hK (L' := [(2, .int (v.2.1 + (1 : Int32))), (0, .ref 0), (1, .int v.1), (3, .int v.2.2.1), (4, .int x4), (5, .int v.2.2.2)]) dX10_rounds_45 2 rfl (congrArg (fun y => v.2.1 + y) ic_1) (by decide) rfl ?_
        refine j_aload_n hK dX10_rounds_48 1 rfl rfl ?_
        refine j_getR hK fl_X10_42 dX10_rounds_49 zo_0 zf_10_4 zr_0_4 ?_
        refine j_getI hK fl_X10_254 dX10_rounds_52 zo_92 zf_2_5 ?_
        refine j_iload hK dX10_rounds_55 4 rfl ?_
        refine j_icmp_ne hK 70 dX10_rounds_57 (by decide) (fun hc => ?_) (fun hc => ?_)
        · replace hf := if_2 hc hf
          refine j_sub [1, 2, 0, 3, 4, 5] rfl ?_
          exact t_X10_rounds_70 hK hA hk he hf
        · replace hf := if_1 hc hf
          refine j_iinc hK (L' := [(3, .int (v.2.2.1 + (1 : Int32))), (2, .int (v.2.1 + (1 : Int32))), (0, .ref 0), (1, .int v.1), (4, .int x4), (5, .int v.2.2.2)]) dX10_rounds_60 3 rfl (congrArg (fun y => v.2.2.1 + y) ic_1) (by decide) rfl ?_
          refine j_iload_n hK dX10_rounds_63 3 rfl rfl ?_
          refine j_iconst hK (1 : Int32) dX10_rounds_64 ic_1 ?_
          refine j_iload hK dX10_rounds_65 4 rfl ?_
          refine j_ishl hK dX10_rounds_67 ?_
          refine j_ior hK dX10_rounds_68 ?_
          refine lt_I hf (fun y4 hf => ?_)
          refine j_istore_n hK (L' := [(1, .int y4), (3, .int (v.2.2.1 + (1 : Int32))), (2, .int (v.2.1 + (1 : Int32))), (0, .ref 0), (4, .int x4), (5, .int v.2.2.2)]) dX10_rounds_69 rfl (by decide) rfl ?_
          refine j_sub [3, 0, 2, 1, 4, 5] rfl ?_
          exact t_X10_rounds_70 hK hA hk he hf)
def f_X10_rounds_9b (e : Int32 × Int32 × Int32 × Int32 → St → Option (Int32 × St)) (k : Int32 × Int32 × Int32 × Int32 → St → Option (Int32 × St)) (v : Int32 × Int32 × Int32 × Int32) (S : St) : Option (Int32 × St) := (if (8 : Int32) ≤ v.2.2.2 then e (v.1, v.2.1, v.2.2.1, v.2.2.2) S else lp (f_X10_rounds_19b v.2.2.2 (fun v5 S6 => k (v5.1, v5.2.1, v5.2.2.1, (v.2.2.2 + (1 : Int32))) S6)) FU (v.1, v.2.1, v.2.2.1, (0 : Int32)) S)
theorem t_X10_rounds_9 {K : CT} (hK : KO K cX10_rounds RX10 6 5 (some .int)) {r : Int32} {S' : St} (hA : zans K (some (.int r), S')) {e : Int32 × Int32 × Int32 × Int32 → St → Option (Int32 × St)} (he : ∀ (v : Int32 × Int32 × Int32 × Int32) (S : St), e v S = some (r, S') → J K 82 [(0, .ref 0), (1, .int v.1), (2, .int v.2.1), (3, .int v.2.2.1)] [] S) : ∀ (n : Nat) (v : Int32 × Int32 × Int32 × Int32) (S : St), lp (f_X10_rounds_9b  e) n v S = some (r, S') → J K 9 [(0, .ref 0), (1, .int v.1), (2, .int v.2.1), (3, .int v.2.2.1), (4, .int v.2.2.2)] [] S :=
  lp_J (P := fun (v : Int32 × Int32 × Int32 × Int32) (S : St) => J K 9 [(0, .ref 0), (1, .int v.1), (2, .int v.2.1), (3, .int v.2.2.1), (4, .int v.2.2.2)] [] S) (fun k hk v S hf => by
    unfold f_X10_rounds_9b at hf
    refine j_iload hK dX10_rounds_9 4 rfl ?_
    refine j_bipush hK (8 : Int32) dX10_rounds_11 bi_8 ?_
    refine j_icmp_ge hK 82 dX10_rounds_13 (by decide) (fun hc => ?_) (fun hc => ?_)
    · replace hf := if_1 hc hf
      refine j_sub [0, 1, 2, 3] rfl ?_
      exact he _ _ hf
    · replace hf := if_2 hc hf
      refine j_iconst hK (0 : Int32) dX10_rounds_16 ic_0 ?_
      refine j_istore hK (L' := [(5, .int (0 : Int32)), (0, .ref 0), (1, .int v.1), (2, .int v.2.1), (3, .int v.2.2.1), (4, .int v.2.2.2)]) dX10_rounds_17 (by decide) rfl ?_
      refine j_sub [1, 2, 3, 4, 5, 0] rfl ?_
      refine t_X10_rounds_19 hK hA  (fun v5 S6 hf => ?_) _ _ _ hf
      refine j_iinc hK (L' := [(4, .int (v.2.2.2 + (1 : Int32))), (0, .ref 0), (1, .int v5.1), (2, .int v5.2.1), (3, .int v5.2.2.1)]) dX10_rounds_76 4 rfl (congrArg (fun y => v.2.2.2 + y) ic_1) (by decide) rfl ?_
      refine j_goto hK 9 dX10_rounds_79 (by decide) ?_
      refine j_sub [1, 2, 3, 4, 0] rfl ?_
      exact hk _ _ hf)
def f_X10_rounds (S : St) : Option (Int32 × St) := lp (f_X10_rounds_9b  (fun v7 S8 => bd (f_X5_begin S8) (fun r9 S10 => bd (f_X5_put v7.2.1.toInt64 S10) (fun r12 S13 => bd (f_X5_put v7.2.2.1.toInt64 S13) (fun r15 S16 => some (v7.1, S16)))))) FU ((0 : Int32), (0 : Int32), (0 : Int32), (0 : Int32)) S
theorem c_X10_rounds {S : St} {r : Int32} {S' : St} (hf : f_X10_rounds S = some (r, S')) : zM yX10_rounds cX10_rounds 6 5 (some .int) [.ref 0] S (some (.int r)) S' := by
  refine zM_of (zpl (by decide)) (Nat.le_of_ble_eq_true rfl) rfl (fun K hK hA => ?_)
  unfold f_X10_rounds at hf
  refine j_iconst hK (0 : Int32) dX10_rounds_0 ic_0 ?_
  refine j_istore_n hK (L' := [(1, .int (0 : Int32)), (0, .ref 0)]) dX10_rounds_1 rfl (by decide) rfl ?_
  refine j_iconst hK (0 : Int32) dX10_rounds_2 ic_0 ?_
  refine j_istore_n hK (L' := [(2, .int (0 : Int32)), (1, .int (0 : Int32)), (0, .ref 0)]) dX10_rounds_3 rfl (by decide) rfl ?_
  refine j_iconst hK (0 : Int32) dX10_rounds_4 ic_0 ?_
  refine j_istore_n hK (L' := [(3, .int (0 : Int32)), (2, .int (0 : Int32)), (1, .int (0 : Int32)), (0, .ref 0)]) dX10_rounds_5 rfl (by decide) rfl ?_
  refine j_iconst hK (0 : Int32) dX10_rounds_6 ic_0 ?_
  refine j_istore hK (L' := [(4, .int (0 : Int32)), (3, .int (0 : Int32)), (2, .int (0 : Int32)), (1, .int (0 : Int32)), (0, .ref 0)]) dX10_rounds_7 (by decide) rfl ?_
  refine j_sub [4, 3, 2, 1, 0] rfl ?_
  refine t_X10_rounds_9 hK hA  (fun v7 S8 hf => ?_) _ _ _ hf
  refine j_aload_n hK dX10_rounds_82 0 rfl rfl ?_
  refine j_getR hK fl_X10_26 dX10_rounds_83 zo_0 zf_10_2 zr_0_2 ?_
  obtain ⟨r9, S10, h11, hf⟩ := bd_J hf
  refine k_callVv hK (c_X5_begin h11) dX10_rounds_86 zclX5 zo_10 ml_X10_185 mi_X5_begin mx_X5_begin in_X5 mc_X5_begin hy_X5_begin ⟨by decide, by decide⟩ rfl (Nat.le_of_ble_eq_true rfl) ?_
  refine j_aload_n hK dX10_rounds_89 0 rfl rfl ?_
  refine j_getR hK fl_X10_26 dX10_rounds_90 zo_0 zf_10_2 zr_0_2 ?_
  refine j_iload_n hK dX10_rounds_93 2 rfl rfl ?_
  refine j_i2l hK dX10_rounds_94 ?_
  refine j_pc (pc' := 95) rfl ?_
  obtain ⟨r12, S13, h14, hf⟩ := bd_J hf
  refine k_callVv hK (c_X5_put h14) dX10_rounds_95 zclX5 zo_10 ml_X10_191 mi_X5_put mx_X5_put in_X5 mc_X5_put hy_X5_put ⟨by decide, by decide⟩ rfl (Nat.le_of_ble_eq_true rfl) ?_
  refine j_aload_n hK dX10_rounds_98 0 rfl rfl ?_
  refine j_getR hK fl_X10_26 dX10_rounds_99 zo_0 zf_10_2 zr_0_2 ?_
  refine j_iload_n hK dX10_rounds_102 3 rfl rfl ?_
  refine j_i2l hK dX10_rounds_103 ?_
  obtain ⟨r15, S16, h17, hf⟩ := bd_J hf
  refine k_callVv hK (c_X5_put h17) dX10_rounds_104 zclX5 zo_10 ml_X10_191 mi_X5_put mx_X5_put in_X5 mc_X5_put hy_X5_put ⟨by decide, by decide⟩ rfl (Nat.le_of_ble_eq_true rfl) ?_
  refine j_iload_n hK dX10_rounds_107 1 rfl rfl ?_
  exact j_iret hK dX10_rounds_108 rfl (rt_I hA hf)
