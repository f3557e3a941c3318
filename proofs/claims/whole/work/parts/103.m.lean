def f_X2_comesOut_6b (ru : Nat) (x3 : Int32) (e : Int32 × Int32 → St → Option (Int32 × St)) (k : Int32 × Int32 → St → Option (Int32 × St)) (v : Int32 × Int32) (S : St) : Option (Int32 × St) := (if (gI S 92 3) ≤ v.2 then e (v.1, v.2) S else if inb v.2 12 then if inb v.2 12 then bd (f_X6_changed ru (gI S 93 v.2.toNatClampNeg) (gI S 94 v.2.toNatClampNeg) x3 v.1 S) (fun r3 S4 => k (r3, (v.2 + (1 : Int32))) S4) else none else none)
theorem t_X2_comesOut_6 {K : CT} (hK : KO K cX2_comesOut RX2 6 4 (some .int)) {r : Int32} {S' : St} (hA : zans K (some (.int r), S')) {ru : Nat} (hru : isRule ru) {x3 : Int32} {e : Int32 × Int32 → St → Option (Int32 × St)} (he : ∀ (v : Int32 × Int32) (S : St), e v S = some (r, S') → J K 51 [(4, .int v.1)] [] S) : ∀ (n : Nat) (v : Int32 × Int32) (S : St), lp (f_X2_comesOut_6b ru x3 e) n v S = some (r, S') → J K 6 [(0, .ref 92), (1, .ref ru), (3, .int x3), (4, .int v.1), (5, .int v.2)] [] S :=
  lp_J (P := fun (v : Int32 × Int32) (S : St) => J K 6 [(0, .ref 92), (1, .ref ru), (3, .int x3), (4, .int v.1), (5, .int v.2)] [] S) (fun k hk v S hf => by
    unfold f_X2_comesOut_6b at hf
    refine j_iload hK dX2_comesOut_6 4 rfl ?_
    refine j_aload_n hK dX2_comesOut_8 0 rfl rfl ?_
    refine j_getI hK fl_X2_22 dX2_comesOut_9 zo_92 zf_2_3 ?_
    refine j_icmp_ge hK 51 dX2_comesOut_12 (by decide) (fun hc => ?_) (fun hc => ?_)
    · replace hf := if_1 hc hf
      refine j_sub [3] rfl ?_
      exact he _ _ hf
    · replace hf := if_2 hc hf
      refine j_aload_n hK dX2_comesOut_15 1 rfl rfl ?_
      refine j_aload_n hK dX2_comesOut_16 0 rfl rfl ?_
      refine j_getR hK fl_X2_9 dX2_comesOut_17 zo_92 zf_2_0 zr_92_0 ?_
      refine j_getR hK fl_X2_55 dX2_comesOut_20 zo_3 zf_0_3 zr_3_3 ?_
      refine j_aload_n hK dX2_comesOut_23 0 rfl rfl ?_
      refine j_getR hK fl_X2_15 dX2_comesOut_24 zo_92 zf_2_1 zr_92_1 ?_
      refine j_iload hK dX2_comesOut_27 4 rfl ?_
      refine j_pc (pc' := 29) rfl ?_
      obtain ⟨hi1, hf⟩ := gd hf
      refine k_iald hK dX2_comesOut_29 zb_93 hi1 rfl ?_
      refine j_aload_n hK dX2_comesOut_30 0 rfl rfl ?_
      refine j_getR hK fl_X2_19 dX2_comesOut_31 zo_92 zf_2_2 zr_92_2 ?_
      refine j_iload hK dX2_comesOut_34 4 rfl ?_
      obtain ⟨hi2, hf⟩ := gd hf
      refine k_iald hK dX2_comesOut_36 zb_94 hi2 rfl ?_
      refine j_iload_n hK dX2_comesOut_37 2 rfl rfl ?_
      refine j_iload hK dX2_comesOut_38 3 rfl ?_
      obtain ⟨r3, S4, h5, hf⟩ := bd_J hf
      refine k_callVi hK (c_X6_changed hru h5) dX2_comesOut_40 zclX6 (ru_o hru) ml_X2_86 mi_X6_changed mx_X6_changed in_X6 mc_X6_changed hy_X6_changed ⟨by decide, by decide⟩ rfl (Nat.le_of_ble_eq_true rfl) ?_
      refine j_pc (pc' := 43) rfl ?_
      refine j_istore hK (L' := [(4, .int r3), (0, .ref 92), (1, .ref ru), (3, .int x3), (5, .int v.2)]) dX2_comesOut_43 (by decide) rfl ?_
      refine j_iinc hK (L' := [(5, .int (v.2 + (1 : Int32))), (4, .int r3), (0, .ref 92), (1, .ref ru), (3, .int x3)]) dX2_comesOut_45 4 rfl (congrArg (fun y => v.2 + y) ic_1) (by decide) rfl ?_
      refine j_goto hK 6 dX2_comesOut_48 (by decide) ?_
      refine j_sub [2, 3, 4, 1, 0] rfl ?_
      exact hk _ _ hf)
def f_X2_comesOut (ru : Nat) (p2 : Int32) (p3 : Int32) (S : St) : Option (Int32 × St) := lp (f_X2_comesOut_6b ru p3 (fun v6 S7 => some (v6.1, S7))) FU (p2, (0 : Int32)) S
theorem c_X2_comesOut {ru : Nat} (hru : isRule ru) {p2 : Int32} {p3 : Int32} {S : St} {r : Int32} {S' : St} (hf : f_X2_comesOut ru p2 p3 S = some (r, S')) : zM yX2_comesOut cX2_comesOut 6 4 (some .int) [.ref 92, .ref ru, .int p2, .int p3] S (some (.int r)) S' := by
  refine zM_of (zpl (by decide)) (Nat.le_of_ble_eq_true rfl) rfl (fun K hK hA => ?_)
  unfold f_X2_comesOut at hf
  refine j_iload_n hK dX2_comesOut_0 2 rfl rfl ?_
  refine j_istore hK (L' := [(4, .int p2), (0, .ref 92), (1, .ref ru), (2, .int p2), (3, .int p3)]) dX2_comesOut_1 (by decide) rfl ?_
  refine j_iconst hK (0 : Int32) dX2_comesOut_3 ic_0 ?_
  refine j_istore hK (L' := [(5, .int (0 : Int32)), (4, .int p2), (0, .ref 92), (1, .ref ru), (2, .int p2), (3, .int p3)]) dX2_comesOut_4 (by decide) rfl ?_
  refine j_sub [2, 3, 5, 1, 0] rfl ?_
  refine t_X2_comesOut_6 hK hA hru (fun v6 S7 hf => ?_) _ _ _ hf
  refine j_iload hK dX2_comesOut_51 0 rfl ?_
  exact j_iret hK dX2_comesOut_53 rfl (rt_I hA hf)
def f_X10_putLetters_2b (x1 : Int32) (e : Int32 → St → Option (Unit × St)) (k : Int32 → St → Option (Unit × St)) (v : Int32) (S : St) : Option (Unit × St) := (if x1 ≤ v then e v S else if isRule (gI S 0 8).toNatClampNeg then bd (f_X8_letter v S) (fun r2 S3 => bd (f_X2_comesOut (gI S 0 8).toNatClampNeg r2 v S3) (fun r5 S6 => bd (f_X5_put r5.toInt64 S6) (fun r8 S9 => k (v + (1 : Int32)) S9))) else none)
theorem t_X10_putLetters_2 {K : CT} (hK : KO K cX10_putLetters RX10 3 5 none) {r : Unit} {S' : St} (hA : zans K (none, S')) {x1 : Int32} {e : Int32 → St → Option (Unit × St)} (he : ∀ (v : Int32) (S : St), e v S = some (r, S') → J K 41 [] [] S) : ∀ (n : Nat) (v : Int32) (S : St), lp (f_X10_putLetters_2b x1 e) n v S = some (r, S') → J K 2 [(0, .ref 0), (1, .int x1), (2, .int v)] [] S :=
  lp_J (P := fun (v : Int32) (S : St) => J K 2 [(0, .ref 0), (1, .int x1), (2, .int v)] [] S) (fun k hk v S hf => by
    unfold f_X10_putLetters_2b at hf
    refine j_iload_n hK dX10_putLetters_2 2 rfl rfl ?_
    refine j_iload_n hK dX10_putLetters_3 1 rfl rfl ?_
    refine j_icmp_ge hK 41 dX10_putLetters_4 (by decide) (fun hc => ?_) (fun hc => ?_)
    · replace hf := if_1 hc hf
      refine j_sub [] rfl ?_
      exact he _ _ hf
    · replace hf := if_2 hc hf
      refine j_aload_n hK dX10_putLetters_7 0 rfl rfl ?_
      refine j_getR hK fl_X10_26 dX10_putLetters_8 zo_0 zf_10_2 zr_0_2 ?_
      refine j_aload_n hK dX10_putLetters_11 0 rfl rfl ?_
      refine j_getR hK fl_X10_42 dX10_putLetters_12 zo_0 zf_10_4 zr_0_4 ?_
      refine j_aload_n hK dX10_putLetters_15 0 rfl rfl ?_
      obtain ⟨hr1, hf⟩ := gd hf
      refine j_getD hK fl_X10_70 dX10_putLetters_16 zo_0 zf_10_8 ?_
      refine j_aload_n hK dX10_putLetters_19 0 rfl rfl ?_
      refine j_pc (pc' := 20) rfl ?_
      refine j_getR hK fl_X10_10 dX10_putLetters_20 zo_0 zf_10_0 zr_0_0 ?_
      refine j_iload_n hK dX10_putLetters_23 2 rfl rfl ?_
      obtain ⟨r2, S3, h4, hf⟩ := bd_J hf
      refine k_callVi hK (c_X8_letter h4) dX10_putLetters_24 zclX8 zo_1 ml_X10_243 mi_X8_letter mx_X8_letter in_X8 mc_X8_letter hy_X8_letter ⟨by decide, by decide⟩ rfl (Nat.le_of_ble_eq_true rfl) ?_
      refine j_iload_n hK dX10_putLetters_27 2 rfl rfl ?_
      obtain ⟨r5, S6, h7, hf⟩ := bd_J hf
      refine k_callVi hK (c_X2_comesOut hr1 h7) dX10_putLetters_28 zclX2 zo_92 ml_X10_246 mi_X2_comesOut mx_X2_comesOut in_X2 mc_X2_comesOut hy_X2_comesOut ⟨by decide, by decide⟩ rfl (Nat.le_of_ble_eq_true rfl) ?_
      refine j_i2l hK dX10_putLetters_31 ?_
      obtain ⟨r8, S9, h10, hf⟩ := bd_J hf
      refine k_callVv hK (c_X5_put h10) dX10_putLetters_32 zclX5 zo_10 ml_X10_191 mi_X5_put mx_X5_put in_X5 mc_X5_put hy_X5_put ⟨by decide, by decide⟩ rfl (Nat.le_of_ble_eq_true rfl) ?_
      refine j_iinc hK (L' := [(2, .int (v + (1 : Int32))), (0, .ref 0), (1, .int x1)]) dX10_putLetters_35 2 rfl (congrArg (fun y => v + y) ic_1) (by decide) rfl ?_
      refine j_pc (pc' := 38) rfl ?_
      refine j_goto hK 2 dX10_putLetters_38 (by decide) ?_
      refine j_sub [1, 2, 0] rfl ?_
      exact hk _ _ hf)
def f_X10_putLetters (p1 : Int32) (S : St) : Option (Unit × St) := lp (f_X10_putLetters_2b p1 (fun v11 S12 => some ((), S12))) FU (0 : Int32) S
theorem c_X10_putLetters {p1 : Int32} {S : St} {r : Unit} {S' : St} (hf : f_X10_putLetters p1 S = some (r, S')) : zM yX10_putLetters cX10_putLetters 3 5 none [.ref 0, .int p1] S (none) S' := by
  refine zM_of (zpl (by decide)) (Nat.le_of_ble_eq_true rfl) rfl (fun K hK hA => ?_)
  unfold f_X10_putLetters at hf
  refine j_iconst hK (0 : Int32) dX10_putLetters_0 ic_0 ?_
  refine j_istore_n hK (L' := [(2, .int (0 : Int32)), (0, .ref 0), (1, .int p1)]) dX10_putLetters_1 rfl (by decide) rfl ?_
  refine j_sub [1, 2, 0] rfl ?_
  refine t_X10_putLetters_2 hK hA  (fun v11 S12 hf => ?_) _ _ _ hf
  exact j_vret hK dX10_putLetters_41 rfl (rt_V hA hf)
def f_X0_wearOut_2b (e : Int32 → St → Option (Unit × St)) (k : Int32 → St → Option (Unit × St)) (v : Int32) (S : St) : Option (Unit × St) := (if (gI S 92 3) ≤ v then e v S else if inb v 12 then lt (gI S 93 v.toNatClampNeg) (fun y2 => if inb y2 12 then if inb y2 12 then lt (sI S 9 y2.toNatClampNeg (mnI (9 : Int32) ((gI S 9 y2.toNatClampNeg) + (1 : Int32)))) (fun S5 => k (v + (1 : Int32)) S5) else none else none) else none)
theorem t_X0_wearOut_2 {K : CT} (hK : KO K cX0_wearOut RX0 4 1 none) {r : Unit} {S' : St} (hA : zans K (none, S')) {e : Int32 → St → Option (Unit × St)} (he : ∀ (v : Int32) (S : St), e v S = some (r, S') → J K 48 [(0, .ref 3)] [] S) : ∀ (n : Nat) (v : Int32) (S : St), lp (f_X0_wearOut_2b  e) n v S = some (r, S') → J K 2 [(0, .ref 3), (1, .ref 92), (2, .int v)] [] S :=
  lp_J (P := fun (v : Int32) (S : St) => J K 2 [(0, .ref 3), (1, .ref 92), (2, .int v)] [] S) (fun k hk v S hf => by
    unfold f_X0_wearOut_2b at hf
    refine j_iload_n hK dX0_wearOut_2 2 rfl rfl ?_
    refine j_aload_n hK dX0_wearOut_3 1 rfl rfl ?_
    refine j_getI hK fl_X0_65 dX0_wearOut_4 zo_92 zf_2_3 ?_
    refine j_icmp_ge hK 48 dX0_wearOut_7 (by decide) (fun hc => ?_) (fun hc => ?_)
    · replace hf := if_1 hc hf
      refine j_sub [0] rfl ?_
      exact he _ _ hf
    · replace hf := if_2 hc hf
      refine j_aload_n hK dX0_wearOut_10 1 rfl rfl ?_
      refine j_getR hK fl_X0_70 dX0_wearOut_11 zo_92 zf_2_1 zr_92_1 ?_
      refine j_iload_n hK dX0_wearOut_14 2 rfl rfl ?_
      obtain ⟨hi1, hf⟩ := gd hf
      refine k_iald hK dX0_wearOut_15 zb_93 hi1 rfl ?_
      refine lt_I hf (fun y2 hf => ?_)
      refine j_istore_n hK (L' := [(3, .int y2), (0, .ref 3), (1, .ref 92), (2, .int v)]) dX0_wearOut_16 rfl (by decide) rfl ?_
      refine j_aload_n hK dX0_wearOut_17 1 rfl rfl ?_
      refine j_getR hK fl_X0_25 dX0_wearOut_18 zo_3 zf_0_3 zr_3_3 ?_
      refine j_pc (pc' := 21) rfl ?_
      refine j_getR hK fl_X0_35 dX0_wearOut_21 zo_6 zf_7_2 zr_6_2 ?_
      refine j_iload_n hK dX0_wearOut_24 0 rfl rfl ?_
      refine j_bipush hK (9 : Int32) dX0_wearOut_25 bi_9 ?_
      refine j_aload_n hK dX0_wearOut_27 1 rfl rfl ?_
      refine j_getR hK fl_X0_25 dX0_wearOut_28 zo_3 zf_0_3 zr_3_3 ?_
      refine j_getR hK fl_X0_35 dX0_wearOut_31 zo_6 zf_7_2 zr_6_2 ?_
      refine j_iload_n hK dX0_wearOut_34 0 rfl rfl ?_
      obtain ⟨hi3, hf⟩ := gd hf
      refine k_iald hK dX0_wearOut_35 zb_9 hi3 rfl ?_
      refine j_pc (pc' := 36) rfl ?_
      refine j_iconst hK (1 : Int32) dX0_wearOut_36 ic_1 ?_
      refine j_iadd hK dX0_wearOut_37 ?_
      refine j_min hK ml_X0_73 dX0_wearOut_38 (by decide) (Nat.le_of_ble_eq_true rfl) ?_
      obtain ⟨hi4, hf⟩ := gd hf
      refine k_iast hK dX0_wearOut_41 zb_9 hi4 rfl ?_
      refine lt_S hf (fun S5 hf => ?_)
      refine j_iinc hK (L' := [(2, .int (v + (1 : Int32))), (3, .int y2), (0, .ref 3), (1, .ref 92)]) dX0_wearOut_42 3 rfl (congrArg (fun y => v + y) ic_1) (by decide) rfl ?_
      refine j_goto hK 2 dX0_wearOut_45 (by decide) ?_
      refine j_sub [2, 3, 0] rfl ?_
      exact hk _ _ hf)
def f_X0_wearOut (S : St) : Option (Unit × St) := lp (f_X0_wearOut_2b  (fun v6 S7 => lt (sI S7 6 5 (mnI (999 : Int32) ((gI S7 6 5) + (1 : Int32)))) (fun S8 => some ((), S8)))) FU (0 : Int32) S
theorem c_X0_wearOut {S : St} {r : Unit} {S' : St} (hf : f_X0_wearOut S = some (r, S')) : zM yX0_wearOut cX0_wearOut 4 1 none [.ref 3, .ref 92] S (none) S' := by
  refine zM_of (zpl (by decide)) (Nat.le_of_ble_eq_true rfl) rfl (fun K hK hA => ?_)
  unfold f_X0_wearOut at hf
  refine j_iconst hK (0 : Int32) dX0_wearOut_0 ic_0 ?_
  refine j_istore_n hK (L' := [(2, .int (0 : Int32)), (0, .ref 3), (1, .ref 92)]) dX0_wearOut_1 rfl (by decide) rfl ?_
  refine j_sub [1, 2, 0] rfl ?_
  refine t_X0_wearOut_2 hK hA  (fun v6 S7 hf => ?_) _ _ _ hf
  refine j_aload_n hK dX0_wearOut_48 0 rfl rfl ?_
  refine j_getR hK fl_X0_25 dX0_wearOut_49 zo_3 zf_0_3 zr_3_3 ?_
  refine j_sipush hK (999 : Int32) dX0_wearOut_52 si_999 ?_
  refine j_aload_n hK dX0_wearOut_55 0 rfl rfl ?_
  refine j_getR hK fl_X0_25 dX0_wearOut_56 zo_3 zf_0_3 zr_3_3 ?_
  refine j_getI hK fl_X0_76 dX0_wearOut_59 zo_6 zf_7_5 ?_
  refine j_iconst hK (1 : Int32) dX0_wearOut_62 ic_1 ?_
  refine j_pc (pc' := 63) rfl ?_
  refine j_iadd hK dX0_wearOut_63 ?_
  refine j_min hK ml_X0_73 dX0_wearOut_64 (by decide) (Nat.le_of_ble_eq_true rfl) ?_
  refine j_putI hK fl_X0_76 dX0_wearOut_67 zo_6 zf_7_5 ?_
  refine lt_S hf (fun S8 hf => ?_)
  exact j_vret hK dX0_wearOut_70 rfl (rt_V hA hf)
def f_X10_wearByEcho (S : St) : Option (Int32 × St) := bd (f_X0_wearOut S) (fun r1 S2 => some ((gI S2 92 5), S2))
theorem c_X10_wearByEcho {S : St} {r : Int32} {S' : St} (hf : f_X10_wearByEcho S = some (r, S')) : zM yX10_wearByEcho cX10_wearByEcho 1 2 (some .int) [.ref 0] S (some (.int r)) S' := by
  refine zM_of (zpl (by decide)) (Nat.le_of_ble_eq_true rfl) rfl (fun K hK hA => ?_)
  unfold f_X10_wearByEcho at hf
  refine j_aload_n hK dX10_wearByEcho_0 0 rfl rfl ?_
  refine j_getR hK fl_X10_19 dX10_wearByEcho_1 zo_0 zf_10_1 zr_0_1 ?_
  refine j_aload_n hK dX10_wearByEcho_4 0 rfl rfl ?_
  refine j_getR hK fl_X10_42 dX10_wearByEcho_5 zo_0 zf_10_4 zr_0_4 ?_
  obtain ⟨r1, S2, h3, hf⟩ := bd_J hf
  refine k_callVv hK (c_X0_wearOut h3) dX10_wearByEcho_8 zclX0 zo_3 ml_X10_250 mi_X0_wearOut mx_X0_wearOut in_X0 mc_X0_wearOut hy_X0_wearOut ⟨by decide, by decide⟩ rfl (Nat.le_of_ble_eq_true rfl) ?_
  refine j_aload_n hK dX10_wearByEcho_11 0 rfl rfl ?_
  refine j_getR hK fl_X10_42 dX10_wearByEcho_12 zo_0 zf_10_4 zr_0_4 ?_
  refine j_getI hK fl_X10_254 dX10_wearByEcho_15 zo_92 zf_2_5 ?_
  refine j_pc (pc' := 18) rfl ?_
  exact j_iret hK dX10_wearByEcho_18 rfl (rt_I hA hf)
def f_X4_settle (p1 : Int32) (S : St) : Option (Unit × St) := (if p1 = 0 then some ((), S) else (if (15 : Int32) ≤ (gI S 12 2) then lt (((gI S 12 1) + (1 : Int32)) - ((gI S 12 1) + (1 : Int32)) / (16 : Int32) * (16 : Int32)) (fun y1 => lt (sI S 12 1 y1) (fun S2 => some ((), S2))) else lt (sI S 12 2 ((gI S 12 2) + (1 : Int32))) (fun S3 => some ((), S3))))
theorem c_X4_settle {p1 : Int32} {S : St} {r : Unit} {S' : St} (hf : f_X4_settle p1 S = some (r, S')) : zM yX4_settle cX4_settle 2 1 none [.ref 12, .int p1] S (none) S' := by
  refine zM_of (zpl (by decide)) (Nat.le_of_ble_eq_true rfl) rfl (fun K hK hA => ?_)
  unfold f_X4_settle at hf
  refine j_iload_n hK dX4_settle_0 1 rfl rfl ?_
  refine j_if_ne hK 5 dX4_settle_1 (by decide) (fun hc => ?_) (fun hc => ?_)
  · replace hf := if_2 hc hf
    refine j_aload_n hK dX4_settle_5 0 rfl rfl ?_
    refine j_getI hK fl_X4_20 dX4_settle_6 zo_12 zf_4_2 ?_
    refine j_bipush hK (15 : Int32) dX4_settle_9 bi_15 ?_
    refine j_icmp_ge hK 27 dX4_settle_11 (by decide) (fun hc => ?_) (fun hc => ?_)
    · replace hf := if_1 hc hf
      refine j_aload_n hK dX4_settle_27 0 rfl rfl ?_
      refine j_aload_n hK dX4_settle_28 0 rfl rfl ?_
      refine j_getI hK fl_X4_16 dX4_settle_29 zo_12 zf_4_1 ?_
      refine j_iconst hK (1 : Int32) dX4_settle_32 ic_1 ?_
      refine j_iadd hK dX4_settle_33 ?_
      refine j_bipush hK (16 : Int32) dX4_settle_34 bi_16 ?_
      refine j_irem hK dX4_settle_36 (by decide) ?_
      refine lt_I hf (fun y1 hf => ?_)
      refine j_pc (pc' := 37) rfl ?_
      refine j_putI hK fl_X4_16 dX4_settle_37 zo_12 zf_4_1 ?_
      refine lt_S hf (fun S2 hf => ?_)
      exact j_vret hK dX4_settle_40 rfl (rt_V hA hf)
    · replace hf := if_2 hc hf
      refine j_aload_n hK dX4_settle_14 0 rfl rfl ?_
      refine j_dup hK dX4_settle_15 rfl ?_
      refine j_getI hK fl_X4_20 dX4_settle_16 zo_12 zf_4_2 ?_
      refine j_iconst hK (1 : Int32) dX4_settle_19 ic_1 ?_
      refine j_iadd hK dX4_settle_20 ?_
      refine j_putI hK fl_X4_20 dX4_settle_21 zo_12 zf_4_2 ?_
      refine lt_S hf (fun S3 hf => ?_)
      refine j_goto hK 40 dX4_settle_24 (by decide) ?_
      exact j_vret hK dX4_settle_40 rfl (rt_V hA hf)
  · replace hf := if_1 hc hf
    exact j_vret hK dX4_settle_4 rfl (rt_V hA hf)
def f_X10_calls_71 (x3 : Int32) (S : St) : Option (Int32 × St) := lt (sI S 1 1 (0 : Int32)) (fun S1 => some (x3, S1))
theorem t_X10_calls_71 {K : CT} (hK : KO K cX10_calls RX10 4 6 (some .int)) {r : Int32} {S' : St} (hA : zans K (some (.int r), S')) {x3 : Int32} {S : St} (hf : f_X10_calls_71 x3 S = some (r, S')) : J K 71 [(0, .ref 0), (3, .int x3)] [] S := by
  unfold f_X10_calls_71 at hf
  refine j_aload_n hK dX10_calls_71 0 rfl rfl ?_
  refine j_getR hK fl_X10_10 dX10_calls_72 zo_0 zf_10_0 zr_0_0 ?_
  refine j_iconst hK (0 : Int32) dX10_calls_75 ic_0 ?_
  refine j_putI hK fl_X10_88 dX10_calls_76 zo_1 zf_8_1 ?_
  refine lt_S hf (fun S1 hf => ?_)
  refine j_iload_n hK dX10_calls_79 1 rfl rfl ?_
  exact j_iret hK dX10_calls_80 rfl (rt_I hA hf)
def f_X10_calls (p1 : Int32) (p2 : Int32) (S : St) : Option (Int32 × St) := bd (f_X10_refusalOfCall p1 p2 S) (fun r2 S3 => (if r2 = 0 then bd (f_X4_mark S3) (fun r5 S6 => bd (f_X5_begin S6) (fun r8 S9 => bd (f_X5_put (gI S9 92 4).toInt64 S9) (fun r11 S12 => bd (f_X10_putLetters (gI S12 1 1) S12) (fun r14 S15 => bd (f_X10_wearByEcho S15) (fun r17 S18 => bd (f_X4_settle (1 : Int32) S18) (fun r20 S21 => f_X10_calls_71 r17 S21)))))) else f_X10_calls_71 r2 S3))
theorem c_X10_calls {p1 : Int32} {p2 : Int32} {S : St} {r : Int32} {S' : St} (hf : f_X10_calls p1 p2 S = some (r, S')) : zM yX10_calls cX10_calls 4 6 (some .int) [.ref 0, .int p1, .int p2] S (some (.int r)) S' := by
  refine zM_of (zpl (by decide)) (Nat.le_of_ble_eq_true rfl) rfl (fun K hK hA => ?_)
  unfold f_X10_calls at hf
  refine j_aload_n hK dX10_calls_0 0 rfl rfl ?_
  refine j_iload_n hK dX10_calls_1 1 rfl rfl ?_
  refine j_iload_n hK dX10_calls_2 2 rfl rfl ?_
  obtain ⟨r2, S3, h4, hf⟩ := bd_J hf
  refine k_callVi hK (c_X10_refusalOfCall h4) dX10_calls_3 zclX10 zo_0 ml_X10_178 mi_X10_refusalOfCall mx_X10_refusalOfCall in_X10 mc_X10_refusalOfCall hy_X10_refusalOfCall ⟨by decide, by decide⟩ rfl (Nat.le_of_ble_eq_true rfl) ?_
  refine j_istore_n hK (L' := [(3, .int r2), (0, .ref 0), (1, .int p1), (2, .int p2)]) dX10_calls_6 rfl (by decide) rfl ?_
  refine j_iload_n hK dX10_calls_7 0 rfl rfl ?_
  refine j_if_ne hK 71 dX10_calls_8 (by decide) (fun hc => ?_) (fun hc => ?_)
  · replace hf := if_2 hc hf
    refine j_sub [1, 0] rfl ?_
    exact t_X10_calls_71 hK hA  hf
  · replace hf := if_1 hc hf
    refine j_aload_n hK dX10_calls_11 1 rfl rfl ?_
    refine j_getR hK fl_X10_33 dX10_calls_12 zo_0 zf_10_3 zr_0_3 ?_
    refine j_aload_n hK dX10_calls_15 1 rfl rfl ?_
    refine j_getR hK fl_X10_19 dX10_calls_16 zo_0 zf_10_1 zr_0_1 ?_
    refine j_getR hK fl_X10_129 dX10_calls_19 zo_3 zf_0_3 zr_3_3 ?_
    obtain ⟨r5, S6, h7, hf⟩ := bd_J hf
    refine k_callVv hK (c_X4_mark h7) dX10_calls_22 zclX4 zo_12 ml_X10_181 mi_X4_mark mx_X4_mark in_X4 mc_X4_mark hy_X4_mark ⟨by decide, by decide⟩ rfl (Nat.le_of_ble_eq_true rfl) ?_
    refine j_aload_n hK dX10_calls_25 1 rfl rfl ?_
    refine j_pc (pc' := 26) rfl ?_
    refine j_getR hK fl_X10_26 dX10_calls_26 zo_0 zf_10_2 zr_0_2 ?_
    obtain ⟨r8, S9, h10, hf⟩ := bd_J hf
    refine k_callVv hK (c_X5_begin h10) dX10_calls_29 zclX5 zo_10 ml_X10_185 mi_X5_begin mx_X5_begin in_X5 mc_X5_begin hy_X5_begin ⟨by decide, by decide⟩ rfl (Nat.le_of_ble_eq_true rfl) ?_
    refine j_aload_n hK dX10_calls_32 1 rfl rfl ?_
    refine j_getR hK fl_X10_26 dX10_calls_33 zo_0 zf_10_2 zr_0_2 ?_
    refine j_aload_n hK dX10_calls_36 1 rfl rfl ?_
    refine j_getR hK fl_X10_42 dX10_calls_37 zo_0 zf_10_4 zr_0_4 ?_
    refine j_getI hK fl_X10_188 dX10_calls_40 zo_92 zf_2_4 ?_
    refine j_i2l hK dX10_calls_43 ?_
    refine j_pc (pc' := 44) rfl ?_
    obtain ⟨r11, S12, h13, hf⟩ := bd_J hf
    refine k_callVv hK (c_X5_put h13) dX10_calls_44 zclX5 zo_10 ml_X10_191 mi_X5_put mx_X5_put in_X5 mc_X5_put hy_X5_put ⟨by decide, by decide⟩ rfl (Nat.le_of_ble_eq_true rfl) ?_
    refine j_aload_n hK dX10_calls_47 1 rfl rfl ?_
    refine j_aload_n hK dX10_calls_48 1 rfl rfl ?_
    refine j_getR hK fl_X10_10 dX10_calls_49 zo_0 zf_10_0 zr_0_0 ?_
    refine j_getI hK fl_X10_88 dX10_calls_52 zo_1 zf_8_1 ?_
    obtain ⟨r14, S15, h16, hf⟩ := bd_J hf
    refine k_callVv hK (c_X10_putLetters h16) dX10_calls_55 zclX10 zo_0 ml_X10_195 mi_X10_putLetters mx_X10_putLetters in_X10 mc_X10_putLetters hy_X10_putLetters ⟨by decide, by decide⟩ rfl (Nat.le_of_ble_eq_true rfl) ?_
    refine j_aload_n hK dX10_calls_58 1 rfl rfl ?_
    obtain ⟨r17, S18, h19, hf⟩ := bd_J hf
    refine k_callVi hK (c_X10_wearByEcho h19) dX10_calls_59 zclX10 zo_0 ml_X10_199 mi_X10_wearByEcho mx_X10_wearByEcho in_X10 mc_X10_wearByEcho hy_X10_wearByEcho ⟨by decide, by decide⟩ rfl (Nat.le_of_ble_eq_true rfl) ?_
    refine j_pc (pc' := 62) rfl ?_
    refine j_istore_n hK (L' := [(3, .int r17), (0, .ref 0), (1, .int p1), (2, .int p2)]) dX10_calls_62 rfl (by decide) rfl ?_
    refine j_aload_n hK dX10_calls_63 1 rfl rfl ?_
    refine j_getR hK fl_X10_33 dX10_calls_64 zo_0 zf_10_3 zr_0_3 ?_
    refine j_iconst hK (1 : Int32) dX10_calls_67 ic_1 ?_
    obtain ⟨r20, S21, h22, hf⟩ := bd_J hf
    refine k_callVv hK (c_X4_settle h22) dX10_calls_68 zclX4 zo_12 ml_X10_202 mi_X4_settle mx_X4_settle in_X4 mc_X4_settle hy_X4_settle ⟨by decide, by decide⟩ rfl (Nat.le_of_ble_eq_true rfl) ?_
    refine j_sub [1, 0] rfl ?_
    exact t_X10_calls_71 hK hA  hf
def f_X0_heal_2b (x1 : Int32) (e : Int32 → St → Option (Unit × St)) (k : Int32 → St → Option (Unit × St)) (v : Int32) (S : St) : Option (Unit × St) := (if (gI S 3 2) ≤ v then e v S else if inb v 12 then if inb v 12 then lt (sI S 9 v.toNatClampNeg (mxI (0 : Int32) ((gI S 9 v.toNatClampNeg) - x1))) (fun S3 => k (v + (1 : Int32)) S3) else none else none)
theorem t_X0_heal_2 {K : CT} (hK : KO K cX0_heal RX0 3 1 none) {r : Unit} {S' : St} (hA : zans K (none, S')) {x1 : Int32} {e : Int32 → St → Option (Unit × St)} (he : ∀ (v : Int32) (S : St), e v S = some (r, S') → J K 40 [(0, .ref 3), (1, .int x1)] [] S) : ∀ (n : Nat) (v : Int32) (S : St), lp (f_X0_heal_2b x1 e) n v S = some (r, S') → J K 2 [(0, .ref 3), (1, .int x1), (2, .int v)] [] S :=
  lp_J (P := fun (v : Int32) (S : St) => J K 2 [(0, .ref 3), (1, .int x1), (2, .int v)] [] S) (fun k hk v S hf => by
    unfold f_X0_heal_2b at hf
    refine j_iload_n hK dX0_heal_2 2 rfl rfl ?_
    refine j_aload_n hK dX0_heal_3 0 rfl rfl ?_
    refine j_getI hK fl_X0_18 dX0_heal_4 zo_3 zf_0_2 ?_
    refine j_icmp_ge hK 40 dX0_heal_7 (by decide) (fun hc => ?_) (fun hc => ?_)
    · replace hf := if_1 hc hf
      refine j_sub [0, 1] rfl ?_
      exact he _ _ hf
    · replace hf := if_2 hc hf
      refine j_aload_n hK dX0_heal_10 0 rfl rfl ?_
      refine j_getR hK fl_X0_25 dX0_heal_11 zo_3 zf_0_3 zr_3_3 ?_
      refine j_getR hK fl_X0_35 dX0_heal_14 zo_6 zf_7_2 zr_6_2 ?_
      refine j_iload_n hK dX0_heal_17 2 rfl rfl ?_
      refine j_iconst hK (0 : Int32) dX0_heal_18 ic_0 ?_
      refine j_aload_n hK dX0_heal_19 0 rfl rfl ?_
      refine j_getR hK fl_X0_25 dX0_heal_20 zo_3 zf_0_3 zr_3_3 ?_
      refine j_pc (pc' := 23) rfl ?_
      refine j_getR hK fl_X0_35 dX0_heal_23 zo_6 zf_7_2 zr_6_2 ?_
      refine j_iload_n hK dX0_heal_26 2 rfl rfl ?_
      obtain ⟨hi1, hf⟩ := gd hf
      refine k_iald hK dX0_heal_27 zb_9 hi1 rfl ?_
      refine j_iload_n hK dX0_heal_28 1 rfl rfl ?_
      refine j_isub hK dX0_heal_29 ?_
      refine j_max hK ml_X0_56 dX0_heal_30 (by decide) (Nat.le_of_ble_eq_true rfl) ?_
      obtain ⟨hi2, hf⟩ := gd hf
      refine k_iast hK dX0_heal_33 zb_9 hi2 rfl ?_
      refine lt_S hf (fun S3 hf => ?_)
      refine j_iinc hK (L' := [(2, .int (v + (1 : Int32))), (0, .ref 3), (1, .int x1)]) dX0_heal_34 2 rfl (congrArg (fun y => v + y) ic_1) (by decide) rfl ?_
      refine j_pc (pc' := 37) rfl ?_
      refine j_goto hK 2 dX0_heal_37 (by decide) ?_
      refine j_sub [1, 2, 0] rfl ?_
      exact hk _ _ hf)
def f_X0_heal (p1 : Int32) (S : St) : Option (Unit × St) := lp (f_X0_heal_2b p1 (fun v4 S5 => lt (sI S5 6 4 ((gI S5 6 4) + p1)) (fun S6 => some ((), S6)))) FU (0 : Int32) S
theorem c_X0_heal {p1 : Int32} {S : St} {r : Unit} {S' : St} (hf : f_X0_heal p1 S = some (r, S')) : zM yX0_heal cX0_heal 3 1 none [.ref 3, .int p1] S (none) S' := by
  refine zM_of (zpl (by decide)) (Nat.le_of_ble_eq_true rfl) rfl (fun K hK hA => ?_)
  unfold f_X0_heal at hf
  refine j_iconst hK (0 : Int32) dX0_heal_0 ic_0 ?_
  refine j_istore_n hK (L' := [(2, .int (0 : Int32)), (0, .ref 3), (1, .int p1)]) dX0_heal_1 rfl (by decide) rfl ?_
  refine j_sub [1, 2, 0] rfl ?_
  refine t_X0_heal_2 hK hA  (fun v4 S5 hf => ?_) _ _ _ hf
  refine j_aload_n hK dX0_heal_40 0 rfl rfl ?_
  refine j_getR hK fl_X0_25 dX0_heal_41 zo_3 zf_0_3 zr_3_3 ?_
  refine j_dup hK dX0_heal_44 rfl ?_
  refine j_getI hK fl_X0_62 dX0_heal_45 zo_6 zf_7_4 ?_
  refine j_iload_n hK dX0_heal_48 1 rfl rfl ?_
  refine j_iadd hK dX0_heal_49 ?_
  refine j_putI hK fl_X0_62 dX0_heal_50 zo_6 zf_7_4 ?_
  refine lt_S hf (fun S6 hf => ?_)
  refine j_pc (pc' := 53) rfl ?_
  exact j_vret hK dX0_heal_53 rfl (rt_V hA hf)
def f_X10_passHours (p1 : Int32) (S : St) : Option (Int32 × St) := (if p1 < 0 then some ((-1 : Int32), S) else (if p1 ≤ (60 : Int32) then bd (f_X0_heal p1 S) (fun r1 S2 => bd (f_X0_wearOfAll S2) (fun r4 S5 => some (r4, S5))) else some ((-1 : Int32), S)))
theorem c_X10_passHours {p1 : Int32} {S : St} {r : Int32} {S' : St} (hf : f_X10_passHours p1 S = some (r, S')) : zM yX10_passHours cX10_passHours 2 2 (some .int) [.ref 0, .int p1] S (some (.int r)) S' := by
  refine zM_of (zpl (by decide)) (Nat.le_of_ble_eq_true rfl) rfl (fun K hK hA => ?_)
  unfold f_X10_passHours at hf
  refine j_iload_n hK dX10_passHours_0 1 rfl rfl ?_
  refine j_if_lt hK 10 dX10_passHours_1 (by decide) (fun hc => ?_) (fun hc => ?_)
  · replace hf := if_1 hc hf
    refine j_iconst hK (-1 : Int32) dX10_passHours_10 ic_m1 ?_
    exact j_iret hK dX10_passHours_11 rfl (rt_I hA hf)
  · replace hf := if_2 hc hf
    refine j_iload_n hK dX10_passHours_4 1 rfl rfl ?_
    refine j_bipush hK (60 : Int32) dX10_passHours_5 bi_60 ?_
    refine j_icmp_le hK 12 dX10_passHours_7 (by decide) (fun hc => ?_) (fun hc => ?_)
    · replace hf := if_1 hc hf
      refine j_aload_n hK dX10_passHours_12 0 rfl rfl ?_
      refine j_getR hK fl_X10_19 dX10_passHours_13 zo_0 zf_10_1 zr_0_1 ?_
      refine j_iload_n hK dX10_passHours_16 1 rfl rfl ?_
      obtain ⟨r1, S2, h3, hf⟩ := bd_J hf
      refine k_callVv hK (c_X0_heal h3) dX10_passHours_17 zclX0 zo_3 ml_X10_257 mi_X0_heal mx_X0_heal in_X0 mc_X0_heal hy_X0_heal ⟨by decide, by decide⟩ rfl (Nat.le_of_ble_eq_true rfl) ?_
      refine j_aload_n hK dX10_passHours_20 0 rfl rfl ?_
      refine j_getR hK fl_X10_19 dX10_passHours_21 zo_0 zf_10_1 zr_0_1 ?_
      obtain ⟨r4, S5, h6, hf⟩ := bd_J hf
      refine k_callVi hK (c_X0_wearOfAll h6) dX10_passHours_24 zclX0 zo_3 ml_X10_166 mi_X0_wearOfAll mx_X0_wearOfAll in_X0 mc_X0_wearOfAll hy_X0_wearOfAll ⟨by decide, by decide⟩ rfl (Nat.le_of_ble_eq_true rfl) ?_
      refine j_pc (pc' := 27) rfl ?_
      exact j_iret hK dX10_passHours_27 rfl (rt_I hA hf)
    · replace hf := if_2 hc hf
      refine j_iconst hK (-1 : Int32) dX10_passHours_10 ic_m1 ?_
      exact j_iret hK dX10_passHours_11 rfl (rt_I hA hf)
def f_X10_hours_33 (x2 : Int32) (s1 : Int32) (S : St) : Option (Int32 × St) := bd (f_X4_settle s1 S) (fun r1 S2 => some (x2, S2))
theorem t_X10_hours_33 {K : CT} (hK : KO K cX10_hours RX10 3 3 (some .int)) {r : Int32} {S' : St} (hA : zans K (some (.int r), S')) {x2 : Int32} {s1 : Int32} {S : St} (hf : f_X10_hours_33 x2 s1 S = some (r, S')) : J K 33 [(2, .int x2)] [.int s1, .ref 12] S := by
  unfold f_X10_hours_33 at hf
  obtain ⟨r1, S2, h3, hf⟩ := bd_J hf
  refine k_callVv hK (c_X4_settle h3) dX10_hours_33 zclX4 zo_12 ml_X10_202 mi_X4_settle mx_X4_settle in_X4 mc_X4_settle hy_X4_settle ⟨by decide, by decide⟩ rfl (Nat.le_of_ble_eq_true rfl) ?_
  refine j_iload_n hK dX10_hours_36 0 rfl rfl ?_
  exact j_iret hK dX10_hours_37 rfl (rt_I hA hf)
def f_X10_hours (p1 : Int32) (S : St) : Option (Int32 × St) := bd (f_X4_mark S) (fun r4 S5 => bd (f_X10_passHours p1 S5) (fun r7 S8 => (if r7 < 0 then f_X10_hours_33 r7 (0 : Int32) S8 else f_X10_hours_33 r7 (1 : Int32) S8)))
theorem c_X10_hours {p1 : Int32} {S : St} {r : Int32} {S' : St} (hf : f_X10_hours p1 S = some (r, S')) : zM yX10_hours cX10_hours 3 3 (some .int) [.ref 0, .int p1] S (some (.int r)) S' := by
  refine zM_of (zpl (by decide)) (Nat.le_of_ble_eq_true rfl) rfl (fun K hK hA => ?_)
  unfold f_X10_hours at hf
  refine j_aload_n hK dX10_hours_0 0 rfl rfl ?_
  refine j_getR hK fl_X10_33 dX10_hours_1 zo_0 zf_10_3 zr_0_3 ?_
  refine j_aload_n hK dX10_hours_4 0 rfl rfl ?_
  refine j_getR hK fl_X10_19 dX10_hours_5 zo_0 zf_10_1 zr_0_1 ?_
  refine j_getR hK fl_X10_129 dX10_hours_8 zo_3 zf_0_3 zr_3_3 ?_
  obtain ⟨r4, S5, h6, hf⟩ := bd_J hf
  refine k_callVv hK (c_X4_mark h6) dX10_hours_11 zclX4 zo_12 ml_X10_181 mi_X4_mark mx_X4_mark in_X4 mc_X4_mark hy_X4_mark ⟨by decide, by decide⟩ rfl (Nat.le_of_ble_eq_true rfl) ?_
  refine j_aload_n hK dX10_hours_14 0 rfl rfl ?_
  refine j_iload_n hK dX10_hours_15 1 rfl rfl ?_
  refine j_pc (pc' := 16) rfl ?_
  obtain ⟨r7, S8, h9, hf⟩ := bd_J hf
  refine k_callVi hK (c_X10_passHours h9) dX10_hours_16 zclX10 zo_0 ml_X10_206 mi_X10_passHours mx_X10_passHours in_X10 mc_X10_passHours hy_X10_passHours ⟨by decide, by decide⟩ rfl (Nat.le_of_ble_eq_true rfl) ?_
  refine j_istore_n hK (L' := [(2, .int r7), (0, .ref 0), (1, .int p1)]) dX10_hours_19 rfl (by decide) rfl ?_
  refine j_aload_n hK dX10_hours_20 1 rfl rfl ?_
  refine j_getR hK fl_X10_33 dX10_hours_21 zo_0 zf_10_3 zr_0_3 ?_
  refine j_iload_n hK dX10_hours_24 0 rfl rfl ?_
  refine j_if_lt hK 32 dX10_hours_25 (by decide) (fun hc => ?_) (fun hc => ?_)
  · replace hf := if_1 hc hf
    refine j_iconst hK (0 : Int32) dX10_hours_32 ic_0 ?_
    refine j_sub [0] rfl ?_
    exact t_X10_hours_33 hK hA  hf
  · replace hf := if_2 hc hf
    refine j_iconst hK (1 : Int32) dX10_hours_28 ic_1 ?_
    refine j_goto hK 33 dX10_hours_29 (by decide) ?_
    refine j_sub [0] rfl ?_
    exact t_X10_hours_33 hK hA  hf
def f_J6_bitCount_0f7a4 (p0 : Int32) (S : St) : Option (Int32 × St) := lt (p0 - ((ushr p0 (1 : Int32)) &&& (1431655765 : Int32))) (fun y1 => lt ((y1 &&& (858993459 : Int32)) + ((ushr y1 (2 : Int32)) &&& (858993459 : Int32))) (fun y2 => lt ((y2 + (ushr y2 (4 : Int32))) &&& (252645135 : Int32)) (fun y3 => lt (y3 + (ushr y3 (8 : Int32))) (fun y4 => lt (y4 + (ushr y4 (16 : Int32))) (fun y5 => some ((y5 &&& (63 : Int32)), S))))))
theorem c_J6_bitCount_0f7a4 {p0 : Int32} {S : St} {r : Int32} {S' : St} (hf : f_J6_bitCount_0f7a4 p0 S = some (r, S')) : zM yJ6_bitCount_0f7a4 cJ6_bitCount_0f7a4 1 1 (some .int) [.int p0] S (some (.int r)) S' := by
  refine zM_of (zpl (by decide)) (Nat.le_of_ble_eq_true rfl) rfl (fun K hK hA => ?_)
  unfold f_J6_bitCount_0f7a4 at hf
  refine j_iload_n hK dJ6_bitCount_0f7a4_0 0 rfl rfl ?_
  refine j_iload_n hK dJ6_bitCount_0f7a4_1 0 rfl rfl ?_
  refine j_iconst hK (1 : Int32) dJ6_bitCount_0f7a4_2 ic_1 ?_
  refine j_iushr hK dJ6_bitCount_0f7a4_3 ?_
  refine j_ldcw hK (v := (1431655765 : Int32)) cn_J6_265 dJ6_bitCount_0f7a4_4 ?_
  refine j_iand hK dJ6_bitCount_0f7a4_7 ?_
  refine j_isub hK dJ6_bitCount_0f7a4_8 ?_
  refine lt_I hf (fun y1 hf => ?_)
  refine j_istore_n hK (L' := [(0, .int y1)]) dJ6_bitCount_0f7a4_9 rfl (by decide) rfl ?_
  refine j_pc (pc' := 10) rfl ?_
  refine j_iload_n hK dJ6_bitCount_0f7a4_10 0 rfl rfl ?_
  refine j_ldcw hK (v := (858993459 : Int32)) cn_J6_266 dJ6_bitCount_0f7a4_11 ?_
  refine j_iand hK dJ6_bitCount_0f7a4_14 ?_
  refine j_iload_n hK dJ6_bitCount_0f7a4_15 0 rfl rfl ?_
  refine j_iconst hK (2 : Int32) dJ6_bitCount_0f7a4_16 ic_2 ?_
  refine j_iushr hK dJ6_bitCount_0f7a4_17 ?_
  refine j_ldcw hK (v := (858993459 : Int32)) cn_J6_266 dJ6_bitCount_0f7a4_18 ?_
  refine j_iand hK dJ6_bitCount_0f7a4_21 ?_
  refine j_pc (pc' := 22) rfl ?_
  refine j_iadd hK dJ6_bitCount_0f7a4_22 ?_
  refine lt_I hf (fun y2 hf => ?_)
  refine j_istore_n hK (L' := [(0, .int y2)]) dJ6_bitCount_0f7a4_23 rfl (by decide) rfl ?_
  refine j_iload_n hK dJ6_bitCount_0f7a4_24 0 rfl rfl ?_
  refine j_iload_n hK dJ6_bitCount_0f7a4_25 0 rfl rfl ?_
  refine j_iconst hK (4 : Int32) dJ6_bitCount_0f7a4_26 ic_4 ?_
  refine j_iushr hK dJ6_bitCount_0f7a4_27 ?_
  refine j_iadd hK dJ6_bitCount_0f7a4_28 ?_
  refine j_ldcw hK (v := (252645135 : Int32)) cn_J6_267 dJ6_bitCount_0f7a4_29 ?_
  refine j_pc (pc' := 32) rfl ?_
  refine j_iand hK dJ6_bitCount_0f7a4_32 ?_
  refine lt_I hf (fun y3 hf => ?_)
  refine j_istore_n hK (L' := [(0, .int y3)]) dJ6_bitCount_0f7a4_33 rfl (by decide) rfl ?_
  refine j_iload_n hK dJ6_bitCount_0f7a4_34 0 rfl rfl ?_
  refine j_iload_n hK dJ6_bitCount_0f7a4_35 0 rfl rfl ?_
  refine j_bipush hK (8 : Int32) dJ6_bitCount_0f7a4_36 bi_8 ?_
  refine j_iushr hK dJ6_bitCount_0f7a4_38 ?_
  refine j_iadd hK dJ6_bitCount_0f7a4_39 ?_
  refine lt_I hf (fun y4 hf => ?_)
  refine j_istore_n hK (L' := [(0, .int y4)]) dJ6_bitCount_0f7a4_40 rfl (by decide) rfl ?_
  refine j_pc (pc' := 41) rfl ?_
  refine j_iload_n hK dJ6_bitCount_0f7a4_41 0 rfl rfl ?_
  refine j_iload_n hK dJ6_bitCount_0f7a4_42 0 rfl rfl ?_
  refine j_bipush hK (16 : Int32) dJ6_bitCount_0f7a4_43 bi_16 ?_
  refine j_iushr hK dJ6_bitCount_0f7a4_45 ?_
  refine j_iadd hK dJ6_bitCount_0f7a4_46 ?_
  refine lt_I hf (fun y5 hf => ?_)
  refine j_istore_n hK (L' := [(0, .int y5)]) dJ6_bitCount_0f7a4_47 rfl (by decide) rfl ?_
  refine j_iload_n hK dJ6_bitCount_0f7a4_48 0 rfl rfl ?_
  refine j_bipush hK (63 : Int32) dJ6_bitCount_0f7a4_49 bi_63 ?_
  refine j_pc (pc' := 51) rfl ?_
  refine j_iand hK dJ6_bitCount_0f7a4_51 ?_
  exact j_iret hK dJ6_bitCount_0f7a4_52 rfl (rt_I hA hf)
def f_X10_turnPassage (p1 : Int32) (S : St) : Option (Int32 × St) := bd (f_X0_has p1 S) (fun r1 S2 => (if r1 = 0 then some ((-1 : Int32), S2) else lt (sI S2 6 3 ((gI S2 6 3) ^^^ ((1 : Int32) <<< (p1 &&& 31)))) (fun S4 => bd (f_J6_bitCount_0f7a4 (gI S4 6 3) S4) (fun r5 S6 => some (r5, S6)))))
theorem c_X10_turnPassage {p1 : Int32} {S : St} {r : Int32} {S' : St} (hf : f_X10_turnPassage p1 S = some (r, S')) : zM yX10_turnPassage cX10_turnPassage 2 2 (some .int) [.ref 0, .int p1] S (some (.int r)) S' := by
  refine zM_of (zpl (by decide)) (Nat.le_of_ble_eq_true rfl) rfl (fun K hK hA => ?_)
  unfold f_X10_turnPassage at hf
  refine j_aload_n hK dX10_turnPassage_0 0 rfl rfl ?_
  refine j_getR hK fl_X10_19 dX10_turnPassage_1 zo_0 zf_10_1 zr_0_1 ?_
  refine j_iload_n hK dX10_turnPassage_4 1 rfl rfl ?_
  obtain ⟨r1, S2, h3, hf⟩ := bd_J hf
  refine k_callVi hK (c_X0_has h3) dX10_turnPassage_5 zclX0 zo_3 ml_X10_116 mi_X0_has mx_X0_has in_X0 mc_X0_has hy_X0_has ⟨by decide, by decide⟩ rfl (Nat.le_of_ble_eq_true rfl) ?_
  refine j_if_ne hK 13 dX10_turnPassage_8 (by decide) (fun hc => ?_) (fun hc => ?_)
  · replace hf := if_2 hc hf
    refine j_aload_n hK dX10_turnPassage_13 0 rfl rfl ?_
    refine j_getR hK fl_X10_19 dX10_turnPassage_14 zo_0 zf_10_1 zr_0_1 ?_
    refine j_getR hK fl_X10_129 dX10_turnPassage_17 zo_3 zf_0_3 zr_3_3 ?_
    refine j_dup hK dX10_turnPassage_20 rfl ?_
    refine j_getI hK fl_X10_260 dX10_turnPassage_21 zo_6 zf_7_3 ?_
    refine j_iconst hK (1 : Int32) dX10_turnPassage_24 ic_1 ?_
    refine j_iload_n hK dX10_turnPassage_25 1 rfl rfl ?_
    refine j_pc (pc' := 26) rfl ?_
    refine j_ishl hK dX10_turnPassage_26 ?_
    refine j_ixor hK dX10_turnPassage_27 ?_
    refine j_putI hK fl_X10_260 dX10_turnPassage_28 zo_6 zf_7_3 ?_
    refine lt_S hf (fun S4 hf => ?_)
    refine j_aload_n hK dX10_turnPassage_31 0 rfl rfl ?_
    refine j_getR hK fl_X10_19 dX10_turnPassage_32 zo_0 zf_10_1 zr_0_1 ?_
    refine j_getR hK fl_X10_129 dX10_turnPassage_35 zo_3 zf_0_3 zr_3_3 ?_
    refine j_getI hK fl_X10_260 dX10_turnPassage_38 zo_6 zf_7_3 ?_
    obtain ⟨r5, S6, h7, hf⟩ := bd_J hf
    refine k_callSi hK (c_J6_bitCount_0f7a4 h7) dX10_turnPassage_41 ml_X10_263 ms_J6_bitCount_0f7a4 in_J6 mc_J6_bitCount_0f7a4 hy_J6_bitCount_0f7a4 ⟨by decide, by decide⟩ rfl (Nat.le_of_ble_eq_true rfl) ?_
    refine j_pc (pc' := 44) rfl ?_
    exact j_iret hK dX10_turnPassage_44 rfl (rt_I hA hf)
  · replace hf := if_1 hc hf
    refine j_iconst hK (-1 : Int32) dX10_turnPassage_11 ic_m1 ?_
    exact j_iret hK dX10_turnPassage_12 rfl (rt_I hA hf)
def f_X10_falls_33 (x2 : Int32) (s1 : Int32) (S : St) : Option (Int32 × St) := bd (f_X4_settle s1 S) (fun r1 S2 => some (x2, S2))
theorem t_X10_falls_33 {K : CT} (hK : KO K cX10_falls RX10 3 3 (some .int)) {r : Int32} {S' : St} (hA : zans K (some (.int r), S')) {x2 : Int32} {s1 : Int32} {S : St} (hf : f_X10_falls_33 x2 s1 S = some (r, S')) : J K 33 [(2, .int x2)] [.int s1, .ref 12] S := by
  unfold f_X10_falls_33 at hf
  obtain ⟨r1, S2, h3, hf⟩ := bd_J hf
  refine k_callVv hK (c_X4_settle h3) dX10_falls_33 zclX4 zo_12 ml_X10_202 mi_X4_settle mx_X4_settle in_X4 mc_X4_settle hy_X4_settle ⟨by decide, by decide⟩ rfl (Nat.le_of_ble_eq_true rfl) ?_
  refine j_iload_n hK dX10_falls_36 0 rfl rfl ?_
  exact j_iret hK dX10_falls_37 rfl (rt_I hA hf)
def f_X10_falls (p1 : Int32) (S : St) : Option (Int32 × St) := bd (f_X4_mark S) (fun r4 S5 => bd (f_X10_turnPassage p1 S5) (fun r7 S8 => (if r7 < 0 then f_X10_falls_33 r7 (0 : Int32) S8 else f_X10_falls_33 r7 (1 : Int32) S8)))
theorem c_X10_falls {p1 : Int32} {S : St} {r : Int32} {S' : St} (hf : f_X10_falls p1 S = some (r, S')) : zM yX10_falls cX10_falls 3 3 (some .int) [.ref 0, .int p1] S (some (.int r)) S' := by
  refine zM_of (zpl (by decide)) (Nat.le_of_ble_eq_true rfl) rfl (fun K hK hA => ?_)
  unfold f_X10_falls at hf
  refine j_aload_n hK dX10_falls_0 0 rfl rfl ?_
  refine j_getR hK fl_X10_33 dX10_falls_1 zo_0 zf_10_3 zr_0_3 ?_
  refine j_aload_n hK dX10_falls_4 0 rfl rfl ?_
  refine j_getR hK fl_X10_19 dX10_falls_5 zo_0 zf_10_1 zr_0_1 ?_
  refine j_getR hK fl_X10_129 dX10_falls_8 zo_3 zf_0_3 zr_3_3 ?_
  obtain ⟨r4, S5, h6, hf⟩ := bd_J hf
  refine k_callVv hK (c_X4_mark h6) dX10_falls_11 zclX4 zo_12 ml_X10_181 mi_X4_mark mx_X4_mark in_X4 mc_X4_mark hy_X4_mark ⟨by decide, by decide⟩ rfl (Nat.le_of_ble_eq_true rfl) ?_
  refine j_aload_n hK dX10_falls_14 0 rfl rfl ?_
  refine j_iload_n hK dX10_falls_15 1 rfl rfl ?_
  refine j_pc (pc' := 16) rfl ?_
  obtain ⟨r7, S8, h9, hf⟩ := bd_J hf
  refine k_callVi hK (c_X10_turnPassage h9) dX10_falls_16 zclX10 zo_0 ml_X10_209 mi_X10_turnPassage mx_X10_turnPassage in_X10 mc_X10_turnPassage hy_X10_turnPassage ⟨by decide, by decide⟩ rfl (Nat.le_of_ble_eq_true rfl) ?_
  refine j_istore_n hK (L' := [(2, .int r7), (0, .ref 0), (1, .int p1)]) dX10_falls_19 rfl (by decide) rfl ?_
  refine j_aload_n hK dX10_falls_20 1 rfl rfl ?_
  refine j_getR hK fl_X10_33 dX10_falls_21 zo_0 zf_10_3 zr_0_3 ?_
  refine j_iload_n hK dX10_falls_24 0 rfl rfl ?_
  refine j_if_lt hK 32 dX10_falls_25 (by decide) (fun hc => ?_) (fun hc => ?_)
  · replace hf := if_1 hc hf
    refine j_iconst hK (0 : Int32) dX10_falls_32 ic_0 ?_
    refine j_sub [0] rfl ?_
    exact t_X10_falls_33 hK hA  hf
  · replace hf := if_2 hc hf
    refine j_iconst hK (1 : Int32) dX10_falls_28 ic_1 ?_
    refine j_goto hK 33 dX10_falls_29 (by decide) ?_
    refine j_sub [0] rfl ?_
    exact t_X10_falls_33 hK hA  hf
def f_X10_digPassage_77 (x1 : Int32) (x2 : Int32) (x3 : Int32) (x4 : Int32) (x5 : Int32) (S : St) : Option (Int32 × St) := if inb x1 12 then lt (sI S 7 x1.toNatClampNeg x2) (fun S2 => if inb x1 12 then lt (sI S2 8 x1.toNatClampNeg x3) (fun S4 => some ((((100 : Int32) + ((10 : Int32) * x4)) + x5), S4)) else none) else none
theorem t_X10_digPassage_77 {K : CT} (hK : KO K cX10_digPassage RX10 6 2 (some .int)) {r : Int32} {S' : St} (hA : zans K (some (.int r), S')) {x1 : Int32} {x2 : Int32} {x3 : Int32} {x4 : Int32} {x5 : Int32} {S : St} (hf : f_X10_digPassage_77 x1 x2 x3 x4 x5 S = some (r, S')) : J K 77 [(0, .ref 0), (1, .int x1), (2, .int x2), (3, .int x3), (4, .int x4), (5, .int x5)] [] S := by
  unfold f_X10_digPassage_77 at hf
  refine j_aload_n hK dX10_digPassage_77 0 rfl rfl ?_
  refine j_getR hK fl_X10_19 dX10_digPassage_78 zo_0 zf_10_1 zr_0_1 ?_
  refine j_getR hK fl_X10_129 dX10_digPassage_81 zo_3 zf_0_3 zr_3_3 ?_
  refine j_getR hK fl_X10_133 dX10_digPassage_84 zo_6 zf_7_0 zr_6_0 ?_
  refine j_iload_n hK dX10_digPassage_87 1 rfl rfl ?_
  refine j_iload_n hK dX10_digPassage_88 2 rfl rfl ?_
  obtain ⟨hi1, hf⟩ := gd hf
  refine k_iast hK dX10_digPassage_89 zb_7 hi1 rfl ?_
  refine lt_S hf (fun S2 hf => ?_)
  refine j_aload_n hK dX10_digPassage_90 0 rfl rfl ?_
  refine j_pc (pc' := 91) rfl ?_
  refine j_getR hK fl_X10_19 dX10_digPassage_91 zo_0 zf_10_1 zr_0_1 ?_
  refine j_getR hK fl_X10_129 dX10_digPassage_94 zo_3 zf_0_3 zr_3_3 ?_
  refine j_getR hK fl_X10_138 dX10_digPassage_97 zo_6 zf_7_1 zr_6_1 ?_
  refine j_iload_n hK dX10_digPassage_100 1 rfl rfl ?_
  refine j_iload_n hK dX10_digPassage_101 3 rfl rfl ?_
  obtain ⟨hi3, hf⟩ := gd hf
  refine k_iast hK dX10_digPassage_102 zb_8 hi3 rfl ?_
  refine lt_S hf (fun S4 hf => ?_)
  refine j_bipush hK (100 : Int32) dX10_digPassage_103 bi_100 ?_
  refine j_bipush hK (10 : Int32) dX10_digPassage_105 bi_10 ?_
  refine j_pc (pc' := 107) rfl ?_
  refine j_iload hK dX10_digPassage_107 4 rfl ?_
  refine j_imul hK dX10_digPassage_109 ?_
  refine j_iadd hK dX10_digPassage_110 ?_
  refine j_iload hK dX10_digPassage_111 5 rfl ?_
  refine j_iadd hK dX10_digPassage_113 ?_
  exact j_iret hK dX10_digPassage_114 rfl (rt_I hA hf)
def f_X10_digPassage (p1 : Int32) (p2 : Int32) (p3 : Int32) (S : St) : Option (Int32 × St) := bd (f_X0_has p1 S) (fun r5 S6 => (if r5 = 0 then some ((-1 : Int32), S6) else (if p2 < (1 : Int32) then some ((-1 : Int32), S6) else (if (9 : Int32) < p2 then some ((-1 : Int32), S6) else (if p3 < 0 then some ((-1 : Int32), S6) else (if p3 ≤ (9 : Int32) then if inb p1 12 then lt (gI S6 7 p1.toNatClampNeg) (fun y9 => if inb p1 12 then lt (gI S6 8 p1.toNatClampNeg) (fun y11 => (if y9 = p2 then (if y11 = p3 then some ((-2 : Int32), S6) else f_X10_digPassage_77 p1 p2 p3 y9 y11 S6) else f_X10_digPassage_77 p1 p2 p3 y9 y11 S6)) else none) else none else some ((-1 : Int32), S6)))))))
theorem c_X10_digPassage {p1 : Int32} {p2 : Int32} {p3 : Int32} {S : St} {r : Int32} {S' : St} (hf : f_X10_digPassage p1 p2 p3 S = some (r, S')) : zM yX10_digPassage cX10_digPassage 6 2 (some .int) [.ref 0, .int p1, .int p2, .int p3] S (some (.int r)) S' := by
  refine zM_of (zpl (by decide)) (Nat.le_of_ble_eq_true rfl) rfl (fun K hK hA => ?_)
  unfold f_X10_digPassage at hf
  refine j_aload_n hK dX10_digPassage_0 0 rfl rfl ?_
  refine j_getR hK fl_X10_19 dX10_digPassage_1 zo_0 zf_10_1 zr_0_1 ?_
  refine j_iload_n hK dX10_digPassage_4 1 rfl rfl ?_
  obtain ⟨r5, S6, h7, hf⟩ := bd_J hf
  refine k_callVi hK (c_X0_has h7) dX10_digPassage_5 zclX0 zo_3 ml_X10_116 mi_X0_has mx_X0_has in_X0 mc_X0_has hy_X0_has ⟨by decide, by decide⟩ rfl (Nat.le_of_ble_eq_true rfl) ?_
  refine j_if_eq hK 32 dX10_digPassage_8 (by decide) (fun hc => ?_) (fun hc => ?_)
  · replace hf := if_1 hc hf
    refine j_iconst hK (-1 : Int32) dX10_digPassage_32 ic_m1 ?_
    exact j_iret hK dX10_digPassage_33 rfl (rt_I hA hf)
  · replace hf := if_2 hc hf
    refine j_iload_n hK dX10_digPassage_11 2 rfl rfl ?_
    refine j_iconst hK (1 : Int32) dX10_digPassage_12 ic_1 ?_
    refine j_icmp_lt hK 32 dX10_digPassage_13 (by decide) (fun hc => ?_) (fun hc => ?_)
    · replace hf := if_1 hc hf
      refine j_iconst hK (-1 : Int32) dX10_digPassage_32 ic_m1 ?_
      exact j_iret hK dX10_digPassage_33 rfl (rt_I hA hf)
    · replace hf := if_2 hc hf
      refine j_iload_n hK dX10_digPassage_16 2 rfl rfl ?_
      refine j_bipush hK (9 : Int32) dX10_digPassage_17 bi_9 ?_
      refine j_icmp_gt hK 32 dX10_digPassage_19 (by decide) (fun hc => ?_) (fun hc => ?_)
      · replace hf := if_1 hc hf
        refine j_iconst hK (-1 : Int32) dX10_digPassage_32 ic_m1 ?_
        exact j_iret hK dX10_digPassage_33 rfl (rt_I hA hf)
      · replace hf := if_2 hc hf
        refine j_iload_n hK dX10_digPassage_22 3 rfl rfl ?_
        refine j_if_lt hK 32 dX10_digPassage_23 (by decide) (fun hc => ?_) (fun hc => ?_)
        · replace hf := if_1 hc hf
          refine j_iconst hK (-1 : Int32) dX10_digPassage_32 ic_m1 ?_
          exact j_iret hK dX10_digPassage_33 rfl (rt_I hA hf)
        · replace hf := if_2 hc hf
          refine j_iload_n hK dX10_digPassage_26 3 rfl rfl ?_
          refine j_bipush hK (9 : Int32) dX10_digPassage_27 bi_9 ?_
          refine j_icmp_le hK 34 dX10_digPassage_29 (by decide) (fun hc => ?_) (fun hc => ?_)
          · replace hf := if_1 hc hf
            refine j_aload_n hK dX10_digPassage_34 0 rfl rfl ?_
            refine j_getR hK fl_X10_19 dX10_digPassage_35 zo_0 zf_10_1 zr_0_1 ?_
            refine j_getR hK fl_X10_129 dX10_digPassage_38 zo_3 zf_0_3 zr_3_3 ?_
            refine j_getR hK fl_X10_133 dX10_digPassage_41 zo_6 zf_7_0 zr_6_0 ?_
            refine j_iload_n hK dX10_digPassage_44 1 rfl rfl ?_
            obtain ⟨hi8, hf⟩ := gd hf
            refine k_iald hK dX10_digPassage_45 zb_7 hi8 rfl ?_
            refine lt_I hf (fun y9 hf => ?_)
            refine j_istore hK (L' := [(4, .int y9), (0, .ref 0), (1, .int p1), (2, .int p2), (3, .int p3)]) dX10_digPassage_46 (by decide) rfl ?_
            refine j_pc (pc' := 48) rfl ?_
            refine j_aload_n hK dX10_digPassage_48 1 rfl rfl ?_
            refine j_getR hK fl_X10_19 dX10_digPassage_49 zo_0 zf_10_1 zr_0_1 ?_
            refine j_getR hK fl_X10_129 dX10_digPassage_52 zo_3 zf_0_3 zr_3_3 ?_
            refine j_getR hK fl_X10_138 dX10_digPassage_55 zo_6 zf_7_1 zr_6_1 ?_
            refine j_iload_n hK dX10_digPassage_58 2 rfl rfl ?_
            obtain ⟨hi10, hf⟩ := gd hf
            refine k_iald hK dX10_digPassage_59 zb_8 hi10 rfl ?_
            refine lt_I hf (fun y11 hf => ?_)
            refine j_istore hK (L' := [(5, .int y11), (4, .int y9), (0, .ref 0), (1, .int p1), (2, .int p2), (3, .int p3)]) dX10_digPassage_60 (by decide) rfl ?_
            refine j_iload hK dX10_digPassage_62 1 rfl ?_
            refine j_pc (pc' := 64) rfl ?_
            refine j_iload_n hK dX10_digPassage_64 4 rfl rfl ?_
            refine j_icmp_ne hK 77 dX10_digPassage_65 (by decide) (fun hc => ?_) (fun hc => ?_)
            · replace hf := if_2 hc hf
              refine j_sub [2, 3, 4, 5, 1, 0] rfl ?_
              exact t_X10_digPassage_77 hK hA  hf
            · replace hf := if_1 hc hf
              refine j_iload hK dX10_digPassage_68 0 rfl ?_
              refine j_iload_n hK dX10_digPassage_70 5 rfl rfl ?_
              refine j_icmp_ne hK 77 dX10_digPassage_71 (by decide) (fun hc => ?_) (fun hc => ?_)
              · replace hf := if_2 hc hf
                refine j_sub [2, 3, 4, 5, 1, 0] rfl ?_
                exact t_X10_digPassage_77 hK hA  hf
              · replace hf := if_1 hc hf
                refine j_bipush hK (-2 : Int32) dX10_digPassage_74 bi_m2 ?_
                exact j_iret hK dX10_digPassage_76 rfl (rt_I hA hf)
          · replace hf := if_2 hc hf
            refine j_iconst hK (-1 : Int32) dX10_digPassage_32 ic_m1 ?_
            exact j_iret hK dX10_digPassage_33 rfl (rt_I hA hf)
def f_X10_digs_37 (x4 : Int32) (s1 : Int32) (S : St) : Option (Int32 × St) := bd (f_X4_settle s1 S) (fun r1 S2 => some (x4, S2))
theorem t_X10_digs_37 {K : CT} (hK : KO K cX10_digs RX10 5 3 (some .int)) {r : Int32} {S' : St} (hA : zans K (some (.int r), S')) {x4 : Int32} {s1 : Int32} {S : St} (hf : f_X10_digs_37 x4 s1 S = some (r, S')) : J K 37 [(4, .int x4)] [.int s1, .ref 12] S := by
  unfold f_X10_digs_37 at hf
  obtain ⟨r1, S2, h3, hf⟩ := bd_J hf
  refine k_callVv hK (c_X4_settle h3) dX10_digs_37 zclX4 zo_12 ml_X10_202 mi_X4_settle mx_X4_settle in_X4 mc_X4_settle hy_X4_settle ⟨by decide, by decide⟩ rfl (Nat.le_of_ble_eq_true rfl) ?_
  refine j_iload hK dX10_digs_40 0 rfl ?_
  exact j_iret hK dX10_digs_42 rfl (rt_I hA hf)
def f_X10_digs (p1 : Int32) (p2 : Int32) (p3 : Int32) (S : St) : Option (Int32 × St) := bd (f_X4_mark S) (fun r4 S5 => bd (f_X10_digPassage p1 p2 p3 S5) (fun r7 S8 => (if r7 < 0 then f_X10_digs_37 r7 (0 : Int32) S8 else f_X10_digs_37 r7 (1 : Int32) S8)))
theorem c_X10_digs {p1 : Int32} {p2 : Int32} {p3 : Int32} {S : St} {r : Int32} {S' : St} (hf : f_X10_digs p1 p2 p3 S = some (r, S')) : zM yX10_digs cX10_digs 5 3 (some .int) [.ref 0, .int p1, .int p2, .int p3] S (some (.int r)) S' := by
  refine zM_of (zpl (by decide)) (Nat.le_of_ble_eq_true rfl) rfl (fun K hK hA => ?_)
  unfold f_X10_digs at hf
  refine j_aload_n hK dX10_digs_0 0 rfl rfl ?_
  refine j_getR hK fl_X10_33 dX10_digs_1 zo_0 zf_10_3 zr_0_3 ?_
  refine j_aload_n hK dX10_digs_4 0 rfl rfl ?_
  refine j_getR hK fl_X10_19 dX10_digs_5 zo_0 zf_10_1 zr_0_1 ?_
  refine j_getR hK fl_X10_129 dX10_digs_8 zo_3 zf_0_3 zr_3_3 ?_
  obtain ⟨r4, S5, h6, hf⟩ := bd_J hf
  refine k_callVv hK (c_X4_mark h6) dX10_digs_11 zclX4 zo_12 ml_X10_181 mi_X4_mark mx_X4_mark in_X4 mc_X4_mark hy_X4_mark ⟨by decide, by decide⟩ rfl (Nat.le_of_ble_eq_true rfl) ?_
  refine j_aload_n hK dX10_digs_14 0 rfl rfl ?_
  refine j_iload_n hK dX10_digs_15 1 rfl rfl ?_
  refine j_pc (pc' := 16) rfl ?_
  refine j_iload_n hK dX10_digs_16 2 rfl rfl ?_
  refine j_iload_n hK dX10_digs_17 3 rfl rfl ?_
  obtain ⟨r7, S8, h9, hf⟩ := bd_J hf
  refine k_callVi hK (c_X10_digPassage h9) dX10_digs_18 zclX10 zo_0 ml_X10_212 mi_X10_digPassage mx_X10_digPassage in_X10 mc_X10_digPassage hy_X10_digPassage ⟨by decide, by decide⟩ rfl (Nat.le_of_ble_eq_true rfl) ?_
  refine j_istore hK (L' := [(4, .int r7), (0, .ref 0), (1, .int p1), (2, .int p2), (3, .int p3)]) dX10_digs_21 (by decide) rfl ?_
  refine j_aload_n hK dX10_digs_23 1 rfl rfl ?_
  refine j_getR hK fl_X10_33 dX10_digs_24 zo_0 zf_10_3 zr_0_3 ?_
  refine j_iload hK dX10_digs_27 0 rfl ?_
  refine j_if_lt hK 36 dX10_digs_29 (by decide) (fun hc => ?_) (fun hc => ?_)
  · replace hf := if_1 hc hf
    refine j_iconst hK (0 : Int32) dX10_digs_36 ic_0 ?_
    refine j_sub [0] rfl ?_
    exact t_X10_digs_37 hK hA  hf
  · replace hf := if_2 hc hf
    refine j_iconst hK (1 : Int32) dX10_digs_32 ic_1 ?_
    refine j_goto hK 37 dX10_digs_33 (by decide) ?_
    refine j_sub [0] rfl ?_
    exact t_X10_digs_37 hK hA  hf
def f_X8_digitsOfAct (p1 : Int32) (S : St) : Option (Int32 × St) := bd (f_X8_within p1 (110 : Int32) (110 : Int32) S) (fun r1 S2 => (if r1 = 0 then bd (f_X8_within p1 (120 : Int32) (120 : Int32) S2) (fun r4 S5 => (if r4 = 0 then bd (f_X8_within p1 (115 : Int32) (115 : Int32) S5) (fun r7 S8 => (if r7 = 0 then bd (f_X8_within p1 (109 : Int32) (109 : Int32) S8) (fun r10 S11 => (if r10 = 0 then some ((0 : Int32), S11) else some ((3 : Int32), S11))) else some ((2 : Int32), S8))) else some ((1 : Int32), S5))) else some ((1 : Int32), S2)))
theorem c_X8_digitsOfAct {p1 : Int32} {S : St} {r : Int32} {S' : St} (hf : f_X8_digitsOfAct p1 S = some (r, S')) : zM yX8_digitsOfAct cX8_digitsOfAct 2 2 (some .int) [.ref 1, .int p1] S (some (.int r)) S' := by
  refine zM_of (zpl (by decide)) (Nat.le_of_ble_eq_true rfl) rfl (fun K hK hA => ?_)
  unfold f_X8_digitsOfAct at hf
  refine j_aload_n hK dX8_digitsOfAct_0 0 rfl rfl ?_
  refine j_iload_n hK dX8_digitsOfAct_1 1 rfl rfl ?_
  refine j_bipush hK (110 : Int32) dX8_digitsOfAct_2 bi_110 ?_
  refine j_bipush hK (110 : Int32) dX8_digitsOfAct_4 bi_110 ?_
  obtain ⟨r1, S2, h3, hf⟩ := bd_J hf
  refine k_callVi hK (c_X8_within h3) dX8_digitsOfAct_6 zclX8 zo_1 ml_X8_19 mi_X8_within mx_X8_within in_X8 mc_X8_within hy_X8_within ⟨by decide, by decide⟩ rfl (Nat.le_of_ble_eq_true rfl) ?_
  refine j_if_ne hK 24 dX8_digitsOfAct_9 (by decide) (fun hc => ?_) (fun hc => ?_)
  · replace hf := if_2 hc hf
    refine j_iconst hK (1 : Int32) dX8_digitsOfAct_24 ic_1 ?_
    exact j_iret hK dX8_digitsOfAct_25 rfl (rt_I hA hf)
  · replace hf := if_1 hc hf
    refine j_aload_n hK dX8_digitsOfAct_12 0 rfl rfl ?_
    refine j_iload_n hK dX8_digitsOfAct_13 1 rfl rfl ?_
    refine j_bipush hK (120 : Int32) dX8_digitsOfAct_14 bi_120 ?_
    refine j_bipush hK (120 : Int32) dX8_digitsOfAct_16 bi_120 ?_
    obtain ⟨r4, S5, h6, hf⟩ := bd_J hf
    refine k_callVi hK (c_X8_within h6) dX8_digitsOfAct_18 zclX8 zo_1 ml_X8_19 mi_X8_within mx_X8_within in_X8 mc_X8_within hy_X8_within ⟨by decide, by decide⟩ rfl (Nat.le_of_ble_eq_true rfl) ?_
    refine j_if_eq hK 26 dX8_digitsOfAct_21 (by decide) (fun hc => ?_) (fun hc => ?_)
    · replace hf := if_1 hc hf
      refine j_aload_n hK dX8_digitsOfAct_26 0 rfl rfl ?_
      refine j_iload_n hK dX8_digitsOfAct_27 1 rfl rfl ?_
      refine j_bipush hK (115 : Int32) dX8_digitsOfAct_28 bi_115 ?_
      refine j_bipush hK (115 : Int32) dX8_digitsOfAct_30 bi_115 ?_
      obtain ⟨r7, S8, h9, hf⟩ := bd_J hf
      refine k_callVi hK (c_X8_within h9) dX8_digitsOfAct_32 zclX8 zo_1 ml_X8_19 mi_X8_within mx_X8_within in_X8 mc_X8_within hy_X8_within ⟨by decide, by decide⟩ rfl (Nat.le_of_ble_eq_true rfl) ?_
      refine j_if_eq hK 40 dX8_digitsOfAct_35 (by decide) (fun hc => ?_) (fun hc => ?_)
      · replace hf := if_1 hc hf
        refine j_aload_n hK dX8_digitsOfAct_40 0 rfl rfl ?_
        refine j_iload_n hK dX8_digitsOfAct_41 1 rfl rfl ?_
        refine j_bipush hK (109 : Int32) dX8_digitsOfAct_42 bi_109 ?_
        refine j_bipush hK (109 : Int32) dX8_digitsOfAct_44 bi_109 ?_
        obtain ⟨r10, S11, h12, hf⟩ := bd_J hf
        refine k_callVi hK (c_X8_within h12) dX8_digitsOfAct_46 zclX8 zo_1 ml_X8_19 mi_X8_within mx_X8_within in_X8 mc_X8_within hy_X8_within ⟨by decide, by decide⟩ rfl (Nat.le_of_ble_eq_true rfl) ?_
        refine j_if_eq hK 56 dX8_digitsOfAct_49 (by decide) (fun hc => ?_) (fun hc => ?_)
        · replace hf := if_1 hc hf
          refine j_iconst hK (0 : Int32) dX8_digitsOfAct_56 ic_0 ?_
          exact j_iret hK dX8_digitsOfAct_57 rfl (rt_I hA hf)
        · replace hf := if_2 hc hf
          refine j_iconst hK (3 : Int32) dX8_digitsOfAct_52 ic_3 ?_
          refine j_goto hK 57 dX8_digitsOfAct_53 (by decide) ?_
          exact j_iret hK dX8_digitsOfAct_57 rfl (rt_I hA hf)
      · replace hf := if_2 hc hf
        refine j_iconst hK (2 : Int32) dX8_digitsOfAct_38 ic_2 ?_
        exact j_iret hK dX8_digitsOfAct_39 rfl (rt_I hA hf)
    · replace hf := if_2 hc hf
      refine j_iconst hK (1 : Int32) dX8_digitsOfAct_24 ic_1 ?_
      exact j_iret hK dX8_digitsOfAct_25 rfl (rt_I hA hf)
def f_X8_faultOfSeason_154 (x1 : Int32) (S : St) : Option (Int32 × St) := some (x1, S)
theorem t_X8_faultOfSeason_154 {K : CT} (hK : KO K cX8_faultOfSeason RX8 5 3 (some .int)) {r : Int32} {S' : St} (hA : zans K (some (.int r), S')) {x1 : Int32} {S : St} (hf : f_X8_faultOfSeason_154 x1 S = some (r, S')) : J K 154 [(1, .int x1)] [] S := by
  unfold f_X8_faultOfSeason_154 at hf
  refine j_iload_n hK dX8_faultOfSeason_154 0 rfl rfl ?_
  refine j_goto hK 159 dX8_faultOfSeason_155 (by decide) ?_
  exact j_iret hK dX8_faultOfSeason_159 rfl (rt_I hA hf)
def f_X8_faultOfSeason_138 (x1 : Int32) (s0 : Int32) (S : St) : Option (Int32 × St) := (if s0 = 0 then (if (gI S 1 1) ≤ (60 : Int32) then some ((-1 : Int32), S) else f_X8_faultOfSeason_154 x1 S) else f_X8_faultOfSeason_154 x1 S)
theorem t_X8_faultOfSeason_138 {K : CT} (hK : KO K cX8_faultOfSeason RX8 5 3 (some .int)) {r : Int32} {S' : St} (hA : zans K (some (.int r), S')) {x1 : Int32} {s0 : Int32} {S : St} (hf : f_X8_faultOfSeason_138 x1 s0 S = some (r, S')) : J K 138 [(0, .ref 1), (1, .int x1)] [.int s0] S := by
  unfold f_X8_faultOfSeason_138 at hf
  refine j_istore hK (L' := [(4, .int s0), (0, .ref 1), (1, .int x1)]) dX8_faultOfSeason_138 (by decide) rfl ?_
  refine j_iload hK dX8_faultOfSeason_140 0 rfl ?_
  refine j_if_ne hK 154 dX8_faultOfSeason_142 (by decide) (fun hc => ?_) (fun hc => ?_)
  · replace hf := if_2 hc hf
    refine j_sub [2] rfl ?_
    exact t_X8_faultOfSeason_154 hK hA  hf
  · replace hf := if_1 hc hf
    refine j_aload_n hK dX8_faultOfSeason_145 1 rfl rfl ?_
    refine j_getI hK fl_X8_15 dX8_faultOfSeason_146 zo_1 zf_8_1 ?_
    refine j_bipush hK (60 : Int32) dX8_faultOfSeason_149 bi_60 ?_
    refine j_icmp_le hK 158 dX8_faultOfSeason_151 (by decide) (fun hc => ?_) (fun hc => ?_)
    · replace hf := if_1 hc hf
      refine j_iconst hK (-1 : Int32) dX8_faultOfSeason_158 ic_m1 ?_
      exact j_iret hK dX8_faultOfSeason_159 rfl (rt_I hA hf)
    · replace hf := if_2 hc hf
      refine j_sub [2] rfl ?_
      exact t_X8_faultOfSeason_154 hK hA  hf
def f_X8_faultOfSeason_133 (x1 : Int32) (S : St) : Option (Int32 × St) := f_X8_faultOfSeason_138 x1 (1 : Int32) S
theorem t_X8_faultOfSeason_133 {K : CT} (hK : KO K cX8_faultOfSeason RX8 5 3 (some .int)) {r : Int32} {S' : St} (hA : zans K (some (.int r), S')) {x1 : Int32} {S : St} (hf : f_X8_faultOfSeason_133 x1 S = some (r, S')) : J K 133 [(0, .ref 1), (1, .int x1)] [] S := by
  unfold f_X8_faultOfSeason_133 at hf
  refine j_iconst hK (1 : Int32) dX8_faultOfSeason_133 ic_1 ?_
  refine j_goto hK 138 dX8_faultOfSeason_134 (by decide) ?_
  exact t_X8_faultOfSeason_138 hK hA  hf
def f_X8_faultOfSeason_119 (x1 : Int32) (x2 : Int32) (x3 : Int32) (x4 : Int32) (k e : Int32 × Int32 × Int32 → St → Option (Int32 × St)) (S : St) : Option (Int32 × St) := k (x2, x3, (x4 + (1 : Int32))) S
theorem t_X8_faultOfSeason_119 {K : CT} (hK : KO K cX8_faultOfSeason RX8 5 3 (some .int)) {r : Int32} {S' : St} (hA : zans K (some (.int r), S')) {x1 : Int32} {x2 : Int32} {x3 : Int32} {x4 : Int32} {k e : Int32 × Int32 × Int32 → St → Option (Int32 × St)} (hk : ∀ (v : Int32 × Int32 × Int32) (S : St), k v S = some (r, S') → J K 17 [(0, .ref 1), (1, .int x1), (2, .int v.1), (3, .int v.2.1), (4, .int v.2.2)] [] S) (he : ∀ (v : Int32 × Int32 × Int32) (S : St), e v S = some (r, S') → J K 125 [(0, .ref 1), (1, .int x1), (2, .int v.1), (3, .int v.2.1)] [] S) {S : St} (hf : f_X8_faultOfSeason_119 x1 x2 x3 x4 k e S = some (r, S')) : J K 119 [(0, .ref 1), (1, .int x1), (2, .int x2), (3, .int x3), (4, .int x4)] [] S := by
  unfold f_X8_faultOfSeason_119 at hf
  refine j_iinc hK (L' := [(4, .int (x4 + (1 : Int32))), (0, .ref 1), (1, .int x1), (2, .int x2), (3, .int x3)]) dX8_faultOfSeason_119 4 rfl (congrArg (fun y => x4 + y) ic_1) (by decide) rfl ?_
  refine j_goto hK 17 dX8_faultOfSeason_122 (by decide) ?_
  refine j_sub [1, 2, 3, 4, 0] rfl ?_
  exact hk _ _ hf
def f_X8_faultOfSeason_118 (x1 : Int32) (x2 : Int32) (x4 : Int32) (s0 : Int32) (k e : Int32 × Int32 × Int32 → St → Option (Int32 × St)) (S : St) : Option (Int32 × St) := f_X8_faultOfSeason_119 x1 x2 s0 x4 k e S
theorem t_X8_faultOfSeason_118 {K : CT} (hK : KO K cX8_faultOfSeason RX8 5 3 (some .int)) {r : Int32} {S' : St} (hA : zans K (some (.int r), S')) {x1 : Int32} {x2 : Int32} {x4 : Int32} {s0 : Int32} {k e : Int32 × Int32 × Int32 → St → Option (Int32 × St)} (hk : ∀ (v : Int32 × Int32 × Int32) (S : St), k v S = some (r, S') → J K 17 [(0, .ref 1), (1, .int x1), (2, .int v.1), (3, .int v.2.1), (4, .int v.2.2)] [] S) (he : ∀ (v : Int32 × Int32 × Int32) (S : St), e v S = some (r, S') → J K 125 [(0, .ref 1), (1, .int x1), (2, .int v.1), (3, .int v.2.1)] [] S) {S : St} (hf : f_X8_faultOfSeason_118 x1 x2 x4 s0 k e S = some (r, S')) : J K 118 [(0, .ref 1), (1, .int x1), (2, .int x2), (4, .int x4)] [.int s0] S := by
  unfold f_X8_faultOfSeason_118 at hf
  refine j_istore_n hK (L' := [(3, .int s0), (0, .ref 1), (1, .int x1), (2, .int x2), (4, .int x4)]) dX8_faultOfSeason_118 rfl (by decide) rfl ?_
  refine j_sub [1, 2, 3, 0, 4] rfl ?_
  exact t_X8_faultOfSeason_119 hK hA hk he hf
def f_X8_faultOfSeason_82 (x1 : Int32) (x3 : Int32) (x4 : Int32) (k e : Int32 × Int32 × Int32 → St → Option (Int32 × St)) (S : St) : Option (Int32 × St) := bd (f_X8_digitsOfAct x4 S) (fun r1 S2 => (if r1 = 0 then some (x4, S2) else (if x3 = 0 then some (x4, S2) else bd (f_X8_within x4 (115 : Int32) (115 : Int32) S2) (fun r4 S5 => (if r4 = 0 then f_X8_faultOfSeason_118 x1 r1 x4 (-1 : Int32) k e S5 else f_X8_faultOfSeason_118 x1 r1 x4 (0 : Int32) k e S5)))))
theorem t_X8_faultOfSeason_82 {K : CT} (hK : KO K cX8_faultOfSeason RX8 5 3 (some .int)) {r : Int32} {S' : St} (hA : zans K (some (.int r), S')) {x1 : Int32} {x3 : Int32} {x4 : Int32} {k e : Int32 × Int32 × Int32 → St → Option (Int32 × St)} (hk : ∀ (v : Int32 × Int32 × Int32) (S : St), k v S = some (r, S') → J K 17 [(0, .ref 1), (1, .int x1), (2, .int v.1), (3, .int v.2.1), (4, .int v.2.2)] [] S) (he : ∀ (v : Int32 × Int32 × Int32) (S : St), e v S = some (r, S') → J K 125 [(0, .ref 1), (1, .int x1), (2, .int v.1), (3, .int v.2.1)] [] S) {S : St} (hf : f_X8_faultOfSeason_82 x1 x3 x4 k e S = some (r, S')) : J K 82 [(0, .ref 1), (1, .int x1), (3, .int x3), (4, .int x4)] [] S := by
  unfold f_X8_faultOfSeason_82 at hf
  refine j_aload_n hK dX8_faultOfSeason_82 0 rfl rfl ?_
  refine j_iload hK dX8_faultOfSeason_83 3 rfl ?_
  obtain ⟨r1, S2, h3, hf⟩ := bd_J hf
  refine k_callVi hK (c_X8_digitsOfAct h3) dX8_faultOfSeason_85 zclX8 zo_1 ml_X8_40 mi_X8_digitsOfAct mx_X8_digitsOfAct in_X8 mc_X8_digitsOfAct hy_X8_digitsOfAct ⟨by decide, by decide⟩ rfl (Nat.le_of_ble_eq_true rfl) ?_
  refine j_istore_n hK (L' := [(2, .int r1), (0, .ref 1), (1, .int x1), (3, .int x3), (4, .int x4)]) dX8_faultOfSeason_88 rfl (by decide) rfl ?_
  refine j_iload_n hK dX8_faultOfSeason_89 0 rfl rfl ?_
  refine j_if_eq hK 97 dX8_faultOfSeason_90 (by decide) (fun hc => ?_) (fun hc => ?_)
  · replace hf := if_1 hc hf
    refine j_iload hK dX8_faultOfSeason_97 4 rfl ?_
    exact j_iret hK dX8_faultOfSeason_99 rfl (rt_I hA hf)
  · replace hf := if_2 hc hf
    refine j_iload_n hK dX8_faultOfSeason_93 3 rfl rfl ?_
    refine j_if_ne hK 100 dX8_faultOfSeason_94 (by decide) (fun hc => ?_) (fun hc => ?_)
    · replace hf := if_2 hc hf
      refine j_aload_n hK dX8_faultOfSeason_100 1 rfl rfl ?_
      refine j_iload hK dX8_faultOfSeason_101 4 rfl ?_
      refine j_bipush hK (115 : Int32) dX8_faultOfSeason_103 bi_115 ?_
      refine j_bipush hK (115 : Int32) dX8_faultOfSeason_105 bi_115 ?_
      obtain ⟨r4, S5, h6, hf⟩ := bd_J hf
      refine k_callVi hK (c_X8_within h6) dX8_faultOfSeason_107 zclX8 zo_1 ml_X8_19 mi_X8_within mx_X8_within in_X8 mc_X8_within hy_X8_within ⟨by decide, by decide⟩ rfl (Nat.le_of_ble_eq_true rfl) ?_
      refine j_if_eq hK 117 dX8_faultOfSeason_110 (by decide) (fun hc => ?_) (fun hc => ?_)
      · replace hf := if_1 hc hf
        refine j_iconst hK (-1 : Int32) dX8_faultOfSeason_117 ic_m1 ?_
        refine j_sub [1, 2, 0, 4] rfl ?_
        exact t_X8_faultOfSeason_118 hK hA hk he hf
      · replace hf := if_2 hc hf
        refine j_iconst hK (0 : Int32) dX8_faultOfSeason_113 ic_0 ?_
        refine j_goto hK 118 dX8_faultOfSeason_114 (by decide) ?_
        refine j_sub [1, 2, 0, 4] rfl ?_
        exact t_X8_faultOfSeason_118 hK hA hk he hf
    · replace hf := if_1 hc hf
      refine j_iload hK dX8_faultOfSeason_97 4 rfl ?_
      exact j_iret hK dX8_faultOfSeason_99 rfl (rt_I hA hf)
def f_X8_faultOfSeason_17b (x1 : Int32) (e : Int32 × Int32 × Int32 → St → Option (Int32 × St)) (k : Int32 × Int32 × Int32 → St → Option (Int32 × St)) (v : Int32 × Int32 × Int32) (S : St) : Option (Int32 × St) := (if x1 ≤ v.2.2 then e (v.1, v.2.1, v.2.2) S else (if v.1 ≤ 0 then (if v.2.1 = (-1 : Int32) then f_X8_faultOfSeason_82 x1 v.2.1 v.2.2 k e S else bd (f_X8_within v.2.2 (97 : Int32) (104 : Int32) S) (fun r7 S8 => (if r7 = 0 then f_X8_faultOfSeason_82 x1 v.2.1 v.2.2 k e S8 else (if v.2.1 = (6 : Int32) then some (v.2.2, S8) else f_X8_faultOfSeason_119 x1 v.1 (v.2.1 + (1 : Int32)) v.2.2 k e S8)))) else bd (f_X8_within v.2.2 (48 : Int32) (57 : Int32) S) (fun r10 S11 => (if r10 = 0 then some (v.2.2, S11) else f_X8_faultOfSeason_119 x1 (v.1 + (-1 : Int32)) v.2.1 v.2.2 k e S11))))
theorem t_X8_faultOfSeason_17 {K : CT} (hK : KO K cX8_faultOfSeason RX8 5 3 (some .int)) {r : Int32} {S' : St} (hA : zans K (some (.int r), S')) {x1 : Int32} {e : Int32 × Int32 × Int32 → St → Option (Int32 × St)} (he : ∀ (v : Int32 × Int32 × Int32) (S : St), e v S = some (r, S') → J K 125 [(0, .ref 1), (1, .int x1), (2, .int v.1), (3, .int v.2.1)] [] S) : ∀ (n : Nat) (v : Int32 × Int32 × Int32) (S : St), lp (f_X8_faultOfSeason_17b x1 e) n v S = some (r, S') → J K 17 [(0, .ref 1), (1, .int x1), (2, .int v.1), (3, .int v.2.1), (4, .int v.2.2)] [] S :=
  lp_J (P := fun (v : Int32 × Int32 × Int32) (S : St) => J K 17 [(0, .ref 1), (1, .int x1), (2, .int v.1), (3, .int v.2.1), (4, .int v.2.2)] [] S) (fun k hk v S hf => by
    unfold f_X8_faultOfSeason_17b at hf
    refine j_iload hK dX8_faultOfSeason_17 4 rfl ?_
    refine j_iload_n hK dX8_faultOfSeason_19 1 rfl rfl ?_
    refine j_icmp_ge hK 125 dX8_faultOfSeason_20 (by decide) (fun hc => ?_) (fun hc => ?_)
    · replace hf := if_1 hc hf
      refine j_sub [0, 1, 2, 3] rfl ?_
      exact he _ _ hf
    · replace hf := if_2 hc hf
      refine j_iload_n hK dX8_faultOfSeason_23 2 rfl rfl ?_
      refine j_if_le hK 49 dX8_faultOfSeason_24 (by decide) (fun hc => ?_) (fun hc => ?_)
      · replace hf := if_1 hc hf
        refine j_iload_n hK dX8_faultOfSeason_49 3 rfl rfl ?_
        refine j_iconst hK (-1 : Int32) dX8_faultOfSeason_50 ic_m1 ?_
        refine j_icmp_eq hK 82 dX8_faultOfSeason_51 (by decide) (fun hc => ?_) (fun hc => ?_)
        · replace hf := if_1 hc hf
          refine j_sub [0, 1, 3, 4] rfl ?_
          exact t_X8_faultOfSeason_82 hK hA hk he hf
        · replace hf := if_2 hc hf
          refine j_aload_n hK dX8_faultOfSeason_54 0 rfl rfl ?_
          refine j_iload hK dX8_faultOfSeason_55 4 rfl ?_
          refine j_bipush hK (97 : Int32) dX8_faultOfSeason_57 bi_97 ?_
          refine j_bipush hK (104 : Int32) dX8_faultOfSeason_59 bi_104 ?_
          obtain ⟨r7, S8, h9, hf⟩ := bd_J hf
          refine k_callVi hK (c_X8_within h9) dX8_faultOfSeason_61 zclX8 zo_1 ml_X8_19 mi_X8_within mx_X8_within in_X8 mc_X8_within hy_X8_within ⟨by decide, by decide⟩ rfl (Nat.le_of_ble_eq_true rfl) ?_
          refine j_if_eq hK 82 dX8_faultOfSeason_64 (by decide) (fun hc => ?_) (fun hc => ?_)
          · replace hf := if_1 hc hf
            refine j_sub [0, 1, 3, 4] rfl ?_
            exact t_X8_faultOfSeason_82 hK hA hk he hf
          · replace hf := if_2 hc hf
            refine j_iload_n hK dX8_faultOfSeason_67 3 rfl rfl ?_
            refine j_bipush hK (6 : Int32) dX8_faultOfSeason_68 bi_6 ?_
            refine j_icmp_ne hK 76 dX8_faultOfSeason_70 (by decide) (fun hc => ?_) (fun hc => ?_)
            · replace hf := if_2 hc hf
              refine j_iinc hK (L' := [(3, .int (v.2.1 + (1 : Int32))), (0, .ref 1), (1, .int x1), (2, .int v.1), (4, .int v.2.2)]) dX8_faultOfSeason_76 3 rfl (congrArg (fun y => v.2.1 + y) ic_1) (by decide) rfl ?_
              refine j_goto hK 119 dX8_faultOfSeason_79 (by decide) ?_
              refine j_sub [1, 2, 3, 0, 4] rfl ?_
              exact t_X8_faultOfSeason_119 hK hA hk he hf
            · replace hf := if_1 hc hf
              refine j_iload hK dX8_faultOfSeason_73 4 rfl ?_
              exact j_iret hK dX8_faultOfSeason_75 rfl (rt_I hA hf)
      · replace hf := if_2 hc hf
        refine j_aload_n hK dX8_faultOfSeason_27 0 rfl rfl ?_
        refine j_iload hK dX8_faultOfSeason_28 4 rfl ?_
        refine j_bipush hK (48 : Int32) dX8_faultOfSeason_30 bi_48 ?_
        refine j_bipush hK (57 : Int32) dX8_faultOfSeason_32 bi_57 ?_
        obtain ⟨r10, S11, h12, hf⟩ := bd_J hf
        refine k_callVi hK (c_X8_within h12) dX8_faultOfSeason_34 zclX8 zo_1 ml_X8_19 mi_X8_within mx_X8_within in_X8 mc_X8_within hy_X8_within ⟨by decide, by decide⟩ rfl (Nat.le_of_ble_eq_true rfl) ?_
        refine j_if_ne hK 43 dX8_faultOfSeason_37 (by decide) (fun hc => ?_) (fun hc => ?_)
        · replace hf := if_2 hc hf
          refine j_iinc hK (L' := [(2, .int (v.1 + (-1 : Int32))), (0, .ref 1), (1, .int x1), (3, .int v.2.1), (4, .int v.2.2)]) dX8_faultOfSeason_43 2 rfl (congrArg (fun y => v.1 + y) ic_m1) (by decide) rfl ?_
          refine j_goto hK 119 dX8_faultOfSeason_46 (by decide) ?_
          refine j_sub [1, 2, 0, 3, 4] rfl ?_
          exact t_X8_faultOfSeason_119 hK hA hk he hf
        · replace hf := if_1 hc hf
          refine j_iload hK dX8_faultOfSeason_40 4 rfl ?_
          exact j_iret hK dX8_faultOfSeason_42 rfl (rt_I hA hf))
def f_X8_faultOfSeason (S : St) : Option (Int32 × St) := lt (mnI (gI S 1 1) (60 : Int32)) (fun y13 => lp (f_X8_faultOfSeason_17b y13 (fun v14 S15 => (if 0 < v14.1 then f_X8_faultOfSeason_133 y13 S15 else (if v14.2.1 = 0 then f_X8_faultOfSeason_133 y13 S15 else f_X8_faultOfSeason_138 y13 (0 : Int32) S15)))) FU ((0 : Int32), (-1 : Int32), (0 : Int32)) S)
theorem c_X8_faultOfSeason {S : St} {r : Int32} {S' : St} (hf : f_X8_faultOfSeason S = some (r, S')) : zM yX8_faultOfSeason cX8_faultOfSeason 5 3 (some .int) [.ref 1] S (some (.int r)) S' := by
  refine zM_of (zpl (by decide)) (Nat.le_of_ble_eq_true rfl) rfl (fun K hK hA => ?_)
  unfold f_X8_faultOfSeason at hf
  refine j_aload_n hK dX8_faultOfSeason_0 0 rfl rfl ?_
  refine j_getI hK fl_X8_15 dX8_faultOfSeason_1 zo_1 zf_8_1 ?_
  refine j_bipush hK (60 : Int32) dX8_faultOfSeason_4 bi_60 ?_
  refine j_min hK ml_X8_23 dX8_faultOfSeason_6 (by decide) (Nat.le_of_ble_eq_true rfl) ?_
  refine lt_I hf (fun y13 hf => ?_)
  refine j_istore_n hK (L' := [(1, .int y13), (0, .ref 1)]) dX8_faultOfSeason_9 rfl (by decide) rfl ?_
  refine j_iconst hK (0 : Int32) dX8_faultOfSeason_10 ic_0 ?_
  refine j_istore_n hK (L' := [(2, .int (0 : Int32)), (1, .int y13), (0, .ref 1)]) dX8_faultOfSeason_11 rfl (by decide) rfl ?_
  refine j_iconst hK (-1 : Int32) dX8_faultOfSeason_12 ic_m1 ?_
  refine j_pc (pc' := 13) rfl ?_
  refine j_istore_n hK (L' := [(3, .int (-1 : Int32)), (2, .int (0 : Int32)), (1, .int y13), (0, .ref 1)]) dX8_faultOfSeason_13 rfl (by decide) rfl ?_
  refine j_iconst hK (0 : Int32) dX8_faultOfSeason_14 ic_0 ?_
  refine j_istore hK (L' := [(4, .int (0 : Int32)), (3, .int (-1 : Int32)), (2, .int (0 : Int32)), (1, .int y13), (0, .ref 1)]) dX8_faultOfSeason_15 (by decide) rfl ?_
  refine j_sub [4, 3, 2, 1, 0] rfl ?_
  refine t_X8_faultOfSeason_17 hK hA  (fun v14 S15 hf => ?_) _ _ _ hf
  refine j_iload_n hK dX8_faultOfSeason_125 2 rfl rfl ?_
  refine j_if_gt hK 133 dX8_faultOfSeason_126 (by decide) (fun hc => ?_) (fun hc => ?_)
  · replace hf := if_1 hc hf
    refine j_sub [0, 1] rfl ?_
    exact t_X8_faultOfSeason_133 hK hA  hf
  · replace hf := if_2 hc hf
    refine j_iload_n hK dX8_faultOfSeason_129 3 rfl rfl ?_
    refine j_if_ne hK 137 dX8_faultOfSeason_130 (by decide) (fun hc => ?_) (fun hc => ?_)
    · replace hf := if_2 hc hf
      refine j_iconst hK (0 : Int32) dX8_faultOfSeason_137 ic_0 ?_
      refine j_sub [0, 1] rfl ?_
      exact t_X8_faultOfSeason_138 hK hA  hf
    · replace hf := if_1 hc hf
      refine j_sub [0, 1] rfl ?_
      exact t_X8_faultOfSeason_133 hK hA  hf
def f_X10_doAct (p1 : Int32) (S : St) : Option (Int32 × St) := if inb p1 80 then (if (gI S 2 p1.toNatClampNeg) = (109 : Int32) then bd (f_X8_digit (p1 + (1 : Int32)) S) (fun r3 S4 => bd (f_X8_digit (p1 + (2 : Int32)) S4) (fun r6 S7 => bd (f_X8_digit (p1 + (3 : Int32)) S7) (fun r9 S10 => bd (f_X10_digPassage r3 r6 r9 S10) (fun r12 S13 => some (r12, S13))))) else (if (gI S 2 p1.toNatClampNeg) = (110 : Int32) then bd (f_X8_digit (p1 + (1 : Int32)) S) (fun r16 S17 => bd (f_X10_passHours r16 S17) (fun r19 S20 => some (r19, S20))) else (if (gI S 2 p1.toNatClampNeg) = (120 : Int32) then bd (f_X8_digit (p1 + (1 : Int32)) S) (fun r23 S24 => bd (f_X10_turnPassage r23 S24) (fun r26 S27 => some (r26, S27))) else bd (f_X8_digit (p1 + (1 : Int32)) S) (fun r29 S30 => bd (f_X8_digit (p1 + (2 : Int32)) S30) (fun r32 S33 => bd (f_X2_goes r29 r32 S33) (fun r35 S36 => (if r35 = 0 then some ((-100 : Int32), S36) else bd (f_X10_wearByEcho S36) (fun r38 S39 => some (r38, S39))))))))) else none
theorem c_X10_doAct {p1 : Int32} {S : St} {r : Int32} {S' : St} (hf : f_X10_doAct p1 S = some (r, S')) : zM yX10_doAct cX10_doAct 2 5 (some .int) [.ref 0, .int p1] S (some (.int r)) S' := by
  refine zM_of (zpl (by decide)) (Nat.le_of_ble_eq_true rfl) rfl (fun K hK hA => ?_)
  unfold f_X10_doAct at hf
  refine j_aload_n hK dX10_doAct_0 0 rfl rfl ?_
  refine j_getR hK fl_X10_10 dX10_doAct_1 zo_0 zf_10_0 zr_0_0 ?_
  refine j_getR hK fl_X10_91 dX10_doAct_4 zo_1 zf_8_0 zr_1_0 ?_
  refine j_iload_n hK dX10_doAct_7 1 rfl rfl ?_
  obtain ⟨hi1, hf⟩ := gd hf
  refine k_cald hK dX10_doAct_8 zb_2 hi1 rfl ?_
  by_cases hs2 : (gI S 2 p1.toNatClampNeg) = (109 : Int32)
  · replace hf := if_1 hs2 hf
    refine j_lookC (off := 65) hK (109 : Int32) 74 dX10_doAct_9 hs2 (by decide) (by decide) (by decide) ?_
    refine j_aload_n hK dX10_doAct_74 0 rfl rfl ?_
    refine j_aload_n hK dX10_doAct_75 0 rfl rfl ?_
    refine j_getR hK fl_X10_10 dX10_doAct_76 zo_0 zf_10_0 zr_0_0 ?_
    refine j_iload_n hK dX10_doAct_79 1 rfl rfl ?_
    refine j_iconst hK (1 : Int32) dX10_doAct_80 ic_1 ?_
    refine j_iadd hK dX10_doAct_81 ?_
    obtain ⟨r3, S4, h5, hf⟩ := bd_J hf
    refine k_callVi hK (c_X8_digit h5) dX10_doAct_82 zclX8 zo_1 ml_X10_102 mi_X8_digit mx_X8_digit in_X8 mc_X8_digit hy_X8_digit ⟨by decide, by decide⟩ rfl (Nat.le_of_ble_eq_true rfl) ?_
    refine j_pc (pc' := 85) rfl ?_
    refine j_aload_n hK dX10_doAct_85 0 rfl rfl ?_
    refine j_getR hK fl_X10_10 dX10_doAct_86 zo_0 zf_10_0 zr_0_0 ?_
    refine j_iload_n hK dX10_doAct_89 1 rfl rfl ?_
    refine j_iconst hK (2 : Int32) dX10_doAct_90 ic_2 ?_
    refine j_iadd hK dX10_doAct_91 ?_
    obtain ⟨r6, S7, h8, hf⟩ := bd_J hf
    refine k_callVi hK (c_X8_digit h8) dX10_doAct_92 zclX8 zo_1 ml_X10_102 mi_X8_digit mx_X8_digit in_X8 mc_X8_digit hy_X8_digit ⟨by decide, by decide⟩ rfl (Nat.le_of_ble_eq_true rfl) ?_
    refine j_aload_n hK dX10_doAct_95 0 rfl rfl ?_
    refine j_getR hK fl_X10_10 dX10_doAct_96 zo_0 zf_10_0 zr_0_0 ?_
    refine j_pc (pc' := 99) rfl ?_
    refine j_iload_n hK dX10_doAct_99 1 rfl rfl ?_
    refine j_iconst hK (3 : Int32) dX10_doAct_100 ic_3 ?_
    refine j_iadd hK dX10_doAct_101 ?_
    obtain ⟨r9, S10, h11, hf⟩ := bd_J hf
    refine k_callVi hK (c_X8_digit h11) dX10_doAct_102 zclX8 zo_1 ml_X10_102 mi_X8_digit mx_X8_digit in_X8 mc_X8_digit hy_X8_digit ⟨by decide, by decide⟩ rfl (Nat.le_of_ble_eq_true rfl) ?_
    obtain ⟨r12, S13, h14, hf⟩ := bd_J hf
    refine k_callVi hK (c_X10_digPassage h14) dX10_doAct_105 zclX10 zo_0 ml_X10_212 mi_X10_digPassage mx_X10_digPassage in_X10 mc_X10_digPassage hy_X10_digPassage ⟨by decide, by decide⟩ rfl (Nat.le_of_ble_eq_true rfl) ?_
    exact j_iret hK dX10_doAct_108 rfl (rt_I hA hf)
  · replace hf := if_2 hs2 hf
    by_cases hs15 : (gI S 2 p1.toNatClampNeg) = (110 : Int32)
    · replace hf := if_1 hs15 hf
      refine j_lookC (off := 35) hK (110 : Int32) 44 dX10_doAct_9 hs15 (by decide) (by decide) (by decide) ?_
      refine j_aload_n hK dX10_doAct_44 0 rfl rfl ?_
      refine j_aload_n hK dX10_doAct_45 0 rfl rfl ?_
      refine j_getR hK fl_X10_10 dX10_doAct_46 zo_0 zf_10_0 zr_0_0 ?_
      refine j_iload_n hK dX10_doAct_49 1 rfl rfl ?_
      refine j_iconst hK (1 : Int32) dX10_doAct_50 ic_1 ?_
      refine j_iadd hK dX10_doAct_51 ?_
      obtain ⟨r16, S17, h18, hf⟩ := bd_J hf
      refine k_callVi hK (c_X8_digit h18) dX10_doAct_52 zclX8 zo_1 ml_X10_102 mi_X8_digit mx_X8_digit in_X8 mc_X8_digit hy_X8_digit ⟨by decide, by decide⟩ rfl (Nat.le_of_ble_eq_true rfl) ?_
      refine j_pc (pc' := 55) rfl ?_
      obtain ⟨r19, S20, h21, hf⟩ := bd_J hf
      refine k_callVi hK (c_X10_passHours h21) dX10_doAct_55 zclX10 zo_0 ml_X10_206 mi_X10_passHours mx_X10_passHours in_X10 mc_X10_passHours hy_X10_passHours ⟨by decide, by decide⟩ rfl (Nat.le_of_ble_eq_true rfl) ?_
      exact j_iret hK dX10_doAct_58 rfl (rt_I hA hf)
    · replace hf := if_2 hs15 hf
      by_cases hs22 : (gI S 2 p1.toNatClampNeg) = (120 : Int32)
      · replace hf := if_1 hs22 hf
        refine j_lookC (off := 50) hK (120 : Int32) 59 dX10_doAct_9 hs22 (by decide) (by decide) (by decide) ?_
        refine j_aload_n hK dX10_doAct_59 0 rfl rfl ?_
        refine j_aload_n hK dX10_doAct_60 0 rfl rfl ?_
        refine j_getR hK fl_X10_10 dX10_doAct_61 zo_0 zf_10_0 zr_0_0 ?_
        refine j_iload_n hK dX10_doAct_64 1 rfl rfl ?_
        refine j_iconst hK (1 : Int32) dX10_doAct_65 ic_1 ?_
        refine j_iadd hK dX10_doAct_66 ?_
        obtain ⟨r23, S24, h25, hf⟩ := bd_J hf
        refine k_callVi hK (c_X8_digit h25) dX10_doAct_67 zclX8 zo_1 ml_X10_102 mi_X8_digit mx_X8_digit in_X8 mc_X8_digit hy_X8_digit ⟨by decide, by decide⟩ rfl (Nat.le_of_ble_eq_true rfl) ?_
        refine j_pc (pc' := 70) rfl ?_
        obtain ⟨r26, S27, h28, hf⟩ := bd_J hf
        refine k_callVi hK (c_X10_turnPassage h28) dX10_doAct_70 zclX10 zo_0 ml_X10_209 mi_X10_turnPassage mx_X10_turnPassage in_X10 mc_X10_turnPassage hy_X10_turnPassage ⟨by decide, by decide⟩ rfl (Nat.le_of_ble_eq_true rfl) ?_
        exact j_iret hK dX10_doAct_73 rfl (rt_I hA hf)
      · replace hf := if_2 hs22 hf
        refine j_lookup (off := 100) hK 109 dX10_doAct_9 (by decide) ((lv_osw (k := (109 : Int32)) hs2 (by decide)).trans ((lv_osw (k := (110 : Int32)) hs15 (by decide)).trans ((lv_osw (k := (120 : Int32)) hs22 (by decide)).trans rfl))) (by decide) ?_
        refine j_aload_n hK dX10_doAct_109 0 rfl rfl ?_
        refine j_getR hK fl_X10_42 dX10_doAct_110 zo_0 zf_10_4 zr_0_4 ?_
        refine j_aload_n hK dX10_doAct_113 0 rfl rfl ?_
        refine j_getR hK fl_X10_10 dX10_doAct_114 zo_0 zf_10_0 zr_0_0 ?_
        refine j_iload_n hK dX10_doAct_117 1 rfl rfl ?_
        refine j_iconst hK (1 : Int32) dX10_doAct_118 ic_1 ?_
        refine j_iadd hK dX10_doAct_119 ?_
        refine j_pc (pc' := 120) rfl ?_
        obtain ⟨r29, S30, h31, hf⟩ := bd_J hf
        refine k_callVi hK (c_X8_digit h31) dX10_doAct_120 zclX8 zo_1 ml_X10_102 mi_X8_digit mx_X8_digit in_X8 mc_X8_digit hy_X8_digit ⟨by decide, by decide⟩ rfl (Nat.le_of_ble_eq_true rfl) ?_
        refine j_aload_n hK dX10_doAct_123 0 rfl rfl ?_
        refine j_getR hK fl_X10_10 dX10_doAct_124 zo_0 zf_10_0 zr_0_0 ?_
        refine j_iload_n hK dX10_doAct_127 1 rfl rfl ?_
        refine j_iconst hK (2 : Int32) dX10_doAct_128 ic_2 ?_
        refine j_iadd hK dX10_doAct_129 ?_
        obtain ⟨r32, S33, h34, hf⟩ := bd_J hf
        refine k_callVi hK (c_X8_digit h34) dX10_doAct_130 zclX8 zo_1 ml_X10_102 mi_X8_digit mx_X8_digit in_X8 mc_X8_digit hy_X8_digit ⟨by decide, by decide⟩ rfl (Nat.le_of_ble_eq_true rfl) ?_
        obtain ⟨r35, S36, h37, hf⟩ := bd_J hf
        refine k_callVi hK (c_X2_goes h37) dX10_doAct_133 zclX2 zo_92 ml_X10_236 mi_X2_goes mx_X2_goes in_X2 mc_X2_goes hy_X2_goes ⟨by decide, by decide⟩ rfl (Nat.le_of_ble_eq_true rfl) ?_
        refine j_pc (pc' := 136) rfl ?_
        refine j_if_eq hK 146 dX10_doAct_136 (by decide) (fun hc => ?_) (fun hc => ?_)
        · replace hf := if_1 hc hf
          refine j_bipush hK (-100 : Int32) dX10_doAct_146 bi_m100 ?_
          exact j_iret hK dX10_doAct_148 rfl (rt_I hA hf)
        · replace hf := if_2 hc hf
          refine j_aload_n hK dX10_doAct_139 0 rfl rfl ?_
          obtain ⟨r38, S39, h40, hf⟩ := bd_J hf
          refine k_callVi hK (c_X10_wearByEcho h40) dX10_doAct_140 zclX10 zo_0 ml_X10_199 mi_X10_wearByEcho mx_X10_wearByEcho in_X10 mc_X10_wearByEcho hy_X10_wearByEcho ⟨by decide, by decide⟩ rfl (Nat.le_of_ble_eq_true rfl) ?_
          refine j_goto hK 148 dX10_doAct_143 (by decide) ?_
          exact j_iret hK dX10_doAct_148 rfl (rt_I hA hf)
def f_X8_signsOfAct_29 (x2 : Int32) (s0 : Int32) (S : St) : Option (Int32 × St) := some ((((1 : Int32) + x2) + s0), S)
theorem t_X8_signsOfAct_29 {K : CT} (hK : KO K cX8_signsOfAct RX8 4 3 (some .int)) {r : Int32} {S' : St} (hA : zans K (some (.int r), S')) {x2 : Int32} {s0 : Int32} {S : St} (hf : f_X8_signsOfAct_29 x2 s0 S = some (r, S')) : J K 29 [(2, .int x2)] [.int s0] S := by
  unfold f_X8_signsOfAct_29 at hf
  refine j_istore_n hK (L' := [(3, .int s0), (2, .int x2)]) dX8_signsOfAct_29 rfl (by decide) rfl ?_
  refine j_iconst hK (1 : Int32) dX8_signsOfAct_30 ic_1 ?_
  refine j_iload_n hK dX8_signsOfAct_31 1 rfl rfl ?_
  refine j_iadd hK dX8_signsOfAct_32 ?_
  refine j_iload_n hK dX8_signsOfAct_33 0 rfl rfl ?_
  refine j_iadd hK dX8_signsOfAct_34 ?_
  exact j_iret hK dX8_signsOfAct_35 rfl (rt_I hA hf)
def f_X8_signsOfAct (p1 : Int32) (S : St) : Option (Int32 × St) := bd (f_X8_digitsOfAct p1 S) (fun r1 S2 => bd (f_X8_within p1 (115 : Int32) (115 : Int32) S2) (fun r4 S5 => (if r4 = 0 then f_X8_signsOfAct_29 r1 (0 : Int32) S5 else bd (f_X8_lettersFrom (p1 + (3 : Int32)) S5) (fun r7 S8 => f_X8_signsOfAct_29 r1 r7 S8))))
theorem c_X8_signsOfAct {p1 : Int32} {S : St} {r : Int32} {S' : St} (hf : f_X8_signsOfAct p1 S = some (r, S')) : zM yX8_signsOfAct cX8_signsOfAct 4 3 (some .int) [.ref 1, .int p1] S (some (.int r)) S' := by
  refine zM_of (zpl (by decide)) (Nat.le_of_ble_eq_true rfl) rfl (fun K hK hA => ?_)
  unfold f_X8_signsOfAct at hf
  refine j_aload_n hK dX8_signsOfAct_0 0 rfl rfl ?_
  refine j_iload_n hK dX8_signsOfAct_1 1 rfl rfl ?_
  obtain ⟨r1, S2, h3, hf⟩ := bd_J hf
  refine k_callVi hK (c_X8_digitsOfAct h3) dX8_signsOfAct_2 zclX8 zo_1 ml_X8_40 mi_X8_digitsOfAct mx_X8_digitsOfAct in_X8 mc_X8_digitsOfAct hy_X8_digitsOfAct ⟨by decide, by decide⟩ rfl (Nat.le_of_ble_eq_true rfl) ?_
  refine j_istore_n hK (L' := [(2, .int r1), (0, .ref 1), (1, .int p1)]) dX8_signsOfAct_5 rfl (by decide) rfl ?_
  refine j_aload_n hK dX8_signsOfAct_6 1 rfl rfl ?_
  refine j_iload_n hK dX8_signsOfAct_7 2 rfl rfl ?_
  refine j_bipush hK (115 : Int32) dX8_signsOfAct_8 bi_115 ?_
  refine j_bipush hK (115 : Int32) dX8_signsOfAct_10 bi_115 ?_
  refine j_pc (pc' := 12) rfl ?_
  obtain ⟨r4, S5, h6, hf⟩ := bd_J hf
  refine k_callVi hK (c_X8_within h6) dX8_signsOfAct_12 zclX8 zo_1 ml_X8_19 mi_X8_within mx_X8_within in_X8 mc_X8_within hy_X8_within ⟨by decide, by decide⟩ rfl (Nat.le_of_ble_eq_true rfl) ?_
  refine j_if_eq hK 28 dX8_signsOfAct_15 (by decide) (fun hc => ?_) (fun hc => ?_)
  · replace hf := if_1 hc hf
    refine j_iconst hK (0 : Int32) dX8_signsOfAct_28 ic_0 ?_
    refine j_sub [0] rfl ?_
    exact t_X8_signsOfAct_29 hK hA  hf
  · replace hf := if_2 hc hf
    refine j_aload_n hK dX8_signsOfAct_18 1 rfl rfl ?_
    refine j_iload_n hK dX8_signsOfAct_19 2 rfl rfl ?_
    refine j_iconst hK (3 : Int32) dX8_signsOfAct_20 ic_3 ?_
    refine j_iadd hK dX8_signsOfAct_21 ?_
    obtain ⟨r7, S8, h9, hf⟩ := bd_J hf
    refine k_callVi hK (c_X8_lettersFrom h9) dX8_signsOfAct_22 zclX8 zo_1 ml_X8_37 mi_X8_lettersFrom mx_X8_lettersFrom in_X8 mc_X8_lettersFrom hy_X8_lettersFrom ⟨by decide, by decide⟩ rfl (Nat.le_of_ble_eq_true rfl) ?_
    refine j_goto hK 29 dX8_signsOfAct_25 (by decide) ?_
    refine j_sub [0] rfl ?_
    exact t_X8_signsOfAct_29 hK hA  hf
def f_X10_season_154 (x2 : Int32) (s1 : Int64) (S : St) : Option (Int32 × St) := bd (f_X5_put s1 S) (fun r1 S2 => bd (f_X5_put (gI S2 6 5).toInt64 S2) (fun r4 S5 => some (x2, S5)))
theorem t_X10_season_154 {K : CT} (hK : KO K cX10_season RX10 5 6 (some .int)) {r : Int32} {S' : St} (hA : zans K (some (.int r), S')) {x2 : Int32} {s1 : Int64} {S : St} (hf : f_X10_season_154 x2 s1 S = some (r, S')) : J K 154 [(0, .ref 0), (2, .int x2)] [.long s1, .ref 10] S := by
  unfold f_X10_season_154 at hf
  obtain ⟨r1, S2, h3, hf⟩ := bd_J hf
  refine k_callVv hK (c_X5_put h3) dX10_season_154 zclX5 zo_10 ml_X10_191 mi_X5_put mx_X5_put in_X5 mc_X5_put hy_X5_put ⟨by decide, by decide⟩ rfl (Nat.le_of_ble_eq_true rfl) ?_
  refine j_aload_n hK dX10_season_157 0 rfl rfl ?_
  refine j_getR hK fl_X10_26 dX10_season_158 zo_0 zf_10_2 zr_0_2 ?_
  refine j_aload_n hK dX10_season_161 0 rfl rfl ?_
  refine j_getR hK fl_X10_19 dX10_season_162 zo_0 zf_10_1 zr_0_1 ?_
  refine j_getR hK fl_X10_129 dX10_season_165 zo_3 zf_0_3 zr_3_3 ?_
  refine j_getI hK fl_X10_225 dX10_season_168 zo_6 zf_7_5 ?_
  refine j_i2l hK dX10_season_171 ?_
  refine j_pc (pc' := 172) rfl ?_
  obtain ⟨r4, S5, h6, hf⟩ := bd_J hf
  refine k_callVv hK (c_X5_put h6) dX10_season_172 zclX5 zo_10 ml_X10_191 mi_X5_put mx_X5_put in_X5 mc_X5_put hy_X5_put ⟨by decide, by decide⟩ rfl (Nat.le_of_ble_eq_true rfl) ?_
  refine j_iload_n hK dX10_season_175 1 rfl rfl ?_
  exact j_iret hK dX10_season_176 rfl (rt_I hA hf)
def f_X10_season_131 (x2 : Int32) (x3 : Int32) (s1 : Int32) (S : St) : Option (Int32 × St) := bd (f_X4_settle s1 S) (fun r7 S8 => bd (f_X5_begin S8) (fun r10 S11 => (if x3 = 0 then f_X10_season_154 x2 (0 : Int64) S11 else f_X10_season_154 x2 (1 : Int64) S11)))
theorem t_X10_season_131 {K : CT} (hK : KO K cX10_season RX10 5 6 (some .int)) {r : Int32} {S' : St} (hA : zans K (some (.int r), S')) {x2 : Int32} {x3 : Int32} {s1 : Int32} {S : St} (hf : f_X10_season_131 x2 x3 s1 S = some (r, S')) : J K 131 [(0, .ref 0), (2, .int x2), (3, .int x3)] [.int s1, .ref 12] S := by
  unfold f_X10_season_131 at hf
  obtain ⟨r7, S8, h9, hf⟩ := bd_J hf
  refine k_callVv hK (c_X4_settle h9) dX10_season_131 zclX4 zo_12 ml_X10_202 mi_X4_settle mx_X4_settle in_X4 mc_X4_settle hy_X4_settle ⟨by decide, by decide⟩ rfl (Nat.le_of_ble_eq_true rfl) ?_
  refine j_aload_n hK dX10_season_134 0 rfl rfl ?_
  refine j_getR hK fl_X10_26 dX10_season_135 zo_0 zf_10_2 zr_0_2 ?_
  obtain ⟨r10, S11, h12, hf⟩ := bd_J hf
  refine k_callVv hK (c_X5_begin h12) dX10_season_138 zclX5 zo_10 ml_X10_185 mi_X5_begin mx_X5_begin in_X5 mc_X5_begin hy_X5_begin ⟨by decide, by decide⟩ rfl (Nat.le_of_ble_eq_true rfl) ?_
  refine j_aload_n hK dX10_season_141 0 rfl rfl ?_
  refine j_getR hK fl_X10_26 dX10_season_142 zo_0 zf_10_2 zr_0_2 ?_
  refine j_iload_n hK dX10_season_145 2 rfl rfl ?_
  refine j_if_eq hK 153 dX10_season_146 (by decide) (fun hc => ?_) (fun hc => ?_)
  · replace hf := if_1 hc hf
    refine j_lconst hK (0 : Int64) dX10_season_153 lc_0 ?_
    refine j_sub [0, 1] rfl ?_
    exact t_X10_season_154 hK hA  hf
  · replace hf := if_2 hc hf
    refine j_lconst hK (1 : Int64) dX10_season_149 lc_1 ?_
    refine j_goto hK 154 dX10_season_150 (by decide) ?_
    refine j_sub [0, 1] rfl ?_
    exact t_X10_season_154 hK hA  hf
def f_X10_season_87 (x3 : Int32) (x4 : Int32) (s0 : Int32) (s1 : Int32) (k e : Int32 × Int32 × Int32 → St → Option (Int32 × St)) (S : St) : Option (Int32 × St) := lt (s0 + s1) (fun y13 => bd (f_X8_signsOfAct x4 S) (fun r14 S15 => lt (x4 + (mxI (1 : Int32) r14)) (fun y17 => k (y13, x3, y17) S15)))
theorem t_X10_season_87 {K : CT} (hK : KO K cX10_season RX10 5 6 (some .int)) {r : Int32} {S' : St} (hA : zans K (some (.int r), S')) {x3 : Int32} {x4 : Int32} {s0 : Int32} {s1 : Int32} {k e : Int32 × Int32 × Int32 → St → Option (Int32 × St)} (hk : ∀ (v : Int32 × Int32 × Int32) (S : St), k v S = some (r, S') → J K 46 [(0, .ref 0), (2, .int v.1), (3, .int v.2.1), (4, .int v.2.2)] [] S) (he : ∀ (v : Int32 × Int32 × Int32) (S : St), e v S = some (r, S') → J K 110 [(0, .ref 0), (2, .int v.1), (3, .int v.2.1)] [] S) {S : St} (hf : f_X10_season_87 x3 x4 s0 s1 k e S = some (r, S')) : J K 87 [(0, .ref 0), (3, .int x3), (4, .int x4)] [.int s1, .int s0] S := by
  unfold f_X10_season_87 at hf
  refine j_iadd hK dX10_season_87 ?_
  refine lt_I hf (fun y13 hf => ?_)
  refine j_istore_n hK (L' := [(2, .int y13), (0, .ref 0), (3, .int x3), (4, .int x4)]) dX10_season_88 rfl (by decide) rfl ?_
  refine j_iload hK dX10_season_89 3 rfl ?_
  refine j_iconst hK (1 : Int32) dX10_season_91 ic_1 ?_
  refine j_aload_n hK dX10_season_92 1 rfl rfl ?_
  refine j_getR hK fl_X10_10 dX10_season_93 zo_0 zf_10_0 zr_0_0 ?_
  refine j_iload hK dX10_season_96 3 rfl ?_
  obtain ⟨r14, S15, h16, hf⟩ := bd_J hf
  refine k_callVi hK (c_X8_signsOfAct h16) dX10_season_98 zclX8 zo_1 ml_X10_222 mi_X8_signsOfAct mx_X8_signsOfAct in_X8 mc_X8_signsOfAct hy_X8_signsOfAct ⟨by decide, by decide⟩ rfl (Nat.le_of_ble_eq_true rfl) ?_
  refine j_pc (pc' := 101) rfl ?_
  refine j_max hK ml_X10_175 dX10_season_101 (by decide) (Nat.le_of_ble_eq_true rfl) ?_
  refine j_iadd hK dX10_season_104 ?_
  refine lt_I hf (fun y17 hf => ?_)
  refine j_istore hK (L' := [(4, .int y17), (2, .int y13), (0, .ref 0), (3, .int x3)]) dX10_season_105 (by decide) rfl ?_
  refine j_goto hK 46 dX10_season_107 (by decide) ?_
  refine j_sub [2, 1, 3, 0] rfl ?_
  exact hk _ _ hf
def f_X10_season_76 (x2 : Int32) (x4 : Int32) (s0 : Int32) (k e : Int32 × Int32 × Int32 → St → Option (Int32 × St)) (S : St) : Option (Int32 × St) := (if s0 = 0 then f_X10_season_87 s0 x4 x2 (1 : Int32) k e S else f_X10_season_87 s0 x4 x2 (0 : Int32) k e S)
theorem t_X10_season_76 {K : CT} (hK : KO K cX10_season RX10 5 6 (some .int)) {r : Int32} {S' : St} (hA : zans K (some (.int r), S')) {x2 : Int32} {x4 : Int32} {s0 : Int32} {k e : Int32 × Int32 × Int32 → St → Option (Int32 × St)} (hk : ∀ (v : Int32 × Int32 × Int32) (S : St), k v S = some (r, S') → J K 46 [(0, .ref 0), (2, .int v.1), (3, .int v.2.1), (4, .int v.2.2)] [] S) (he : ∀ (v : Int32 × Int32 × Int32) (S : St), e v S = some (r, S') → J K 110 [(0, .ref 0), (2, .int v.1), (3, .int v.2.1)] [] S) {S : St} (hf : f_X10_season_76 x2 x4 s0 k e S = some (r, S')) : J K 76 [(0, .ref 0), (2, .int x2), (4, .int x4)] [.int s0] S := by
  unfold f_X10_season_76 at hf
  refine j_istore_n hK (L' := [(3, .int s0), (0, .ref 0), (2, .int x2), (4, .int x4)]) dX10_season_76 rfl (by decide) rfl ?_
  refine j_iload_n hK dX10_season_77 2 rfl rfl ?_
  refine j_iload_n hK dX10_season_78 0 rfl rfl ?_
  refine j_if_eq hK 86 dX10_season_79 (by decide) (fun hc => ?_) (fun hc => ?_)
  · replace hf := if_1 hc hf
    refine j_iconst hK (1 : Int32) dX10_season_86 ic_1 ?_
    refine j_sub [1, 0, 3] rfl ?_
    exact t_X10_season_87 hK hA hk he hf
  · replace hf := if_2 hc hf
    refine j_iconst hK (0 : Int32) dX10_season_82 ic_0 ?_
    refine j_goto hK 87 dX10_season_83 (by decide) ?_
    refine j_sub [1, 0, 3] rfl ?_
    exact t_X10_season_87 hK hA hk he hf
def f_X10_season_46b (e : Int32 × Int32 × Int32 → St → Option (Int32 × St)) (k : Int32 × Int32 × Int32 → St → Option (Int32 × St)) (v : Int32 × Int32 × Int32) (S : St) : Option (Int32 × St) := (if (gI S 1 1) ≤ v.2.2 then e (v.1, v.2.1, v.2.2) S else (if v.2.1 = 0 then bd (f_X10_doAct v.2.2 S) (fun r18 S19 => (if 0 ≤ r18 then f_X10_season_76 v.1 v.2.2 (0 : Int32) k e S19 else f_X10_season_76 v.1 v.2.2 (1 : Int32) k e S19)) else e (v.1, v.2.1, v.2.2) S))
theorem t_X10_season_46 {K : CT} (hK : KO K cX10_season RX10 5 6 (some .int)) {r : Int32} {S' : St} (hA : zans K (some (.int r), S')) {e : Int32 × Int32 × Int32 → St → Option (Int32 × St)} (he : ∀ (v : Int32 × Int32 × Int32) (S : St), e v S = some (r, S') → J K 110 [(0, .ref 0), (2, .int v.1), (3, .int v.2.1)] [] S) : ∀ (n : Nat) (v : Int32 × Int32 × Int32) (S : St), lp (f_X10_season_46b  e) n v S = some (r, S') → J K 46 [(0, .ref 0), (2, .int v.1), (3, .int v.2.1), (4, .int v.2.2)] [] S :=
  lp_J (P := fun (v : Int32 × Int32 × Int32) (S : St) => J K 46 [(0, .ref 0), (2, .int v.1), (3, .int v.2.1), (4, .int v.2.2)] [] S) (fun k hk v S hf => by
    unfold f_X10_season_46b at hf
    refine j_iload hK dX10_season_46 3 rfl ?_
    refine j_aload_n hK dX10_season_48 0 rfl rfl ?_
    refine j_getR hK fl_X10_10 dX10_season_49 zo_0 zf_10_0 zr_0_0 ?_
    refine j_getI hK fl_X10_88 dX10_season_52 zo_1 zf_8_1 ?_
    refine j_icmp_ge hK 110 dX10_season_55 (by decide) (fun hc => ?_) (fun hc => ?_)
    · replace hf := if_1 hc hf
      refine j_sub [0, 1, 2] rfl ?_
      exact he _ _ hf
    · replace hf := if_2 hc hf
      refine j_iload_n hK dX10_season_58 2 rfl rfl ?_
      refine j_if_ne hK 110 dX10_season_59 (by decide) (fun hc => ?_) (fun hc => ?_)
      · replace hf := if_2 hc hf
        refine j_sub [0, 1, 2] rfl ?_
        exact he _ _ hf
      · replace hf := if_1 hc hf
        refine j_aload_n hK dX10_season_62 0 rfl rfl ?_
        refine j_iload hK dX10_season_63 3 rfl ?_
        obtain ⟨r18, S19, h20, hf⟩ := bd_J hf
        refine k_callVi hK (c_X10_doAct h20) dX10_season_65 zclX10 zo_0 ml_X10_219 mi_X10_doAct mx_X10_doAct in_X10 mc_X10_doAct hy_X10_doAct ⟨by decide, by decide⟩ rfl (Nat.le_of_ble_eq_true rfl) ?_
        refine j_if_ge hK 75 dX10_season_68 (by decide) (fun hc => ?_) (fun hc => ?_)
        · replace hf := if_1 hc hf
          refine j_iconst hK (0 : Int32) dX10_season_75 ic_0 ?_
          refine j_sub [0, 1, 3] rfl ?_
          exact t_X10_season_76 hK hA hk he hf
        · replace hf := if_2 hc hf
          refine j_iconst hK (1 : Int32) dX10_season_71 ic_1 ?_
          refine j_goto hK 76 dX10_season_72 (by decide) ?_
          refine j_sub [0, 1, 3] rfl ?_
          exact t_X10_season_76 hK hA hk he hf)
def f_X10_season (S : St) : Option (Int32 × St) := bd (f_X8_faultOfSeason S) (fun r21 S22 => (if r21 = (-1 : Int32) then bd (f_X4_mark S22) (fun r24 S25 => lp (f_X10_season_46b  (fun v27 S28 => lt (sI S28 1 1 (0 : Int32)) (fun S29 => (if v27.1 ≤ 0 then f_X10_season_131 v27.1 v27.2.1 (0 : Int32) S29 else f_X10_season_131 v27.1 v27.2.1 (1 : Int32) S29)))) FU ((0 : Int32), (0 : Int32), (0 : Int32)) S25) else lt (sI S22 1 1 (0 : Int32)) (fun S30 => some (((-1 : Int32) - r21), S30))))
theorem c_X10_season {S : St} {r : Int32} {S' : St} (hf : f_X10_season S = some (r, S')) : zM yX10_season cX10_season 5 6 (some .int) [.ref 0] S (some (.int r)) S' := by
  refine zM_of (zpl (by decide)) (Nat.le_of_ble_eq_true rfl) rfl (fun K hK hA => ?_)
  unfold f_X10_season at hf
  refine j_aload_n hK dX10_season_0 0 rfl rfl ?_
  refine j_getR hK fl_X10_10 dX10_season_1 zo_0 zf_10_0 zr_0_0 ?_
  obtain ⟨r21, S22, h23, hf⟩ := bd_J hf
  refine k_callVi hK (c_X8_faultOfSeason h23) dX10_season_4 zclX8 zo_1 ml_X10_216 mi_X8_faultOfSeason mx_X8_faultOfSeason in_X8 mc_X8_faultOfSeason hy_X8_faultOfSeason ⟨by decide, by decide⟩ rfl (Nat.le_of_ble_eq_true rfl) ?_
  refine j_istore_n hK (L' := [(1, .int r21), (0, .ref 0)]) dX10_season_7 rfl (by decide) rfl ?_
  refine j_iload_n hK dX10_season_8 0 rfl rfl ?_
  refine j_iconst hK (-1 : Int32) dX10_season_9 ic_m1 ?_
  refine j_icmp_eq hK 25 dX10_season_10 (by decide) (fun hc => ?_) (fun hc => ?_)
  · replace hf := if_1 hc hf
    refine j_aload_n hK dX10_season_25 1 rfl rfl ?_
    refine j_getR hK fl_X10_33 dX10_season_26 zo_0 zf_10_3 zr_0_3 ?_
    refine j_aload_n hK dX10_season_29 1 rfl rfl ?_
    refine j_getR hK fl_X10_19 dX10_season_30 zo_0 zf_10_1 zr_0_1 ?_
    refine j_getR hK fl_X10_129 dX10_season_33 zo_3 zf_0_3 zr_3_3 ?_
    obtain ⟨r24, S25, h26, hf⟩ := bd_J hf
    refine k_callVv hK (c_X4_mark h26) dX10_season_36 zclX4 zo_12 ml_X10_181 mi_X4_mark mx_X4_mark in_X4 mc_X4_mark hy_X4_mark ⟨by decide, by decide⟩ rfl (Nat.le_of_ble_eq_true rfl) ?_
    refine j_iconst hK (0 : Int32) dX10_season_39 ic_0 ?_
    refine j_pc (pc' := 40) rfl ?_
    refine j_istore_n hK (L' := [(2, .int (0 : Int32)), (1, .int r21), (0, .ref 0)]) dX10_season_40 rfl (by decide) rfl ?_
    refine j_iconst hK (0 : Int32) dX10_season_41 ic_0 ?_
    refine j_istore_n hK (L' := [(3, .int (0 : Int32)), (2, .int (0 : Int32)), (1, .int r21), (0, .ref 0)]) dX10_season_42 rfl (by decide) rfl ?_
    refine j_iconst hK (0 : Int32) dX10_season_43 ic_0 ?_
    refine j_istore hK (L' := [(4, .int (0 : Int32)), (3, .int (0 : Int32)), (2, .int (0 : Int32)), (1, .int r21), (0, .ref 0)]) dX10_season_44 (by decide) rfl ?_
    refine j_sub [4, 2, 1, 0] rfl ?_
    refine t_X10_season_46 hK hA  (fun v27 S28 hf => ?_) _ _ _ hf
    refine j_aload_n hK dX10_season_110 0 rfl rfl ?_
    refine j_getR hK fl_X10_10 dX10_season_111 zo_0 zf_10_0 zr_0_0 ?_
    refine j_iconst hK (0 : Int32) dX10_season_114 ic_0 ?_
    refine j_putI hK fl_X10_88 dX10_season_115 zo_1 zf_8_1 ?_
    refine lt_S hf (fun S29 hf => ?_)
    refine j_aload_n hK dX10_season_118 0 rfl rfl ?_
    refine j_getR hK fl_X10_33 dX10_season_119 zo_0 zf_10_3 zr_0_3 ?_
    refine j_iload_n hK dX10_season_122 1 rfl rfl ?_
    refine j_pc (pc' := 123) rfl ?_
    refine j_if_le hK 130 dX10_season_123 (by decide) (fun hc => ?_) (fun hc => ?_)
    · replace hf := if_1 hc hf
      refine j_iconst hK (0 : Int32) dX10_season_130 ic_0 ?_
      exact t_X10_season_131 hK hA  hf
    · replace hf := if_2 hc hf
      refine j_iconst hK (1 : Int32) dX10_season_126 ic_1 ?_
      refine j_goto hK 131 dX10_season_127 (by decide) ?_
      exact t_X10_season_131 hK hA  hf
  · replace hf := if_2 hc hf
    refine j_aload_n hK dX10_season_13 1 rfl rfl ?_
    refine j_getR hK fl_X10_10 dX10_season_14 zo_0 zf_10_0 zr_0_0 ?_
    refine j_iconst hK (0 : Int32) dX10_season_17 ic_0 ?_
    refine j_putI hK fl_X10_88 dX10_season_18 zo_1 zf_8_1 ?_
    refine lt_S hf (fun S30 hf => ?_)
    refine j_iconst hK (-1 : Int32) dX10_season_21 ic_m1 ?_
    refine j_iload_n hK dX10_season_22 0 rfl rfl ?_
    refine j_isub hK dX10_season_23 ?_
    refine j_pc (pc' := 24) rfl ?_
    exact j_iret hK dX10_season_24 rfl (rt_I hA hf)
