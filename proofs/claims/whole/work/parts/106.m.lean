def f_X10_tour_89b (x4 : Int32) (e : Int32 × Int32 × Int32 → St → Option (Int32 × St)) (k : Int32 × Int32 × Int32 → St → Option (Int32 × St)) (v : Int32 × Int32 × Int32) (S : St) : Option (Int32 × St) := (if v.2.2 ≤ 0 then e (v.1, v.2.1, v.2.2) S else bd (f_X9_nextOfTour v.1 v.2.1 S) (fun r1 S2 => lt (v.1 &&& (((1 : Int32) <<< (r1 &&& 31)) ^^^ (-1 : Int32))) (fun y4 => bd (f_X5_put r1.toInt64 S2) (fun r5 S6 => k (y4, r1, (v.2.2 + (-1 : Int32))) S6))))
theorem t_X10_tour_89 {K : CT} (hK : KO K cX10_tour RX10 7 5 (some .int)) {r : Int32} {S' : St} (hA : zans K (some (.int r), S')) {x4 : Int32} {e : Int32 × Int32 × Int32 → St → Option (Int32 × St)} (he : ∀ (v : Int32 × Int32 × Int32) (S : St), e v S = some (r, S') → J K 131 [(4, .int x4)] [] S) : ∀ (n : Nat) (v : Int32 × Int32 × Int32) (S : St), lp (f_X10_tour_89b x4 e) n v S = some (r, S') → J K 89 [(0, .ref 0), (3, .int v.1), (4, .int x4), (5, .int v.2.1), (6, .int v.2.2)] [] S :=
  lp_J (P := fun (v : Int32 × Int32 × Int32) (S : St) => J K 89 [(0, .ref 0), (3, .int v.1), (4, .int x4), (5, .int v.2.1), (6, .int v.2.2)] [] S) (fun k hk v S hf => by
    unfold f_X10_tour_89b at hf
    refine j_iload hK dX10_tour_89 4 rfl ?_
    refine j_if_le hK 131 dX10_tour_91 (by decide) (fun hc => ?_) (fun hc => ?_)
    · replace hf := if_1 hc hf
      refine j_sub [2] rfl ?_
      exact he _ _ hf
    · replace hf := if_2 hc hf
      refine j_aload_n hK dX10_tour_94 0 rfl rfl ?_
      refine j_getR hK fl_X10_49 dX10_tour_95 zo_0 zf_10_5 zr_0_5 ?_
      refine j_iload_n hK dX10_tour_98 1 rfl rfl ?_
      refine j_iload hK dX10_tour_99 3 rfl ?_
      obtain ⟨r1, S2, h3, hf⟩ := bd_J hf
      refine k_callVi hK (c_X9_nextOfTour h3) dX10_tour_101 zclX9 zo_98 ml_X10_327 mi_X9_nextOfTour mx_X9_nextOfTour in_X9 mc_X9_nextOfTour hy_X9_nextOfTour ⟨by decide, by decide⟩ rfl (Nat.le_of_ble_eq_true rfl) ?_
      refine j_istore hK (L' := [(5, .int r1), (0, .ref 0), (3, .int v.1), (4, .int x4), (6, .int v.2.2)]) dX10_tour_104 (by decide) rfl ?_
      refine j_iload_n hK dX10_tour_106 2 rfl rfl ?_
      refine j_pc (pc' := 107) rfl ?_
      refine j_iconst hK (1 : Int32) dX10_tour_107 ic_1 ?_
      refine j_iload hK dX10_tour_108 0 rfl ?_
      refine j_ishl hK dX10_tour_110 ?_
      refine j_iconst hK (-1 : Int32) dX10_tour_111 ic_m1 ?_
      refine j_ixor hK dX10_tour_112 ?_
      refine j_iand hK dX10_tour_113 ?_
      refine lt_I hf (fun y4 hf => ?_)
      refine j_istore_n hK (L' := [(3, .int y4), (5, .int r1), (0, .ref 0), (4, .int x4), (6, .int v.2.2)]) dX10_tour_114 rfl (by decide) rfl ?_
      refine j_aload_n hK dX10_tour_115 2 rfl rfl ?_
      refine j_pc (pc' := 116) rfl ?_
      refine j_getR hK fl_X10_26 dX10_tour_116 zo_0 zf_10_2 zr_0_2 ?_
      refine j_iload hK dX10_tour_119 1 rfl ?_
      refine j_i2l hK dX10_tour_121 ?_
      obtain ⟨r5, S6, h7, hf⟩ := bd_J hf
      refine k_callVv hK (c_X5_put h7) dX10_tour_122 zclX5 zo_10 ml_X10_191 mi_X5_put mx_X5_put in_X5 mc_X5_put hy_X5_put ⟨by decide, by decide⟩ rfl (Nat.le_of_ble_eq_true rfl) ?_
      refine j_iinc hK (L' := [(6, .int (v.2.2 + (-1 : Int32))), (3, .int y4), (5, .int r1), (0, .ref 0), (4, .int x4)]) dX10_tour_125 4 rfl (congrArg (fun y => v.2.2 + y) ic_m1) (by decide) rfl ?_
      refine j_goto hK 89 dX10_tour_128 (by decide) ?_
      refine j_sub [3, 1, 4, 2, 0] rfl ?_
      exact hk _ _ hf)
def f_X10_tour (p1 : Int32) (p2 : Int32) (S : St) : Option (Int32 × St) := bd (f_X10_isCavern p1 S) (fun r8 S9 => (if r8 = 0 then some ((-1 : Int32), S9) else (if p2 < 0 then some ((-1 : Int32), S9) else (if p2 ≤ (255 : Int32) then bd (f_X9_measure S9) (fun r11 S12 => bd (f_X9_joinedTo p1 S12) (fun r14 S15 => (if (p2 &&& (r14 ^^^ (-1 : Int32))) = 0 then lt (p2 &&& (((1 : Int32) <<< (p1 &&& 31)) ^^^ (-1 : Int32))) (fun y17 => bd (f_X9_planTours p1 y17 S15) (fun r18 S19 => bd (f_X9_minutesLeft y17 p1 S19) (fun r21 S22 => bd (f_X5_begin S22) (fun r24 S25 => bd (f_J6_bitCount_0f7a4 y17 S25) (fun r27 S28 => lp (f_X10_tour_89b r21 (fun v30 S31 => some (r21, S31))) FU (y17, p1, r27) S28))))) else some ((-2 : Int32), S15)))) else some ((-1 : Int32), S9)))))
theorem c_X10_tour {p1 : Int32} {p2 : Int32} {S : St} {r : Int32} {S' : St} (hf : f_X10_tour p1 p2 S = some (r, S')) : zM yX10_tour cX10_tour 7 5 (some .int) [.ref 0, .int p1, .int p2] S (some (.int r)) S' := by
  refine zM_of (zpl (by decide)) (Nat.le_of_ble_eq_true rfl) rfl (fun K hK hA => ?_)
  unfold f_X10_tour at hf
  refine j_iload_n hK dX10_tour_0 1 rfl rfl ?_
  obtain ⟨r8, S9, h10, hf⟩ := bd_J hf
  refine k_callSi hK (c_X10_isCavern h10) dX10_tour_1 ml_X10_147 ms_X10_isCavern in_X10 mc_X10_isCavern hy_X10_isCavern ⟨by decide, by decide⟩ rfl (Nat.le_of_ble_eq_true rfl) ?_
  refine j_if_eq hK 18 dX10_tour_4 (by decide) (fun hc => ?_) (fun hc => ?_)
  · replace hf := if_1 hc hf
    refine j_iconst hK (-1 : Int32) dX10_tour_18 ic_m1 ?_
    exact j_iret hK dX10_tour_19 rfl (rt_I hA hf)
  · replace hf := if_2 hc hf
    refine j_iload_n hK dX10_tour_7 2 rfl rfl ?_
    refine j_if_lt hK 18 dX10_tour_8 (by decide) (fun hc => ?_) (fun hc => ?_)
    · replace hf := if_1 hc hf
      refine j_iconst hK (-1 : Int32) dX10_tour_18 ic_m1 ?_
      exact j_iret hK dX10_tour_19 rfl (rt_I hA hf)
    · replace hf := if_2 hc hf
      refine j_iload_n hK dX10_tour_11 2 rfl rfl ?_
      refine j_sipush hK (255 : Int32) dX10_tour_12 si_255 ?_
      refine j_icmp_le hK 20 dX10_tour_15 (by decide) (fun hc => ?_) (fun hc => ?_)
      · replace hf := if_1 hc hf
        refine j_aload_n hK dX10_tour_20 0 rfl rfl ?_
        refine j_getR hK fl_X10_49 dX10_tour_21 zo_0 zf_10_5 zr_0_5 ?_
        obtain ⟨r11, S12, h13, hf⟩ := bd_J hf
        refine k_callVv hK (c_X9_measure h13) dX10_tour_24 zclX9 zo_98 ml_X10_153 mi_X9_measure mx_X9_measure in_X9 mc_X9_measure hy_X9_measure ⟨by decide, by decide⟩ rfl (Nat.le_of_ble_eq_true rfl) ?_
        refine j_iload_n hK dX10_tour_27 2 rfl rfl ?_
        refine j_aload_n hK dX10_tour_28 0 rfl rfl ?_
        refine j_getR hK fl_X10_49 dX10_tour_29 zo_0 zf_10_5 zr_0_5 ?_
        refine j_iload_n hK dX10_tour_32 1 rfl rfl ?_
        refine j_pc (pc' := 33) rfl ?_
        obtain ⟨r14, S15, h16, hf⟩ := bd_J hf
        refine k_callVi hK (c_X9_joinedTo h16) dX10_tour_33 zclX9 zo_98 ml_X10_156 mi_X9_joinedTo mx_X9_joinedTo in_X9 mc_X9_joinedTo hy_X9_joinedTo ⟨by decide, by decide⟩ rfl (Nat.le_of_ble_eq_true rfl) ?_
        refine j_iconst hK (-1 : Int32) dX10_tour_36 ic_m1 ?_
        refine j_ixor hK dX10_tour_37 ?_
        refine j_iand hK dX10_tour_38 ?_
        refine j_if_eq hK 45 dX10_tour_39 (by decide) (fun hc => ?_) (fun hc => ?_)
        · replace hf := if_1 hc hf
          refine j_iload_n hK dX10_tour_45 2 rfl rfl ?_
          refine j_iconst hK (1 : Int32) dX10_tour_46 ic_1 ?_
          refine j_iload_n hK dX10_tour_47 1 rfl rfl ?_
          refine j_ishl hK dX10_tour_48 ?_
          refine j_iconst hK (-1 : Int32) dX10_tour_49 ic_m1 ?_
          refine j_ixor hK dX10_tour_50 ?_
          refine j_iand hK dX10_tour_51 ?_
          refine j_pc (pc' := 52) rfl ?_
          refine lt_I hf (fun y17 hf => ?_)
          refine j_istore_n hK (L' := [(3, .int y17), (0, .ref 0), (1, .int p1), (2, .int p2)]) dX10_tour_52 rfl (by decide) rfl ?_
          refine j_aload_n hK dX10_tour_53 1 rfl rfl ?_
          refine j_getR hK fl_X10_49 dX10_tour_54 zo_0 zf_10_5 zr_0_5 ?_
          refine j_iload_n hK dX10_tour_57 2 rfl rfl ?_
          refine j_iload_n hK dX10_tour_58 0 rfl rfl ?_
          obtain ⟨r18, S19, h20, hf⟩ := bd_J hf
          refine k_callVv hK (c_X9_planTours h20) dX10_tour_59 zclX9 zo_98 ml_X10_321 mi_X9_planTours mx_X9_planTours in_X9 mc_X9_planTours hy_X9_planTours ⟨by decide, by decide⟩ rfl (Nat.le_of_ble_eq_true rfl) ?_
          refine j_aload_n hK dX10_tour_62 1 rfl rfl ?_
          refine j_getR hK fl_X10_49 dX10_tour_63 zo_0 zf_10_5 zr_0_5 ?_
          refine j_pc (pc' := 66) rfl ?_
          refine j_iload_n hK dX10_tour_66 0 rfl rfl ?_
          refine j_iload_n hK dX10_tour_67 2 rfl rfl ?_
          obtain ⟨r21, S22, h23, hf⟩ := bd_J hf
          refine k_callVi hK (c_X9_minutesLeft h23) dX10_tour_68 zclX9 zo_98 ml_X10_324 mi_X9_minutesLeft mx_X9_minutesLeft in_X9 mc_X9_minutesLeft hy_X9_minutesLeft ⟨by decide, by decide⟩ rfl (Nat.le_of_ble_eq_true rfl) ?_
          refine j_istore hK (L' := [(4, .int r21), (3, .int y17), (0, .ref 0), (1, .int p1), (2, .int p2)]) dX10_tour_71 (by decide) rfl ?_
          refine j_aload_n hK dX10_tour_73 2 rfl rfl ?_
          refine j_getR hK fl_X10_26 dX10_tour_74 zo_0 zf_10_2 zr_0_2 ?_
          obtain ⟨r24, S25, h26, hf⟩ := bd_J hf
          refine k_callVv hK (c_X5_begin h26) dX10_tour_77 zclX5 zo_10 ml_X10_185 mi_X5_begin mx_X5_begin in_X5 mc_X5_begin hy_X5_begin ⟨by decide, by decide⟩ rfl (Nat.le_of_ble_eq_true rfl) ?_
          refine j_iload_n hK dX10_tour_80 3 rfl rfl ?_
          refine j_pc (pc' := 81) rfl ?_
          refine j_istore hK (L' := [(5, .int p1), (4, .int r21), (3, .int y17), (0, .ref 0), (1, .int p1), (2, .int p2)]) dX10_tour_81 (by decide) rfl ?_
          refine j_iload_n hK dX10_tour_83 2 rfl rfl ?_
          obtain ⟨r27, S28, h29, hf⟩ := bd_J hf
          refine k_callSi hK (c_J6_bitCount_0f7a4 h29) dX10_tour_84 ml_X10_263 ms_J6_bitCount_0f7a4 in_J6 mc_J6_bitCount_0f7a4 hy_J6_bitCount_0f7a4 ⟨by decide, by decide⟩ rfl (Nat.le_of_ble_eq_true rfl) ?_
          refine j_istore hK (L' := [(6, .int r27), (5, .int p1), (4, .int r21), (3, .int y17), (0, .ref 0), (1, .int p1), (2, .int p2)]) dX10_tour_87 (by decide) rfl ?_
          refine j_sub [4, 3, 2, 1, 0] rfl ?_
          refine t_X10_tour_89 hK hA  (fun v30 S31 hf => ?_) _ _ _ hf
          refine j_iload hK dX10_tour_131 0 rfl ?_
          exact j_iret hK dX10_tour_133 rfl (rt_I hA hf)
        · replace hf := if_2 hc hf
          refine j_bipush hK (-2 : Int32) dX10_tour_42 bi_m2 ?_
          exact j_iret hK dX10_tour_44 rfl (rt_I hA hf)
      · replace hf := if_2 hc hf
        refine j_iconst hK (-1 : Int32) dX10_tour_18 ic_m1 ?_
        exact j_iret hK dX10_tour_19 rfl (rt_I hA hf)
def f_X9_acrossOf_78 (x1 : Int32) (x2 : Int32) (x3 : Int32) (k e : Int32 × Int32 → St → Option (Int32 × St)) (S : St) : Option (Int32 × St) := k (x2, (x3 + (1 : Int32))) S
theorem t_X9_acrossOf_78 {K : CT} (hK : KO K cX9_acrossOf RX9 4 2 (some .int)) {r : Int32} {S' : St} (hA : zans K (some (.int r), S')) {x1 : Int32} {x2 : Int32} {x3 : Int32} {k e : Int32 × Int32 → St → Option (Int32 × St)} (hk : ∀ (v : Int32 × Int32) (S : St), k v S = some (r, S') → J K 4 [(0, .ref 98), (1, .int x1), (2, .int v.1), (3, .int v.2)] [] S) (he : ∀ (v : Int32 × Int32) (S : St), e v S = some (r, S') → J K 84 [(2, .int v.1)] [] S) {S : St} (hf : f_X9_acrossOf_78 x1 x2 x3 k e S = some (r, S')) : J K 78 [(0, .ref 98), (1, .int x1), (2, .int x2), (3, .int x3)] [] S := by
  unfold f_X9_acrossOf_78 at hf
  refine j_iinc hK (L' := [(3, .int (x3 + (1 : Int32))), (0, .ref 98), (1, .int x1), (2, .int x2)]) dX9_acrossOf_78 3 rfl (congrArg (fun y => x3 + y) ic_1) (by decide) rfl ?_
  refine j_goto hK 4 dX9_acrossOf_81 (by decide) ?_
  refine j_sub [1, 2, 3, 0] rfl ?_
  exact hk _ _ hf
def f_X9_acrossOf_4b (x1 : Int32) (e : Int32 × Int32 → St → Option (Int32 × St)) (k : Int32 × Int32 → St → Option (Int32 × St)) (v : Int32 × Int32) (S : St) : Option (Int32 × St) := (if (gI S 3 2) ≤ v.2 then e (v.1, v.2) S else bd (f_X0_isOpen v.2 S) (fun r1 S2 => (if r1 = 0 then f_X9_acrossOf_78 x1 v.1 v.2 k e S2 else if inb v.2 12 then if inb v.2 12 then lt (((x1 >>> ((gI S2 4 v.2.toNatClampNeg) &&& 31)) &&& (1 : Int32)) <<< ((gI S2 5 v.2.toNatClampNeg) &&& 31)) (fun y6 => lt (v.1 ||| y6) (fun y7 => if inb v.2 12 then if inb v.2 12 then lt (((x1 >>> ((gI S2 5 v.2.toNatClampNeg) &&& 31)) &&& (1 : Int32)) <<< ((gI S2 4 v.2.toNatClampNeg) &&& 31)) (fun y10 => lt (y7 ||| y10) (fun y11 => f_X9_acrossOf_78 x1 y11 v.2 k e S2)) else none else none)) else none else none)))
theorem t_X9_acrossOf_4 {K : CT} (hK : KO K cX9_acrossOf RX9 4 2 (some .int)) {r : Int32} {S' : St} (hA : zans K (some (.int r), S')) {x1 : Int32} {e : Int32 × Int32 → St → Option (Int32 × St)} (he : ∀ (v : Int32 × Int32) (S : St), e v S = some (r, S') → J K 84 [(2, .int v.1)] [] S) : ∀ (n : Nat) (v : Int32 × Int32) (S : St), lp (f_X9_acrossOf_4b x1 e) n v S = some (r, S') → J K 4 [(0, .ref 98), (1, .int x1), (2, .int v.1), (3, .int v.2)] [] S :=
  lp_J (P := fun (v : Int32 × Int32) (S : St) => J K 4 [(0, .ref 98), (1, .int x1), (2, .int v.1), (3, .int v.2)] [] S) (fun k hk v S hf => by
    unfold f_X9_acrossOf_4b at hf
    refine j_iload_n hK dX9_acrossOf_4 3 rfl rfl ?_
    refine j_aload_n hK dX9_acrossOf_5 0 rfl rfl ?_
    refine j_getR hK fl_X9_9 dX9_acrossOf_6 zo_98 zf_9_0 zr_98_0 ?_
    refine j_getI hK fl_X9_22 dX9_acrossOf_9 zo_3 zf_0_2 ?_
    refine j_icmp_ge hK 84 dX9_acrossOf_12 (by decide) (fun hc => ?_) (fun hc => ?_)
    · replace hf := if_1 hc hf
      refine j_sub [2] rfl ?_
      exact he _ _ hf
    · replace hf := if_2 hc hf
      refine j_aload_n hK dX9_acrossOf_15 0 rfl rfl ?_
      refine j_getR hK fl_X9_9 dX9_acrossOf_16 zo_98 zf_9_0 zr_98_0 ?_
      refine j_iload_n hK dX9_acrossOf_19 3 rfl rfl ?_
      obtain ⟨r1, S2, h3, hf⟩ := bd_J hf
      refine k_callVi hK (c_X0_isOpen h3) dX9_acrossOf_20 zclX0 zo_3 ml_X9_28 mi_X0_isOpen mx_X0_isOpen in_X0 mc_X0_isOpen hy_X0_isOpen ⟨by decide, by decide⟩ rfl (Nat.le_of_ble_eq_true rfl) ?_
      refine j_if_eq hK 78 dX9_acrossOf_23 (by decide) (fun hc => ?_) (fun hc => ?_)
      · replace hf := if_1 hc hf
        exact t_X9_acrossOf_78 hK hA hk he hf
      · replace hf := if_2 hc hf
        refine j_iload_n hK dX9_acrossOf_26 2 rfl rfl ?_
        refine j_iload_n hK dX9_acrossOf_27 1 rfl rfl ?_
        refine j_aload_n hK dX9_acrossOf_28 0 rfl rfl ?_
        refine j_getR hK fl_X9_9 dX9_acrossOf_29 zo_98 zf_9_0 zr_98_0 ?_
        refine j_getR hK fl_X9_32 dX9_acrossOf_32 zo_3 zf_0_0 zr_3_0 ?_
        refine j_iload_n hK dX9_acrossOf_35 3 rfl rfl ?_
        obtain ⟨hi4, hf⟩ := gd hf
        refine k_iald hK dX9_acrossOf_36 zb_4 hi4 rfl ?_
        refine j_pc (pc' := 37) rfl ?_
        refine j_ishr hK dX9_acrossOf_37 ?_
        refine j_iconst hK (1 : Int32) dX9_acrossOf_38 ic_1 ?_
        refine j_iand hK dX9_acrossOf_39 ?_
        refine j_aload_n hK dX9_acrossOf_40 0 rfl rfl ?_
        refine j_getR hK fl_X9_9 dX9_acrossOf_41 zo_98 zf_9_0 zr_98_0 ?_
        refine j_getR hK fl_X9_35 dX9_acrossOf_44 zo_3 zf_0_1 zr_3_1 ?_
        refine j_iload_n hK dX9_acrossOf_47 3 rfl rfl ?_
        obtain ⟨hi5, hf⟩ := gd hf
        refine k_iald hK dX9_acrossOf_48 zb_5 hi5 rfl ?_
        refine j_pc (pc' := 49) rfl ?_
        refine j_ishl hK dX9_acrossOf_49 ?_
        refine lt_I hf (fun y6 hf => ?_)
        refine j_ior hK dX9_acrossOf_50 ?_
        refine lt_I hf (fun y7 hf => ?_)
        refine j_istore_n hK (L' := [(2, .int y7), (0, .ref 98), (1, .int x1), (3, .int v.2)]) dX9_acrossOf_51 rfl (by decide) rfl ?_
        refine j_iload_n hK dX9_acrossOf_52 0 rfl rfl ?_
        refine j_iload_n hK dX9_acrossOf_53 2 rfl rfl ?_
        refine j_aload_n hK dX9_acrossOf_54 1 rfl rfl ?_
        refine j_getR hK fl_X9_9 dX9_acrossOf_55 zo_98 zf_9_0 zr_98_0 ?_
        refine j_getR hK fl_X9_35 dX9_acrossOf_58 zo_3 zf_0_1 zr_3_1 ?_
        refine j_pc (pc' := 61) rfl ?_
        refine j_iload_n hK dX9_acrossOf_61 3 rfl rfl ?_
        obtain ⟨hi8, hf⟩ := gd hf
        refine k_iald hK dX9_acrossOf_62 zb_5 hi8 rfl ?_
        refine j_ishr hK dX9_acrossOf_63 ?_
        refine j_iconst hK (1 : Int32) dX9_acrossOf_64 ic_1 ?_
        refine j_iand hK dX9_acrossOf_65 ?_
        refine j_aload_n hK dX9_acrossOf_66 1 rfl rfl ?_
        refine j_getR hK fl_X9_9 dX9_acrossOf_67 zo_98 zf_9_0 zr_98_0 ?_
        refine j_getR hK fl_X9_32 dX9_acrossOf_70 zo_3 zf_0_0 zr_3_0 ?_
        refine j_pc (pc' := 73) rfl ?_
        refine j_iload_n hK dX9_acrossOf_73 3 rfl rfl ?_
        obtain ⟨hi9, hf⟩ := gd hf
        refine k_iald hK dX9_acrossOf_74 zb_4 hi9 rfl ?_
        refine j_ishl hK dX9_acrossOf_75 ?_
        refine lt_I hf (fun y10 hf => ?_)
        refine j_ior hK dX9_acrossOf_76 ?_
        refine lt_I hf (fun y11 hf => ?_)
        refine j_istore_n hK (L' := [(2, .int y11), (0, .ref 98), (1, .int x1), (3, .int v.2)]) dX9_acrossOf_77 rfl (by decide) rfl ?_
        refine j_sub [1, 2, 0, 3] rfl ?_
        exact t_X9_acrossOf_78 hK hA hk he hf)
def f_X9_acrossOf (p1 : Int32) (S : St) : Option (Int32 × St) := lp (f_X9_acrossOf_4b p1 (fun v12 S13 => some (v12.1, S13))) FU ((0 : Int32), (0 : Int32)) S
theorem c_X9_acrossOf {p1 : Int32} {S : St} {r : Int32} {S' : St} (hf : f_X9_acrossOf p1 S = some (r, S')) : zM yX9_acrossOf cX9_acrossOf 4 2 (some .int) [.ref 98, .int p1] S (some (.int r)) S' := by
  refine zM_of (zpl (by decide)) (Nat.le_of_ble_eq_true rfl) rfl (fun K hK hA => ?_)
  unfold f_X9_acrossOf at hf
  refine j_iconst hK (0 : Int32) dX9_acrossOf_0 ic_0 ?_
  refine j_istore_n hK (L' := [(2, .int (0 : Int32)), (0, .ref 98), (1, .int p1)]) dX9_acrossOf_1 rfl (by decide) rfl ?_
  refine j_iconst hK (0 : Int32) dX9_acrossOf_2 ic_0 ?_
  refine j_istore_n hK (L' := [(3, .int (0 : Int32)), (2, .int (0 : Int32)), (0, .ref 98), (1, .int p1)]) dX9_acrossOf_3 rfl (by decide) rfl ?_
  refine j_sub [2, 3, 1, 0] rfl ?_
  refine t_X9_acrossOf_4 hK hA  (fun v12 S13 hf => ?_) _ _ _ hf
  refine j_iload_n hK dX9_acrossOf_84 0 rfl rfl ?_
  exact j_iret hK dX9_acrossOf_85 rfl (rt_I hA hf)
def f_X9_firstHalf_79 (x1 : Int32) (x2 : Int32) (x3 : Int32) (x4 : Int32) (k e : Int32 × Int32 × Int32 → St → Option (Int32 × St)) (S : St) : Option (Int32 × St) := k (x2, x3, (x4 + (1 : Int32))) S
theorem t_X9_firstHalf_79 {K : CT} (hK : KO K cX9_firstHalf RX9 6 3 (some .int)) {r : Int32} {S' : St} (hA : zans K (some (.int r), S')) {x1 : Int32} {x2 : Int32} {x3 : Int32} {x4 : Int32} {k e : Int32 × Int32 × Int32 → St → Option (Int32 × St)} (hk : ∀ (v : Int32 × Int32 × Int32) (S : St), k v S = some (r, S') → J K 15 [(0, .ref 98), (1, .int x1), (2, .int v.1), (3, .int v.2.1), (4, .int v.2.2)] [] S) (he : ∀ (v : Int32 × Int32 × Int32) (S : St), e v S = some (r, S') → J K 85 [(2, .int v.1), (3, .int v.2.1)] [] S) {S : St} (hf : f_X9_firstHalf_79 x1 x2 x3 x4 k e S = some (r, S')) : J K 79 [(0, .ref 98), (1, .int x1), (2, .int x2), (3, .int x3), (4, .int x4)] [] S := by
  unfold f_X9_firstHalf_79 at hf
  refine j_iinc hK (L' := [(4, .int (x4 + (1 : Int32))), (0, .ref 98), (1, .int x1), (2, .int x2), (3, .int x3)]) dX9_firstHalf_79 4 rfl (congrArg (fun y => x4 + y) ic_1) (by decide) rfl ?_
  refine j_goto hK 15 dX9_firstHalf_82 (by decide) ?_
  refine j_sub [1, 2, 3, 4, 0] rfl ?_
  exact hk _ _ hf
def f_X9_firstHalf_50b (x1 : Int32) (x4 : Int32) (e : Int32 × Int32 × Int32 → St → Option (Int32 × St)) (k : Int32 × Int32 × Int32 → St → Option (Int32 × St)) (v : Int32 × Int32 × Int32) (S : St) : Option (Int32 × St) := (if (8 : Int32) ≤ v.2.2 then e (v.1, v.2.1, v.2.2) S else bd (f_X9_acrossOf v.1 S) (fun r1 S2 => lt (v.2.1 ||| r1) (fun y4 => bd (f_X9_acrossOf y4 S2) (fun r5 S6 => lt (v.1 ||| r5) (fun y8 => k (y8, y4, (v.2.2 + (1 : Int32))) S6)))))
theorem t_X9_firstHalf_50 {K : CT} (hK : KO K cX9_firstHalf RX9 6 3 (some .int)) {r : Int32} {S' : St} (hA : zans K (some (.int r), S')) {x1 : Int32} {x4 : Int32} {e : Int32 × Int32 × Int32 → St → Option (Int32 × St)} (he : ∀ (v : Int32 × Int32 × Int32) (S : St), e v S = some (r, S') → J K 79 [(0, .ref 98), (1, .int x1), (2, .int v.1), (3, .int v.2.1), (4, .int x4)] [] S) : ∀ (n : Nat) (v : Int32 × Int32 × Int32) (S : St), lp (f_X9_firstHalf_50b x1 x4 e) n v S = some (r, S') → J K 50 [(0, .ref 98), (1, .int x1), (2, .int v.1), (3, .int v.2.1), (4, .int x4), (5, .int v.2.2)] [] S :=
  lp_J (P := fun (v : Int32 × Int32 × Int32) (S : St) => J K 50 [(0, .ref 98), (1, .int x1), (2, .int v.1), (3, .int v.2.1), (4, .int x4), (5, .int v.2.2)] [] S) (fun k hk v S hf => by
    unfold f_X9_firstHalf_50b at hf
    refine j_iload hK dX9_firstHalf_50 5 rfl ?_
    refine j_bipush hK (8 : Int32) dX9_firstHalf_52 bi_8 ?_
    refine j_icmp_ge hK 79 dX9_firstHalf_54 (by decide) (fun hc => ?_) (fun hc => ?_)
    · replace hf := if_1 hc hf
      refine j_sub [0, 1, 2, 3, 4] rfl ?_
      exact he _ _ hf
    · replace hf := if_2 hc hf
      refine j_iload_n hK dX9_firstHalf_57 3 rfl rfl ?_
      refine j_aload_n hK dX9_firstHalf_58 0 rfl rfl ?_
      refine j_iload_n hK dX9_firstHalf_59 2 rfl rfl ?_
      obtain ⟨r1, S2, h3, hf⟩ := bd_J hf
      refine k_callVi hK (c_X9_acrossOf h3) dX9_firstHalf_60 zclX9 zo_98 ml_X9_94 mi_X9_acrossOf mx_X9_acrossOf in_X9 mc_X9_acrossOf hy_X9_acrossOf ⟨by decide, by decide⟩ rfl (Nat.le_of_ble_eq_true rfl) ?_
      refine j_ior hK dX9_firstHalf_63 ?_
      refine lt_I hf (fun y4 hf => ?_)
      refine j_istore_n hK (L' := [(3, .int y4), (0, .ref 98), (1, .int x1), (2, .int v.1), (4, .int x4), (5, .int v.2.2)]) dX9_firstHalf_64 rfl (by decide) rfl ?_
      refine j_iload_n hK dX9_firstHalf_65 3 rfl rfl ?_
      refine j_pc (pc' := 66) rfl ?_
      refine j_aload_n hK dX9_firstHalf_66 1 rfl rfl ?_
      refine j_iload_n hK dX9_firstHalf_67 0 rfl rfl ?_
      obtain ⟨r5, S6, h7, hf⟩ := bd_J hf
      refine k_callVi hK (c_X9_acrossOf h7) dX9_firstHalf_68 zclX9 zo_98 ml_X9_94 mi_X9_acrossOf mx_X9_acrossOf in_X9 mc_X9_acrossOf hy_X9_acrossOf ⟨by decide, by decide⟩ rfl (Nat.le_of_ble_eq_true rfl) ?_
      refine j_ior hK dX9_firstHalf_71 ?_
      refine lt_I hf (fun y8 hf => ?_)
      refine j_istore_n hK (L' := [(2, .int y8), (3, .int y4), (0, .ref 98), (1, .int x1), (4, .int x4), (5, .int v.2.2)]) dX9_firstHalf_72 rfl (by decide) rfl ?_
      refine j_iinc hK (L' := [(5, .int (v.2.2 + (1 : Int32))), (2, .int y8), (3, .int y4), (0, .ref 98), (1, .int x1), (4, .int x4)]) dX9_firstHalf_73 5 rfl (congrArg (fun y => v.2.2 + y) ic_1) (by decide) rfl ?_
      refine j_goto hK 50 dX9_firstHalf_76 (by decide) ?_
      refine j_sub [3, 4, 1, 2, 5, 0] rfl ?_
      exact hk _ _ hf)
def f_X9_firstHalf_15b (x1 : Int32) (e : Int32 × Int32 × Int32 → St → Option (Int32 × St)) (k : Int32 × Int32 × Int32 → St → Option (Int32 × St)) (v : Int32 × Int32 × Int32) (S : St) : Option (Int32 × St) := (if (8 : Int32) ≤ v.2.2 then e (v.1, v.2.1, v.2.2) S else lt (((x1 &&& (v.1 ^^^ (-1 : Int32))) &&& (v.2.1 ^^^ (-1 : Int32))) >>> (v.2.2 &&& 31)) (fun y9 => (if (y9 &&& (1 : Int32)) = (1 : Int32) then lt (v.1 ||| ((1 : Int32) <<< (v.2.2 &&& 31))) (fun y10 => lp (f_X9_firstHalf_50b x1 v.2.2 (fun v11 S12 => f_X9_firstHalf_79 x1 v11.1 v11.2.1 v.2.2 k e S12)) FU (y10, v.2.1, (0 : Int32)) S) else f_X9_firstHalf_79 x1 v.1 v.2.1 v.2.2 k e S)))
theorem t_X9_firstHalf_15 {K : CT} (hK : KO K cX9_firstHalf RX9 6 3 (some .int)) {r : Int32} {S' : St} (hA : zans K (some (.int r), S')) {x1 : Int32} {e : Int32 × Int32 × Int32 → St → Option (Int32 × St)} (he : ∀ (v : Int32 × Int32 × Int32) (S : St), e v S = some (r, S') → J K 85 [(2, .int v.1), (3, .int v.2.1)] [] S) : ∀ (n : Nat) (v : Int32 × Int32 × Int32) (S : St), lp (f_X9_firstHalf_15b x1 e) n v S = some (r, S') → J K 15 [(0, .ref 98), (1, .int x1), (2, .int v.1), (3, .int v.2.1), (4, .int v.2.2)] [] S :=
  lp_J (P := fun (v : Int32 × Int32 × Int32) (S : St) => J K 15 [(0, .ref 98), (1, .int x1), (2, .int v.1), (3, .int v.2.1), (4, .int v.2.2)] [] S) (fun k hk v S hf => by
    unfold f_X9_firstHalf_15b at hf
    refine j_iload hK dX9_firstHalf_15 4 rfl ?_
    refine j_bipush hK (8 : Int32) dX9_firstHalf_17 bi_8 ?_
    refine j_icmp_ge hK 85 dX9_firstHalf_19 (by decide) (fun hc => ?_) (fun hc => ?_)
    · replace hf := if_1 hc hf
      refine j_sub [2, 3] rfl ?_
      exact he _ _ hf
    · replace hf := if_2 hc hf
      refine j_iload_n hK dX9_firstHalf_22 1 rfl rfl ?_
      refine j_iload_n hK dX9_firstHalf_23 2 rfl rfl ?_
      refine j_iconst hK (-1 : Int32) dX9_firstHalf_24 ic_m1 ?_
      refine j_ixor hK dX9_firstHalf_25 ?_
      refine j_iand hK dX9_firstHalf_26 ?_
      refine j_iload_n hK dX9_firstHalf_27 3 rfl rfl ?_
      refine j_iconst hK (-1 : Int32) dX9_firstHalf_28 ic_m1 ?_
      refine j_pc (pc' := 29) rfl ?_
      refine j_ixor hK dX9_firstHalf_29 ?_
      refine j_iand hK dX9_firstHalf_30 ?_
      refine j_iload hK dX9_firstHalf_31 4 rfl ?_
      refine j_ishr hK dX9_firstHalf_33 ?_
      refine lt_I hf (fun y9 hf => ?_)
      refine j_iconst hK (1 : Int32) dX9_firstHalf_34 ic_1 ?_
      refine j_iand hK dX9_firstHalf_35 ?_
      refine j_iconst hK (1 : Int32) dX9_firstHalf_36 ic_1 ?_
      refine j_icmp_ne hK 79 dX9_firstHalf_37 (by decide) (fun hc => ?_) (fun hc => ?_)
      · replace hf := if_2 hc hf
        exact t_X9_firstHalf_79 hK hA hk he hf
      · replace hf := if_1 hc hf
        refine j_iload_n hK dX9_firstHalf_40 2 rfl rfl ?_
        refine j_iconst hK (1 : Int32) dX9_firstHalf_41 ic_1 ?_
        refine j_iload hK dX9_firstHalf_42 4 rfl ?_
        refine j_ishl hK dX9_firstHalf_44 ?_
        refine j_ior hK dX9_firstHalf_45 ?_
        refine lt_I hf (fun y10 hf => ?_)
        refine j_istore_n hK (L' := [(2, .int y10), (0, .ref 98), (1, .int x1), (3, .int v.2.1), (4, .int v.2.2)]) dX9_firstHalf_46 rfl (by decide) rfl ?_
        refine j_iconst hK (0 : Int32) dX9_firstHalf_47 ic_0 ?_
        refine j_pc (pc' := 48) rfl ?_
        refine j_istore hK (L' := [(5, .int (0 : Int32)), (2, .int y10), (0, .ref 98), (1, .int x1), (3, .int v.2.1), (4, .int v.2.2)]) dX9_firstHalf_48 (by decide) rfl ?_
        refine j_sub [2, 3, 1, 4, 5, 0] rfl ?_
        refine t_X9_firstHalf_50 hK hA  (fun v11 S12 hf => ?_) _ _ _ hf
        exact t_X9_firstHalf_79 hK hA hk he hf)
def f_X9_firstHalf (S : St) : Option (Int32 × St) := bd (f_X0_enteredCaverns S) (fun r13 S14 => lp (f_X9_firstHalf_15b r13 (fun v16 S17 => (if (v16.1 &&& v16.2.1) = 0 then some (v16.1, S17) else some ((-1 : Int32), S17)))) FU ((0 : Int32), (0 : Int32), (0 : Int32)) S14)
theorem c_X9_firstHalf {S : St} {r : Int32} {S' : St} (hf : f_X9_firstHalf S = some (r, S')) : zM yX9_firstHalf cX9_firstHalf 6 3 (some .int) [.ref 98] S (some (.int r)) S' := by
  refine zM_of (zpl (by decide)) (Nat.le_of_ble_eq_true rfl) rfl (fun K hK hA => ?_)
  unfold f_X9_firstHalf at hf
  refine j_aload_n hK dX9_firstHalf_0 0 rfl rfl ?_
  refine j_getR hK fl_X9_9 dX9_firstHalf_1 zo_98 zf_9_0 zr_98_0 ?_
  obtain ⟨r13, S14, h15, hf⟩ := bd_J hf
  refine k_callVi hK (c_X0_enteredCaverns h15) dX9_firstHalf_4 zclX0 zo_3 ml_X9_90 mi_X0_enteredCaverns mx_X0_enteredCaverns in_X0 mc_X0_enteredCaverns hy_X0_enteredCaverns ⟨by decide, by decide⟩ rfl (Nat.le_of_ble_eq_true rfl) ?_
  refine j_istore_n hK (L' := [(1, .int r13), (0, .ref 98)]) dX9_firstHalf_7 rfl (by decide) rfl ?_
  refine j_iconst hK (0 : Int32) dX9_firstHalf_8 ic_0 ?_
  refine j_istore_n hK (L' := [(2, .int (0 : Int32)), (1, .int r13), (0, .ref 98)]) dX9_firstHalf_9 rfl (by decide) rfl ?_
  refine j_iconst hK (0 : Int32) dX9_firstHalf_10 ic_0 ?_
  refine j_istore_n hK (L' := [(3, .int (0 : Int32)), (2, .int (0 : Int32)), (1, .int r13), (0, .ref 98)]) dX9_firstHalf_11 rfl (by decide) rfl ?_
  refine j_pc (pc' := 12) rfl ?_
  refine j_iconst hK (0 : Int32) dX9_firstHalf_12 ic_0 ?_
  refine j_istore hK (L' := [(4, .int (0 : Int32)), (3, .int (0 : Int32)), (2, .int (0 : Int32)), (1, .int r13), (0, .ref 98)]) dX9_firstHalf_13 (by decide) rfl ?_
  refine j_sub [4, 3, 2, 1, 0] rfl ?_
  refine t_X9_firstHalf_15 hK hA  (fun v16 S17 hf => ?_) _ _ _ hf
  refine j_iload_n hK dX9_firstHalf_85 0 rfl rfl ?_
  refine j_iload_n hK dX9_firstHalf_86 1 rfl rfl ?_
  refine j_iand hK dX9_firstHalf_87 ?_
  refine j_if_ne hK 95 dX9_firstHalf_88 (by decide) (fun hc => ?_) (fun hc => ?_)
  · replace hf := if_2 hc hf
    refine j_iconst hK (-1 : Int32) dX9_firstHalf_95 ic_m1 ?_
    exact j_iret hK dX9_firstHalf_96 rfl (rt_I hA hf)
  · replace hf := if_1 hc hf
    refine j_iload_n hK dX9_firstHalf_91 0 rfl rfl ?_
    refine j_goto hK 96 dX9_firstHalf_92 (by decide) ?_
    exact j_iret hK dX9_firstHalf_96 rfl (rt_I hA hf)
def f_X10_halves (S : St) : Option (Int32 × St) := bd (f_X9_firstHalf S) (fun r1 S2 => bd (f_X5_begin S2) (fun r4 S5 => (if r1 = (-1 : Int32) then some ((0 : Int32), S5) else bd (f_X5_put r1.toInt64 S5) (fun r7 S8 => some ((1 : Int32), S8)))))
theorem c_X10_halves {S : St} {r : Int32} {S' : St} (hf : f_X10_halves S = some (r, S')) : zM yX10_halves cX10_halves 2 4 (some .int) [.ref 0] S (some (.int r)) S' := by
  refine zM_of (zpl (by decide)) (Nat.le_of_ble_eq_true rfl) rfl (fun K hK hA => ?_)
  unfold f_X10_halves at hf
  refine j_aload_n hK dX10_halves_0 0 rfl rfl ?_
  refine j_getR hK fl_X10_49 dX10_halves_1 zo_0 zf_10_5 zr_0_5 ?_
  obtain ⟨r1, S2, h3, hf⟩ := bd_J hf
  refine k_callVi hK (c_X9_firstHalf h3) dX10_halves_4 zclX9 zo_98 ml_X10_330 mi_X9_firstHalf mx_X9_firstHalf in_X9 mc_X9_firstHalf hy_X9_firstHalf ⟨by decide, by decide⟩ rfl (Nat.le_of_ble_eq_true rfl) ?_
  refine j_istore_n hK (L' := [(1, .int r1), (0, .ref 0)]) dX10_halves_7 rfl (by decide) rfl ?_
  refine j_aload_n hK dX10_halves_8 1 rfl rfl ?_
  refine j_getR hK fl_X10_26 dX10_halves_9 zo_0 zf_10_2 zr_0_2 ?_
  obtain ⟨r4, S5, h6, hf⟩ := bd_J hf
  refine k_callVv hK (c_X5_begin h6) dX10_halves_12 zclX5 zo_10 ml_X10_185 mi_X5_begin mx_X5_begin in_X5 mc_X5_begin hy_X5_begin ⟨by decide, by decide⟩ rfl (Nat.le_of_ble_eq_true rfl) ?_
  refine j_iload_n hK dX10_halves_15 0 rfl rfl ?_
  refine j_pc (pc' := 16) rfl ?_
  refine j_iconst hK (-1 : Int32) dX10_halves_16 ic_m1 ?_
  refine j_icmp_ne hK 22 dX10_halves_17 (by decide) (fun hc => ?_) (fun hc => ?_)
  · replace hf := if_2 hc hf
    refine j_aload_n hK dX10_halves_22 1 rfl rfl ?_
    refine j_getR hK fl_X10_26 dX10_halves_23 zo_0 zf_10_2 zr_0_2 ?_
    refine j_iload_n hK dX10_halves_26 0 rfl rfl ?_
    refine j_i2l hK dX10_halves_27 ?_
    obtain ⟨r7, S8, h9, hf⟩ := bd_J hf
    refine k_callVv hK (c_X5_put h9) dX10_halves_28 zclX5 zo_10 ml_X10_191 mi_X5_put mx_X5_put in_X5 mc_X5_put hy_X5_put ⟨by decide, by decide⟩ rfl (Nat.le_of_ble_eq_true rfl) ?_
    refine j_iconst hK (1 : Int32) dX10_halves_31 ic_1 ?_
    exact j_iret hK dX10_halves_32 rfl (rt_I hA hf)
  · replace hf := if_1 hc hf
    refine j_iconst hK (0 : Int32) dX10_halves_20 ic_0 ?_
    exact j_iret hK dX10_halves_21 rfl (rt_I hA hf)
def f_X9_guarded_39 (x1 : Int32) (x2 : Int32) (k e : Int32 → St → Option (Int32 × St)) (S : St) : Option (Int32 × St) := k (x2 + (1 : Int32)) S
theorem t_X9_guarded_39 {K : CT} (hK : KO K cX9_guarded RX9 3 2 (some .boolean)) {r : Int32} {S' : St} (hA : zans K (some (.int r), S')) {x1 : Int32} {x2 : Int32} {k e : Int32 → St → Option (Int32 × St)} (hk : ∀ (v : Int32) (S : St), k v S = some (r, S') → J K 2 [(0, .ref 98), (1, .int x1), (2, .int v)] [] S) (he : ∀ (v : Int32) (S : St), e v S = some (r, S') → J K 45 [] [] S) {S : St} (hf : f_X9_guarded_39 x1 x2 k e S = some (r, S')) : J K 39 [(0, .ref 98), (1, .int x1), (2, .int x2)] [] S := by
  unfold f_X9_guarded_39 at hf
  refine j_iinc hK (L' := [(2, .int (x2 + (1 : Int32))), (0, .ref 98), (1, .int x1)]) dX9_guarded_39 2 rfl (congrArg (fun y => x2 + y) ic_1) (by decide) rfl ?_
  refine j_goto hK 2 dX9_guarded_42 (by decide) ?_
  refine j_sub [1, 2, 0] rfl ?_
  exact hk _ _ hf
def f_X9_guarded_2b (x1 : Int32) (e : Int32 → St → Option (Int32 × St)) (k : Int32 → St → Option (Int32 × St)) (v : Int32) (S : St) : Option (Int32 × St) := (if (gI S 3 2) ≤ v then e v S else bd (f_X0_isOpen v S) (fun r1 S2 => (if r1 = 0 then f_X9_guarded_39 x1 v k e S2 else bd (f_X0_endsOf v S2) (fun r4 S5 => (if (x1 &&& r4) = 0 then some ((0 : Int32), S5) else f_X9_guarded_39 x1 v k e S5)))))
theorem t_X9_guarded_2 {K : CT} (hK : KO K cX9_guarded RX9 3 2 (some .boolean)) {r : Int32} {S' : St} (hA : zans K (some (.int r), S')) {x1 : Int32} {e : Int32 → St → Option (Int32 × St)} (he : ∀ (v : Int32) (S : St), e v S = some (r, S') → J K 45 [] [] S) : ∀ (n : Nat) (v : Int32) (S : St), lp (f_X9_guarded_2b x1 e) n v S = some (r, S') → J K 2 [(0, .ref 98), (1, .int x1), (2, .int v)] [] S :=
  lp_J (P := fun (v : Int32) (S : St) => J K 2 [(0, .ref 98), (1, .int x1), (2, .int v)] [] S) (fun k hk v S hf => by
    unfold f_X9_guarded_2b at hf
    refine j_iload_n hK dX9_guarded_2 2 rfl rfl ?_
    refine j_aload_n hK dX9_guarded_3 0 rfl rfl ?_
    refine j_getR hK fl_X9_9 dX9_guarded_4 zo_98 zf_9_0 zr_98_0 ?_
    refine j_getI hK fl_X9_22 dX9_guarded_7 zo_3 zf_0_2 ?_
    refine j_icmp_ge hK 45 dX9_guarded_10 (by decide) (fun hc => ?_) (fun hc => ?_)
    · replace hf := if_1 hc hf
      refine j_sub [] rfl ?_
      exact he _ _ hf
    · replace hf := if_2 hc hf
      refine j_aload_n hK dX9_guarded_13 0 rfl rfl ?_
      refine j_getR hK fl_X9_9 dX9_guarded_14 zo_98 zf_9_0 zr_98_0 ?_
      refine j_iload_n hK dX9_guarded_17 2 rfl rfl ?_
      obtain ⟨r1, S2, h3, hf⟩ := bd_J hf
      refine k_callVi hK (c_X0_isOpen h3) dX9_guarded_18 zclX0 zo_3 ml_X9_28 mi_X0_isOpen mx_X0_isOpen in_X0 mc_X0_isOpen hy_X0_isOpen ⟨by decide, by decide⟩ rfl (Nat.le_of_ble_eq_true rfl) ?_
      refine j_if_eq hK 39 dX9_guarded_21 (by decide) (fun hc => ?_) (fun hc => ?_)
      · replace hf := if_1 hc hf
        exact t_X9_guarded_39 hK hA hk he hf
      · replace hf := if_2 hc hf
        refine j_iload_n hK dX9_guarded_24 1 rfl rfl ?_
        refine j_aload_n hK dX9_guarded_25 0 rfl rfl ?_
        refine j_getR hK fl_X9_9 dX9_guarded_26 zo_98 zf_9_0 zr_98_0 ?_
        refine j_iload_n hK dX9_guarded_29 2 rfl rfl ?_
        obtain ⟨r4, S5, h6, hf⟩ := bd_J hf
        refine k_callVi hK (c_X0_endsOf h6) dX9_guarded_30 zclX0 zo_3 ml_X9_70 mi_X0_endsOf mx_X0_endsOf in_X0 mc_X0_endsOf hy_X0_endsOf ⟨by decide, by decide⟩ rfl (Nat.le_of_ble_eq_true rfl) ?_
        refine j_iand hK dX9_guarded_33 ?_
        refine j_if_ne hK 39 dX9_guarded_34 (by decide) (fun hc => ?_) (fun hc => ?_)
        · replace hf := if_2 hc hf
          exact t_X9_guarded_39 hK hA hk he hf
        · replace hf := if_1 hc hf
          refine j_iconst hK (0 : Int32) dX9_guarded_37 ic_0 ?_
          exact j_zret hK dX9_guarded_38 rfl rfl (rt_I hA hf))
def f_X9_guarded (p1 : Int32) (S : St) : Option (Int32 × St) := lp (f_X9_guarded_2b p1 (fun v7 S8 => some ((1 : Int32), S8))) FU (0 : Int32) S
theorem c_X9_guarded {p1 : Int32} {S : St} {r : Int32} {S' : St} (hf : f_X9_guarded p1 S = some (r, S')) : zM yX9_guarded cX9_guarded 3 2 (some .boolean) [.ref 98, .int p1] S (some (.int r)) S' := by
  refine zM_of (zpl (by decide)) (Nat.le_of_ble_eq_true rfl) rfl (fun K hK hA => ?_)
  unfold f_X9_guarded at hf
  refine j_iconst hK (0 : Int32) dX9_guarded_0 ic_0 ?_
  refine j_istore_n hK (L' := [(2, .int (0 : Int32)), (0, .ref 98), (1, .int p1)]) dX9_guarded_1 rfl (by decide) rfl ?_
  refine j_sub [1, 2, 0] rfl ?_
  refine t_X9_guarded_2 hK hA  (fun v7 S8 hf => ?_) _ _ _ hf
  refine j_iconst hK (1 : Int32) dX9_guarded_45 ic_1 ?_
  exact j_zret hK dX9_guarded_46 rfl rfl (rt_I hA hf)
def f_X10_guides_37 (x1 : Int32) (x2 : Int32) (k e : Int32 × Int32 → St → Option (Int32 × St)) (S : St) : Option (Int32 × St) := k (x1, (x2 + (1 : Int32))) S
theorem t_X10_guides_37 {K : CT} (hK : KO K cX10_guides RX10 3 3 (some .int)) {r : Int32} {S' : St} (hA : zans K (some (.int r), S')) {x1 : Int32} {x2 : Int32} {k e : Int32 × Int32 → St → Option (Int32 × St)} (hk : ∀ (v : Int32 × Int32) (S : St), k v S = some (r, S') → J K 6 [(0, .ref 0), (1, .int v.1), (2, .int v.2)] [] S) (he : ∀ (v : Int32 × Int32) (S : St), e v S = some (r, S') → J K 43 [(0, .ref 0), (1, .int v.1)] [] S) {S : St} (hf : f_X10_guides_37 x1 x2 k e S = some (r, S')) : J K 37 [(0, .ref 0), (1, .int x1), (2, .int x2)] [] S := by
  unfold f_X10_guides_37 at hf
  refine j_iinc hK (L' := [(2, .int (x2 + (1 : Int32))), (0, .ref 0), (1, .int x1)]) dX10_guides_37 2 rfl (congrArg (fun y => x2 + y) ic_1) (by decide) rfl ?_
  refine j_goto hK 6 dX10_guides_40 (by decide) ?_
  refine j_sub [1, 2, 0] rfl ?_
  exact hk _ _ hf
def f_X10_guides_6b (e : Int32 × Int32 → St → Option (Int32 × St)) (k : Int32 × Int32 → St → Option (Int32 × St)) (v : Int32 × Int32) (S : St) : Option (Int32 × St) := (if (255 : Int32) < v.2 then e (v.1, v.2) S else bd (f_J6_bitCount_0f7a4 v.2 S) (fun r1 S2 => bd (f_J6_bitCount_0f7a4 v.1 S2) (fun r4 S5 => (if r4 ≤ r1 then f_X10_guides_37 v.1 v.2 k e S5 else bd (f_X9_guarded v.2 S5) (fun r7 S8 => (if r7 = 0 then f_X10_guides_37 v.1 v.2 k e S8 else f_X10_guides_37 v.2 v.2 k e S8))))))
theorem t_X10_guides_6 {K : CT} (hK : KO K cX10_guides RX10 3 3 (some .int)) {r : Int32} {S' : St} (hA : zans K (some (.int r), S')) {e : Int32 × Int32 → St → Option (Int32 × St)} (he : ∀ (v : Int32 × Int32) (S : St), e v S = some (r, S') → J K 43 [(0, .ref 0), (1, .int v.1)] [] S) : ∀ (n : Nat) (v : Int32 × Int32) (S : St), lp (f_X10_guides_6b  e) n v S = some (r, S') → J K 6 [(0, .ref 0), (1, .int v.1), (2, .int v.2)] [] S :=
  lp_J (P := fun (v : Int32 × Int32) (S : St) => J K 6 [(0, .ref 0), (1, .int v.1), (2, .int v.2)] [] S) (fun k hk v S hf => by
    unfold f_X10_guides_6b at hf
    refine j_iload_n hK dX10_guides_6 2 rfl rfl ?_
    refine j_sipush hK (255 : Int32) dX10_guides_7 si_255 ?_
    refine j_icmp_gt hK 43 dX10_guides_10 (by decide) (fun hc => ?_) (fun hc => ?_)
    · replace hf := if_1 hc hf
      refine j_sub [0, 1] rfl ?_
      exact he _ _ hf
    · replace hf := if_2 hc hf
      refine j_iload_n hK dX10_guides_13 2 rfl rfl ?_
      obtain ⟨r1, S2, h3, hf⟩ := bd_J hf
      refine k_callSi hK (c_J6_bitCount_0f7a4 h3) dX10_guides_14 ml_X10_263 ms_J6_bitCount_0f7a4 in_J6 mc_J6_bitCount_0f7a4 hy_J6_bitCount_0f7a4 ⟨by decide, by decide⟩ rfl (Nat.le_of_ble_eq_true rfl) ?_
      refine j_iload_n hK dX10_guides_17 1 rfl rfl ?_
      obtain ⟨r4, S5, h6, hf⟩ := bd_J hf
      refine k_callSi hK (c_J6_bitCount_0f7a4 h6) dX10_guides_18 ml_X10_263 ms_J6_bitCount_0f7a4 in_J6 mc_J6_bitCount_0f7a4 hy_J6_bitCount_0f7a4 ⟨by decide, by decide⟩ rfl (Nat.le_of_ble_eq_true rfl) ?_
      refine j_icmp_ge hK 37 dX10_guides_21 (by decide) (fun hc => ?_) (fun hc => ?_)
      · replace hf := if_1 hc hf
        exact t_X10_guides_37 hK hA hk he hf
      · replace hf := if_2 hc hf
        refine j_aload_n hK dX10_guides_24 0 rfl rfl ?_
        refine j_getR hK fl_X10_49 dX10_guides_25 zo_0 zf_10_5 zr_0_5 ?_
        refine j_iload_n hK dX10_guides_28 2 rfl rfl ?_
        obtain ⟨r7, S8, h9, hf⟩ := bd_J hf
        refine k_callVi hK (c_X9_guarded h9) dX10_guides_29 zclX9 zo_98 ml_X10_333 mi_X9_guarded mx_X9_guarded in_X9 mc_X9_guarded hy_X9_guarded ⟨by decide, by decide⟩ rfl (Nat.le_of_ble_eq_true rfl) ?_
        refine j_if_eq hK 37 dX10_guides_32 (by decide) (fun hc => ?_) (fun hc => ?_)
        · replace hf := if_1 hc hf
          exact t_X10_guides_37 hK hA hk he hf
        · replace hf := if_2 hc hf
          refine j_iload_n hK dX10_guides_35 2 rfl rfl ?_
          refine j_istore_n hK (L' := [(1, .int v.2), (0, .ref 0), (2, .int v.2)]) dX10_guides_36 rfl (by decide) rfl ?_
          refine j_sub [1, 0, 2] rfl ?_
          exact t_X10_guides_37 hK hA hk he hf)
def f_X10_guides (S : St) : Option (Int32 × St) := lp (f_X10_guides_6b  (fun v10 S11 => bd (f_X5_begin S11) (fun r12 S13 => bd (f_X5_put v10.1.toInt64 S13) (fun r15 S16 => bd (f_J6_bitCount_0f7a4 v10.1 S16) (fun r18 S19 => some (r18, S19)))))) FU ((255 : Int32), (0 : Int32)) S
theorem c_X10_guides {S : St} {r : Int32} {S' : St} (hf : f_X10_guides S = some (r, S')) : zM yX10_guides cX10_guides 3 3 (some .int) [.ref 0] S (some (.int r)) S' := by
  refine zM_of (zpl (by decide)) (Nat.le_of_ble_eq_true rfl) rfl (fun K hK hA => ?_)
  unfold f_X10_guides at hf
  refine j_sipush hK (255 : Int32) dX10_guides_0 si_255 ?_
  refine j_istore_n hK (L' := [(1, .int (255 : Int32)), (0, .ref 0)]) dX10_guides_3 rfl (by decide) rfl ?_
  refine j_iconst hK (0 : Int32) dX10_guides_4 ic_0 ?_
  refine j_istore_n hK (L' := [(2, .int (0 : Int32)), (1, .int (255 : Int32)), (0, .ref 0)]) dX10_guides_5 rfl (by decide) rfl ?_
  refine j_sub [2, 1, 0] rfl ?_
  refine t_X10_guides_6 hK hA  (fun v10 S11 hf => ?_) _ _ _ hf
  refine j_aload_n hK dX10_guides_43 0 rfl rfl ?_
  refine j_getR hK fl_X10_26 dX10_guides_44 zo_0 zf_10_2 zr_0_2 ?_
  obtain ⟨r12, S13, h14, hf⟩ := bd_J hf
  refine k_callVv hK (c_X5_begin h14) dX10_guides_47 zclX5 zo_10 ml_X10_185 mi_X5_begin mx_X5_begin in_X5 mc_X5_begin hy_X5_begin ⟨by decide, by decide⟩ rfl (Nat.le_of_ble_eq_true rfl) ?_
  refine j_aload_n hK dX10_guides_50 0 rfl rfl ?_
  refine j_getR hK fl_X10_26 dX10_guides_51 zo_0 zf_10_2 zr_0_2 ?_
  refine j_iload_n hK dX10_guides_54 1 rfl rfl ?_
  refine j_i2l hK dX10_guides_55 ?_
  refine j_pc (pc' := 56) rfl ?_
  obtain ⟨r15, S16, h17, hf⟩ := bd_J hf
  refine k_callVv hK (c_X5_put h17) dX10_guides_56 zclX5 zo_10 ml_X10_191 mi_X5_put mx_X5_put in_X5 mc_X5_put hy_X5_put ⟨by decide, by decide⟩ rfl (Nat.le_of_ble_eq_true rfl) ?_
  refine j_iload_n hK dX10_guides_59 1 rfl rfl ?_
  obtain ⟨r18, S19, h20, hf⟩ := bd_J hf
  refine k_callSi hK (c_J6_bitCount_0f7a4 h20) dX10_guides_60 ml_X10_263 ms_J6_bitCount_0f7a4 in_J6 mc_J6_bitCount_0f7a4 hy_J6_bitCount_0f7a4 ⟨by decide, by decide⟩ rfl (Nat.le_of_ble_eq_true rfl) ?_
  exact j_iret hK dX10_guides_63 rfl (rt_I hA hf)
def f_X9_mostApart_10 (gf_X9_mostApart : Int32 → Int32 → Int32 → Int32 → St → Option (Int32 × St)) (x3 : Int32) (x4 : Int32) (S : St) : Option (Int32 × St) := bd (f_J6_bitCount_0f7a4 x3 S) (fun r1 S2 => bd (f_J6_bitCount_0f7a4 x4 S2) (fun r4 S5 => (if r1 ≤ r4 then some (x4, S5) else some (x3, S5))))
theorem t_X9_mostApart_10 {K : CT} {dd : Nat} (hK : KO K cX9_mostApart RX9 7 (dd + 40) (some .int)) {r : Int32} {S' : St} (hA : zans K (some (.int r), S')) {gf_X9_mostApart : Int32 → Int32 → Int32 → Int32 → St → Option (Int32 × St)} (hg_X9_mostApart : ∀ {q0 : Int32} {q1 : Int32} {q2 : Int32} {q3 : Int32} {S0 : St} {r0 : Int32} {S1 : St}, gf_X9_mostApart q0 q1 q2 q3 S0 = some (r0, S1) → zM yX9_mostApart cX9_mostApart 7 (dd + 39) (some .int) [.ref 3, .int q0, .int q1, .int q2, .int q3] S0 (some (.int r0)) S1) {x3 : Int32} {x4 : Int32} {S : St} (hf : f_X9_mostApart_10 gf_X9_mostApart x3 x4 S = some (r, S')) : J K 10 [(3, .int x3), (4, .int x4)] [] S := by
  unfold f_X9_mostApart_10 at hf
  refine j_iload_n hK dX9_mostApart_10 0 rfl rfl ?_
  obtain ⟨r1, S2, h3, hf⟩ := bd_J hf
  refine k_callSi hK (c_J6_bitCount_0f7a4 h3) dX9_mostApart_11 ml_X9_97 ms_J6_bitCount_0f7a4 in_J6 mc_J6_bitCount_0f7a4 hy_J6_bitCount_0f7a4 ⟨by omega, by decide⟩ rfl (Nat.le_of_ble_eq_true rfl) ?_
  refine j_iload hK dX9_mostApart_14 1 rfl ?_
  obtain ⟨r4, S5, h6, hf⟩ := bd_J hf
  refine k_callSi hK (c_J6_bitCount_0f7a4 h6) dX9_mostApart_16 ml_X9_97 ms_J6_bitCount_0f7a4 in_J6 mc_J6_bitCount_0f7a4 hy_J6_bitCount_0f7a4 ⟨by omega, by decide⟩ rfl (Nat.le_of_ble_eq_true rfl) ?_
  refine j_icmp_le hK 26 dX9_mostApart_19 (by decide) (fun hc => ?_) (fun hc => ?_)
  · replace hf := if_1 hc hf
    refine j_iload hK dX9_mostApart_26 1 rfl ?_
    exact j_iret hK dX9_mostApart_28 rfl (rt_I hA hf)
  · replace hf := if_2 hc hf
    refine j_iload_n hK dX9_mostApart_22 0 rfl rfl ?_
    refine j_goto hK 28 dX9_mostApart_23 (by decide) ?_
    exact j_iret hK dX9_mostApart_28 rfl (rt_I hA hf)
def f_X9_mostApart (gf_X9_mostApart : Int32 → Int32 → Int32 → Int32 → St → Option (Int32 × St)) (p1 : Int32) (p2 : Int32) (p3 : Int32) (p4 : Int32) (S : St) : Option (Int32 × St) := (if p1 < 0 then f_X9_mostApart_10 gf_X9_mostApart p3 p4 S else (if p1 < (12 : Int32) then bd (gf_X9_mostApart (p1 - (1 : Int32)) p2 p3 p4 S) (fun r7 S8 => bd (f_X0_endsOf p1 S8) (fun r10 S11 => bd (f_X0_isOpen p1 S11) (fun r13 S14 => (if r13 = 0 then some (r7, S14) else (if (p2 &&& r10) = 0 then bd (gf_X9_mostApart (p1 - (1 : Int32)) (p2 ||| r10) (p3 ||| ((1 : Int32) <<< (p1 &&& 31))) r7 S14) (fun r16 S17 => some (r16, S17)) else some (r7, S14)))))) else f_X9_mostApart_10 gf_X9_mostApart p3 p4 S))
theorem c_X9_mostApart {dd : Nat} {gf_X9_mostApart : Int32 → Int32 → Int32 → Int32 → St → Option (Int32 × St)} (hg_X9_mostApart : ∀ {q0 : Int32} {q1 : Int32} {q2 : Int32} {q3 : Int32} {S0 : St} {r0 : Int32} {S1 : St}, gf_X9_mostApart q0 q1 q2 q3 S0 = some (r0, S1) → zM yX9_mostApart cX9_mostApart 7 (dd + 39) (some .int) [.ref 3, .int q0, .int q1, .int q2, .int q3] S0 (some (.int r0)) S1) {p1 : Int32} {p2 : Int32} {p3 : Int32} {p4 : Int32} {S : St} {r : Int32} {S' : St} (hf : f_X9_mostApart gf_X9_mostApart p1 p2 p3 p4 S = some (r, S')) : zM yX9_mostApart cX9_mostApart 7 (dd + 40) (some .int) [.ref 3, .int p1, .int p2, .int p3, .int p4] S (some (.int r)) S' := by
  refine zM_of (zpl (by decide)) (Nat.le_of_ble_eq_true rfl) rfl (fun K hK hA => ?_)
  unfold f_X9_mostApart at hf
  refine j_iload_n hK dX9_mostApart_0 1 rfl rfl ?_
  refine j_if_lt hK 10 dX9_mostApart_1 (by decide) (fun hc => ?_) (fun hc => ?_)
  · replace hf := if_1 hc hf
    refine j_sub [3, 4] rfl ?_
    exact t_X9_mostApart_10 hK hA hg_X9_mostApart hf
  · replace hf := if_2 hc hf
    refine j_iload_n hK dX9_mostApart_4 1 rfl rfl ?_
    refine j_bipush hK (12 : Int32) dX9_mostApart_5 bi_12 ?_
    refine j_icmp_lt hK 29 dX9_mostApart_7 (by decide) (fun hc => ?_) (fun hc => ?_)
    · replace hf := if_1 hc hf
      refine j_aload_n hK dX9_mostApart_29 0 rfl rfl ?_
      refine j_iload_n hK dX9_mostApart_30 1 rfl rfl ?_
      refine j_iconst hK (1 : Int32) dX9_mostApart_31 ic_1 ?_
      refine j_isub hK dX9_mostApart_32 ?_
      refine j_iload_n hK dX9_mostApart_33 2 rfl rfl ?_
      refine j_iload_n hK dX9_mostApart_34 3 rfl rfl ?_
      refine j_iload hK dX9_mostApart_35 4 rfl ?_
      refine j_pc (pc' := 37) rfl ?_
      obtain ⟨r7, S8, h9, hf⟩ := bd_J hf
      refine k_callSi hK (hg_X9_mostApart h9) dX9_mostApart_37 ml_X9_102 ms_X9_mostApart in_X9 mc_X9_mostApart hy_X9_mostApart ⟨by omega, by decide⟩ rfl (Nat.le_of_ble_eq_true rfl) ?_
      refine j_istore hK (L' := [(5, .int r7), (0, .ref 3), (1, .int p1), (2, .int p2), (3, .int p3), (4, .int p4)]) dX9_mostApart_40 (by decide) rfl ?_
      refine j_aload_n hK dX9_mostApart_42 1 rfl rfl ?_
      refine j_iload_n hK dX9_mostApart_43 2 rfl rfl ?_
      obtain ⟨r10, S11, h12, hf⟩ := bd_J hf
      refine k_callVi hK (c_X0_endsOf h12) dX9_mostApart_44 zclX0 zo_3 ml_X9_70 mi_X0_endsOf mx_X0_endsOf in_X0 mc_X0_endsOf hy_X0_endsOf ⟨by omega, by decide⟩ rfl (Nat.le_of_ble_eq_true rfl) ?_
      refine j_istore hK (L' := [(6, .int r10), (5, .int r7), (0, .ref 3), (1, .int p1), (2, .int p2), (3, .int p3), (4, .int p4)]) dX9_mostApart_47 (by decide) rfl ?_
      refine j_aload_n hK dX9_mostApart_49 2 rfl rfl ?_
      refine j_iload_n hK dX9_mostApart_50 3 rfl rfl ?_
      refine j_pc (pc' := 51) rfl ?_
      obtain ⟨r13, S14, h15, hf⟩ := bd_J hf
      refine k_callVi hK (c_X0_isOpen h15) dX9_mostApart_51 zclX0 zo_3 ml_X9_28 mi_X0_isOpen mx_X0_isOpen in_X0 mc_X0_isOpen hy_X0_isOpen ⟨by omega, by decide⟩ rfl (Nat.le_of_ble_eq_true rfl) ?_
      refine j_if_eq hK 84 dX9_mostApart_54 (by decide) (fun hc => ?_) (fun hc => ?_)
      · replace hf := if_1 hc hf
        refine j_iload hK dX9_mostApart_84 1 rfl ?_
        exact j_iret hK dX9_mostApart_86 rfl (rt_I hA hf)
      · replace hf := if_2 hc hf
        refine j_iload_n hK dX9_mostApart_57 4 rfl rfl ?_
        refine j_iload hK dX9_mostApart_58 0 rfl ?_
        refine j_iand hK dX9_mostApart_60 ?_
        refine j_if_ne hK 84 dX9_mostApart_61 (by decide) (fun hc => ?_) (fun hc => ?_)
        · replace hf := if_2 hc hf
          refine j_iload hK dX9_mostApart_84 1 rfl ?_
          exact j_iret hK dX9_mostApart_86 rfl (rt_I hA hf)
        · replace hf := if_1 hc hf
          refine j_aload_n hK dX9_mostApart_64 2 rfl rfl ?_
          refine j_iload_n hK dX9_mostApart_65 3 rfl rfl ?_
          refine j_iconst hK (1 : Int32) dX9_mostApart_66 ic_1 ?_
          refine j_isub hK dX9_mostApart_67 ?_
          refine j_iload_n hK dX9_mostApart_68 4 rfl rfl ?_
          refine j_iload hK dX9_mostApart_69 0 rfl ?_
          refine j_ior hK dX9_mostApart_71 ?_
          refine j_pc (pc' := 72) rfl ?_
          refine j_iload_n hK dX9_mostApart_72 5 rfl rfl ?_
          refine j_iconst hK (1 : Int32) dX9_mostApart_73 ic_1 ?_
          refine j_iload_n hK dX9_mostApart_74 3 rfl rfl ?_
          refine j_ishl hK dX9_mostApart_75 ?_
          refine j_ior hK dX9_mostApart_76 ?_
          refine j_iload hK dX9_mostApart_77 1 rfl ?_
          obtain ⟨r16, S17, h18, hf⟩ := bd_J hf
          refine k_callSi hK (hg_X9_mostApart h18) dX9_mostApart_79 ml_X9_102 ms_X9_mostApart in_X9 mc_X9_mostApart hy_X9_mostApart ⟨by omega, by decide⟩ rfl (Nat.le_of_ble_eq_true rfl) ?_
          refine j_istore hK (L' := [(5, .int r16), (6, .int r10), (0, .ref 3), (1, .int p1), (2, .int p2), (3, .int p3), (4, .int p4)]) dX9_mostApart_82 (by decide) rfl ?_
          refine j_pc (pc' := 84) rfl ?_
          refine j_iload hK dX9_mostApart_84 0 rfl ?_
          exact j_iret hK dX9_mostApart_86 rfl (rt_I hA hf)
    · replace hf := if_2 hc hf
      refine j_sub [3, 4] rfl ?_
      exact t_X9_mostApart_10 hK hA hg_X9_mostApart hf
def F_X9_mostApart : Nat → Int32 → Int32 → Int32 → Int32 → St → Option (Int32 × St)
  | 0 => fun _ _ _ _ _ => none
  | n + 1 => f_X9_mostApart (F_X9_mostApart n)
theorem C_X9_mostApart : ∀ (n : Nat) {p1 p2 p3 p4 : Int32} {S : St} {r : Int32} {S' : St}, F_X9_mostApart n p1 p2 p3 p4 S = some (r, S') → zM yX9_mostApart cX9_mostApart 7 (n + 39) (some .int) [.ref 3, .int p1, .int p2, .int p3, .int p4] S (some (.int r)) S'
  | 0, _, _, _, _, _, _, _, hf => by cases hf
  | n + 1, _, _, _, _, _, _, _, hf => c_X9_mostApart (gf_X9_mostApart := F_X9_mostApart n) (dd := n) (C_X9_mostApart n) hf
def f_X10_most (S : St) : Option (Int32 × St) := bd (F_X9_mostApart 100 ((gI S 3 2) - (1 : Int32)) (0 : Int32) (0 : Int32) (0 : Int32) S) (fun r1 S2 => bd (f_X5_begin S2) (fun r4 S5 => bd (f_X5_put r1.toInt64 S5) (fun r7 S8 => bd (f_J6_bitCount_0f7a4 r1 S8) (fun r10 S11 => some (r10, S11)))))
theorem c_X10_most {S : St} {r : Int32} {S' : St} (hf : f_X10_most S = some (r, S')) : zM yX10_most cX10_most 2 141 (some .int) [.ref 0] S (some (.int r)) S' := by
  refine zM_of (zpl (by decide)) (Nat.le_of_ble_eq_true rfl) rfl (fun K hK hA => ?_)
  unfold f_X10_most at hf
  refine j_aload_n hK dX10_most_0 0 rfl rfl ?_
  refine j_getR hK fl_X10_19 dX10_most_1 zo_0 zf_10_1 zr_0_1 ?_
  refine j_aload_n hK dX10_most_4 0 rfl rfl ?_
  refine j_getR hK fl_X10_19 dX10_most_5 zo_0 zf_10_1 zr_0_1 ?_
  refine j_getI hK fl_X10_95 dX10_most_8 zo_3 zf_0_2 ?_
  refine j_iconst hK (1 : Int32) dX10_most_11 ic_1 ?_
  refine j_isub hK dX10_most_12 ?_
  refine j_iconst hK (0 : Int32) dX10_most_13 ic_0 ?_
  refine j_pc (pc' := 14) rfl ?_
  refine j_iconst hK (0 : Int32) dX10_most_14 ic_0 ?_
  refine j_iconst hK (0 : Int32) dX10_most_15 ic_0 ?_
  obtain ⟨r1, S2, h3, hf⟩ := bd_J hf
  refine k_callNi hK (C_X9_mostApart 100 h3) dX10_most_16 (fun _ _ _ h => h.1.1) ms_X9_mostApart in_X9 mc_X9_mostApart hy_X9_mostApart ⟨by decide, by decide⟩ rfl (Nat.le_of_ble_eq_true rfl) ?_
  refine j_istore_n hK (L' := [(1, .int r1), (0, .ref 0)]) dX10_most_19 rfl (by decide) rfl ?_
  refine j_aload_n hK dX10_most_20 1 rfl rfl ?_
  refine j_getR hK fl_X10_26 dX10_most_21 zo_0 zf_10_2 zr_0_2 ?_
  obtain ⟨r4, S5, h6, hf⟩ := bd_J hf
  refine k_callVv hK (c_X5_begin h6) dX10_most_24 zclX5 zo_10 ml_X10_185 mi_X5_begin mx_X5_begin in_X5 mc_X5_begin hy_X5_begin ⟨by decide, by decide⟩ rfl (Nat.le_of_ble_eq_true rfl) ?_
  refine j_aload_n hK dX10_most_27 1 rfl rfl ?_
  refine j_pc (pc' := 28) rfl ?_
  refine j_getR hK fl_X10_26 dX10_most_28 zo_0 zf_10_2 zr_0_2 ?_
  refine j_iload_n hK dX10_most_31 0 rfl rfl ?_
  refine j_i2l hK dX10_most_32 ?_
  obtain ⟨r7, S8, h9, hf⟩ := bd_J hf
  refine k_callVv hK (c_X5_put h9) dX10_most_33 zclX5 zo_10 ml_X10_191 mi_X5_put mx_X5_put in_X5 mc_X5_put hy_X5_put ⟨by decide, by decide⟩ rfl (Nat.le_of_ble_eq_true rfl) ?_
  refine j_iload_n hK dX10_most_36 0 rfl rfl ?_
  obtain ⟨r10, S11, h12, hf⟩ := bd_J hf
  refine k_callSi hK (c_J6_bitCount_0f7a4 h12) dX10_most_37 ml_X10_263 ms_J6_bitCount_0f7a4 in_J6 mc_J6_bitCount_0f7a4 hy_J6_bitCount_0f7a4 ⟨by decide, by decide⟩ rfl (Nat.le_of_ble_eq_true rfl) ?_
  exact j_iret hK dX10_most_40 rfl (rt_I hA hf)
def f_X1_add_31 (x1 : Int32) (x2 : Int32) (x3 : Int32) (s0 : Int32) (S : St) : Option (Int32 × St) := (if x1 < 0 then some ((0 : Int32), S) else (if (4 : Int32) < x1 then some ((0 : Int32), S) else (if x2 < x3 then some ((0 : Int32), S) else (if s0 < x2 then some ((0 : Int32), S) else (if (gI S 101 3) < (12 : Int32) then if inb (gI S 101 3) 12 then lt (sI S 102 (gI S 101 3).toNatClampNeg x1) (fun S2 => if inb (gI S2 101 3) 12 then lt (sI S2 103 (gI S2 101 3).toNatClampNeg x2) (fun S4 => lt (sI S4 101 3 ((gI S4 101 3) + (1 : Int32))) (fun S5 => some ((1 : Int32), S5))) else none) else none else some ((0 : Int32), S))))))
theorem t_X1_add_31 {K : CT} (hK : KO K cX1_add RX1 5 1 (some .boolean)) {r : Int32} {S' : St} (hA : zans K (some (.int r), S')) {x1 : Int32} {x2 : Int32} {x3 : Int32} {s0 : Int32} {S : St} (hf : f_X1_add_31 x1 x2 x3 s0 S = some (r, S')) : J K 31 [(0, .ref 101), (1, .int x1), (2, .int x2), (3, .int x3)] [.int s0] S := by
  unfold f_X1_add_31 at hf
  refine j_istore hK (L' := [(4, .int s0), (0, .ref 101), (1, .int x1), (2, .int x2), (3, .int x3)]) dX1_add_31 (by decide) rfl ?_
  refine j_iload_n hK dX1_add_33 2 rfl rfl ?_
  refine j_if_lt hK 62 dX1_add_34 (by decide) (fun hc => ?_) (fun hc => ?_)
  · replace hf := if_1 hc hf
    refine j_iconst hK (0 : Int32) dX1_add_62 ic_0 ?_
    exact j_zret hK dX1_add_63 rfl rfl (rt_I hA hf)
  · replace hf := if_2 hc hf
    refine j_iload_n hK dX1_add_37 2 rfl rfl ?_
    refine j_iconst hK (4 : Int32) dX1_add_38 ic_4 ?_
    refine j_icmp_gt hK 62 dX1_add_39 (by decide) (fun hc => ?_) (fun hc => ?_)
    · replace hf := if_1 hc hf
      refine j_iconst hK (0 : Int32) dX1_add_62 ic_0 ?_
      exact j_zret hK dX1_add_63 rfl rfl (rt_I hA hf)
    · replace hf := if_2 hc hf
      refine j_iload_n hK dX1_add_42 3 rfl rfl ?_
      refine j_iload_n hK dX1_add_43 4 rfl rfl ?_
      refine j_icmp_lt hK 62 dX1_add_44 (by decide) (fun hc => ?_) (fun hc => ?_)
      · replace hf := if_1 hc hf
        refine j_iconst hK (0 : Int32) dX1_add_62 ic_0 ?_
        exact j_zret hK dX1_add_63 rfl rfl (rt_I hA hf)
      · replace hf := if_2 hc hf
        refine j_iload_n hK dX1_add_47 3 rfl rfl ?_
        refine j_iload hK dX1_add_48 0 rfl ?_
        refine j_icmp_gt hK 62 dX1_add_50 (by decide) (fun hc => ?_) (fun hc => ?_)
        · replace hf := if_1 hc hf
          refine j_iconst hK (0 : Int32) dX1_add_62 ic_0 ?_
          exact j_zret hK dX1_add_63 rfl rfl (rt_I hA hf)
        · replace hf := if_2 hc hf
          refine j_aload_n hK dX1_add_53 1 rfl rfl ?_
          refine j_getI hK fl_X1_22 dX1_add_54 zo_101 zf_1_3 ?_
          refine j_bipush hK (12 : Int32) dX1_add_57 bi_12 ?_
          refine j_icmp_lt hK 64 dX1_add_59 (by decide) (fun hc => ?_) (fun hc => ?_)
          · replace hf := if_1 hc hf
            refine j_aload_n hK dX1_add_64 1 rfl rfl ?_
            refine j_getR hK fl_X1_15 dX1_add_65 zo_101 zf_1_1 zr_101_1 ?_
            refine j_aload_n hK dX1_add_68 1 rfl rfl ?_
            refine j_getI hK fl_X1_22 dX1_add_69 zo_101 zf_1_3 ?_
            refine j_iload_n hK dX1_add_72 2 rfl rfl ?_
            obtain ⟨hi1, hf⟩ := gd hf
            refine k_iast hK dX1_add_73 zb_102 hi1 rfl ?_
            refine lt_S hf (fun S2 hf => ?_)
            refine j_aload_n hK dX1_add_74 1 rfl rfl ?_
            refine j_pc (pc' := 75) rfl ?_
            refine j_getR hK fl_X1_19 dX1_add_75 zo_101 zf_1_2 zr_101_2 ?_
            refine j_aload_n hK dX1_add_78 1 rfl rfl ?_
            refine j_getI hK fl_X1_22 dX1_add_79 zo_101 zf_1_3 ?_
            refine j_iload_n hK dX1_add_82 3 rfl rfl ?_
            obtain ⟨hi3, hf⟩ := gd hf
            refine k_iast hK dX1_add_83 zb_103 hi3 rfl ?_
            refine lt_S hf (fun S4 hf => ?_)
            refine j_aload_n hK dX1_add_84 1 rfl rfl ?_
            refine j_dup hK dX1_add_85 rfl ?_
            refine j_getI hK fl_X1_22 dX1_add_86 zo_101 zf_1_3 ?_
            refine j_pc (pc' := 89) rfl ?_
            refine j_iconst hK (1 : Int32) dX1_add_89 ic_1 ?_
            refine j_iadd hK dX1_add_90 ?_
            refine j_putI hK fl_X1_22 dX1_add_91 zo_101 zf_1_3 ?_
            refine lt_S hf (fun S5 hf => ?_)
            refine j_iconst hK (1 : Int32) dX1_add_94 ic_1 ?_
            exact j_zret hK dX1_add_95 rfl rfl (rt_I hA hf)
          · replace hf := if_2 hc hf
            refine j_iconst hK (0 : Int32) dX1_add_62 ic_0 ?_
            exact j_zret hK dX1_add_63 rfl rfl (rt_I hA hf)
def f_X1_add_9 (x1 : Int32) (x2 : Int32) (s0 : Int32) (S : St) : Option (Int32 × St) := (if x1 = (1 : Int32) then f_X1_add_31 x1 x2 s0 (7 : Int32) S else (if x1 = (3 : Int32) then f_X1_add_31 x1 x2 s0 (1 : Int32) S else f_X1_add_31 x1 x2 s0 (9 : Int32) S))
theorem t_X1_add_9 {K : CT} (hK : KO K cX1_add RX1 5 1 (some .boolean)) {r : Int32} {S' : St} (hA : zans K (some (.int r), S')) {x1 : Int32} {x2 : Int32} {s0 : Int32} {S : St} (hf : f_X1_add_9 x1 x2 s0 S = some (r, S')) : J K 9 [(0, .ref 101), (1, .int x1), (2, .int x2)] [.int s0] S := by
  unfold f_X1_add_9 at hf
  refine j_istore_n hK (L' := [(3, .int s0), (0, .ref 101), (1, .int x1), (2, .int x2)]) dX1_add_9 rfl (by decide) rfl ?_
  refine j_iload_n hK dX1_add_10 2 rfl rfl ?_
  refine j_iconst hK (1 : Int32) dX1_add_11 ic_1 ?_
  refine j_icmp_ne hK 20 dX1_add_12 (by decide) (fun hc => ?_) (fun hc => ?_)
  · replace hf := if_2 hc hf
    refine j_iload_n hK dX1_add_20 2 rfl rfl ?_
    refine j_iconst hK (3 : Int32) dX1_add_21 ic_3 ?_
    refine j_icmp_ne hK 29 dX1_add_22 (by decide) (fun hc => ?_) (fun hc => ?_)
    · replace hf := if_2 hc hf
      refine j_bipush hK (9 : Int32) dX1_add_29 bi_9 ?_
      refine j_sub [1, 2, 3, 0] rfl ?_
      exact t_X1_add_31 hK hA  hf
    · replace hf := if_1 hc hf
      refine j_iconst hK (1 : Int32) dX1_add_25 ic_1 ?_
      refine j_goto hK 31 dX1_add_26 (by decide) ?_
      refine j_sub [1, 2, 3, 0] rfl ?_
      exact t_X1_add_31 hK hA  hf
  · replace hf := if_1 hc hf
    refine j_bipush hK (7 : Int32) dX1_add_15 bi_7 ?_
    refine j_goto hK 31 dX1_add_17 (by decide) ?_
    refine j_sub [1, 2, 3, 0] rfl ?_
    exact t_X1_add_31 hK hA  hf
def f_X1_add (p1 : Int32) (p2 : Int32) (S : St) : Option (Int32 × St) := (if p1 = 0 then f_X1_add_9 p1 p2 (1 : Int32) S else f_X1_add_9 p1 p2 (0 : Int32) S)
theorem c_X1_add {p1 : Int32} {p2 : Int32} {S : St} {r : Int32} {S' : St} (hf : f_X1_add p1 p2 S = some (r, S')) : zM yX1_add cX1_add 5 1 (some .boolean) [.ref 101, .int p1, .int p2] S (some (.int r)) S' := by
  refine zM_of (zpl (by decide)) (Nat.le_of_ble_eq_true rfl) rfl (fun K hK hA => ?_)
  unfold f_X1_add at hf
  refine j_iload_n hK dX1_add_0 1 rfl rfl ?_
  refine j_if_ne hK 8 dX1_add_1 (by decide) (fun hc => ?_) (fun hc => ?_)
  · replace hf := if_2 hc hf
    refine j_iconst hK (0 : Int32) dX1_add_8 ic_0 ?_
    exact t_X1_add_9 hK hA  hf
  · replace hf := if_1 hc hf
    refine j_iconst hK (1 : Int32) dX1_add_4 ic_1 ?_
    refine j_goto hK 9 dX1_add_5 (by decide) ?_
    exact t_X1_add_9 hK hA  hf
def f_X10_told (p1 : Int32) (p2 : Int32) (S : St) : Option (Int32 × St) := bd (f_X1_add p1 p2 S) (fun r1 S2 => (if r1 = 0 then some ((-1 : Int32), S2) else some ((gI S2 101 3), S2)))
theorem c_X10_told {p1 : Int32} {p2 : Int32} {S : St} {r : Int32} {S' : St} (hf : f_X10_told p1 p2 S = some (r, S')) : zM yX10_told cX10_told 3 2 (some .int) [.ref 0, .int p1, .int p2] S (some (.int r)) S' := by
  refine zM_of (zpl (by decide)) (Nat.le_of_ble_eq_true rfl) rfl (fun K hK hA => ?_)
  unfold f_X10_told at hf
  refine j_aload_n hK dX10_told_0 0 rfl rfl ?_
  refine j_getR hK fl_X10_56 dX10_told_1 zo_0 zf_10_6 zr_0_6 ?_
  refine j_iload_n hK dX10_told_4 1 rfl rfl ?_
  refine j_iload_n hK dX10_told_5 2 rfl rfl ?_
  obtain ⟨r1, S2, h3, hf⟩ := bd_J hf
  refine k_callVi hK (c_X1_add h3) dX10_told_6 zclX1 zo_101 ml_X10_340 mi_X1_add mx_X1_add in_X1 mc_X1_add hy_X1_add ⟨by decide, by decide⟩ rfl (Nat.le_of_ble_eq_true rfl) ?_
  refine j_if_eq hK 22 dX10_told_9 (by decide) (fun hc => ?_) (fun hc => ?_)
  · replace hf := if_1 hc hf
    refine j_iconst hK (-1 : Int32) dX10_told_22 ic_m1 ?_
    exact j_iret hK dX10_told_23 rfl (rt_I hA hf)
  · replace hf := if_2 hc hf
    refine j_aload_n hK dX10_told_12 0 rfl rfl ?_
    refine j_getR hK fl_X10_56 dX10_told_13 zo_0 zf_10_6 zr_0_6 ?_
    refine j_getI hK fl_X10_342 dX10_told_16 zo_101 zf_1_3 ?_
    refine j_goto hK 23 dX10_told_19 (by decide) ?_
    exact j_iret hK dX10_told_23 rfl (rt_I hA hf)
def f_X10_forget (S : St) : Option (Int32 × St) := lt (gI S 101 3) (fun y1 => lt (sI S 101 3 (0 : Int32)) (fun S2 => some (y1, S2)))
theorem c_X10_forget {S : St} {r : Int32} {S' : St} (hf : f_X10_forget S = some (r, S')) : zM yX10_forget cX10_forget 2 1 (some .int) [.ref 0] S (some (.int r)) S' := by
  refine zM_of (zpl (by decide)) (Nat.le_of_ble_eq_true rfl) rfl (fun K hK hA => ?_)
  unfold f_X10_forget at hf
  refine j_aload_n hK dX10_forget_0 0 rfl rfl ?_
  refine j_getR hK fl_X10_56 dX10_forget_1 zo_0 zf_10_6 zr_0_6 ?_
  refine j_getI hK fl_X10_342 dX10_forget_4 zo_101 zf_1_3 ?_
  refine lt_I hf (fun y1 hf => ?_)
  refine j_istore_n hK (L' := [(1, .int y1), (0, .ref 0)]) dX10_forget_7 rfl (by decide) rfl ?_
  refine j_aload_n hK dX10_forget_8 1 rfl rfl ?_
  refine j_getR hK fl_X10_56 dX10_forget_9 zo_0 zf_10_6 zr_0_6 ?_
  refine j_iconst hK (0 : Int32) dX10_forget_12 ic_0 ?_
  refine j_putI hK fl_X10_342 dX10_forget_13 zo_101 zf_1_3 ?_
  refine lt_S hf (fun S2 hf => ?_)
  refine j_pc (pc' := 16) rfl ?_
  refine j_iload_n hK dX10_forget_16 0 rfl rfl ?_
  exact j_iret hK dX10_forget_17 rfl (rt_I hA hf)
def f_X1_agrees_104 (s0 : Int32) (s1 : Int32) (S : St) : Option (Int32 × St) := (if s0 = s1 then some ((1 : Int32), S) else some ((0 : Int32), S))
theorem t_X1_agrees_104 {K : CT} (hK : KO K cX1_agrees RX1 4 2 (some .boolean)) {r : Int32} {S' : St} (hA : zans K (some (.int r), S')) {s0 : Int32} {s1 : Int32} {S : St} (hf : f_X1_agrees_104 s0 s1 S = some (r, S')) : J K 104 [] [.int s1, .int s0] S := by
  unfold f_X1_agrees_104 at hf
  refine j_icmp_ne hK 111 dX1_agrees_104 (by decide) (fun hc => ?_) (fun hc => ?_)
  · replace hf := if_2 hc hf
    refine j_iconst hK (0 : Int32) dX1_agrees_111 ic_0 ?_
    exact j_zret hK dX1_agrees_112 rfl rfl (rt_I hA hf)
  · replace hf := if_1 hc hf
    refine j_iconst hK (1 : Int32) dX1_agrees_107 ic_1 ?_
    refine j_goto hK 112 dX1_agrees_108 (by decide) ?_
    exact j_zret hK dX1_agrees_112 rfl rfl (rt_I hA hf)
def f_X1_agrees (p1 : Int32) (p2 : Int32) (p3 : Int32) (S : St) : Option (Int32 × St) := (if p2 = (0 : Int32) then if inb p1 12 then (if (gI S 7 p1.toNatClampNeg) < p3 then some ((0 : Int32), S) else some ((1 : Int32), S)) else none else (if p2 = (1 : Int32) then bd (f_X0_isEnd p3 p1 S) (fun r4 S5 => if r4 = 0 ∨ r4 = 1 then some (r4, S5) else none) else (if p2 = (2 : Int32) then if inb p1 12 then (if (gI S 8 p1.toNatClampNeg) = p3 then some ((1 : Int32), S) else some ((0 : Int32), S)) else none else (if p2 = (3 : Int32) then bd (f_X0_isOpen p1 S) (fun r10 S11 => (if p3 = (1 : Int32) then f_X1_agrees_104 r10 (1 : Int32) S11 else f_X1_agrees_104 r10 (0 : Int32) S11)) else if inb p1 12 then (if p3 < (gI S 9 p1.toNatClampNeg) then some ((0 : Int32), S) else some ((1 : Int32), S)) else none))))
theorem c_X1_agrees {p1 : Int32} {p2 : Int32} {p3 : Int32} {S : St} {r : Int32} {S' : St} (hf : f_X1_agrees p1 p2 p3 S = some (r, S')) : zM yX1_agrees cX1_agrees 4 2 (some .boolean) [.ref 101, .int p1, .int p2, .int p3] S (some (.int r)) S' := by
  refine zM_of (zpl (by decide)) (Nat.le_of_ble_eq_true rfl) rfl (fun K hK hA => ?_)
  unfold f_X1_agrees at hf
  refine j_iload_n hK dX1_agrees_0 2 rfl rfl ?_
  by_cases hs1 : p2 = (0 : Int32)
  · replace hf := if_1 hs1 hf
    refine j_tabC hK (0 : Int32) 32 dX1_agrees_1 hs1 (by decide) rfl (by decide) ?_
    refine j_aload_n hK dX1_agrees_32 0 rfl rfl ?_
    refine j_getR hK fl_X1_9 dX1_agrees_33 zo_101 zf_1_0 zr_101_0 ?_
    refine j_getR hK fl_X1_37 dX1_agrees_36 zo_3 zf_0_3 zr_3_3 ?_
    refine j_getR hK fl_X1_41 dX1_agrees_39 zo_6 zf_7_0 zr_6_0 ?_
    refine j_iload_n hK dX1_agrees_42 1 rfl rfl ?_
    obtain ⟨hi2, hf⟩ := gd hf
    refine k_iald hK dX1_agrees_43 zb_7 hi2 rfl ?_
    refine j_iload_n hK dX1_agrees_44 3 rfl rfl ?_
    refine j_pc (pc' := 45) rfl ?_
    refine j_icmp_lt hK 52 dX1_agrees_45 (by decide) (fun hc => ?_) (fun hc => ?_)
    · replace hf := if_1 hc hf
      refine j_iconst hK (0 : Int32) dX1_agrees_52 ic_0 ?_
      exact j_zret hK dX1_agrees_53 rfl rfl (rt_I hA hf)
    · replace hf := if_2 hc hf
      refine j_iconst hK (1 : Int32) dX1_agrees_48 ic_1 ?_
      refine j_goto hK 53 dX1_agrees_49 (by decide) ?_
      exact j_zret hK dX1_agrees_53 rfl rfl (rt_I hA hf)
  · replace hf := if_2 hs1 hf
    by_cases hs3 : p2 = (1 : Int32)
    · replace hf := if_1 hs3 hf
      refine j_tabC hK (1 : Int32) 54 dX1_agrees_1 hs3 (by decide) rfl (by decide) ?_
      refine j_aload_n hK dX1_agrees_54 0 rfl rfl ?_
      refine j_getR hK fl_X1_9 dX1_agrees_55 zo_101 zf_1_0 zr_101_0 ?_
      refine j_iload_n hK dX1_agrees_58 3 rfl rfl ?_
      refine j_iload_n hK dX1_agrees_59 1 rfl rfl ?_
      obtain ⟨r4, S5, h6, hf⟩ := bd_J hf
      refine k_callVi hK (c_X0_isEnd h6) dX1_agrees_60 zclX0 zo_3 ml_X1_46 mi_X0_isEnd mx_X0_isEnd in_X0 mc_X0_isEnd hy_X0_isEnd ⟨by decide, by decide⟩ rfl (Nat.le_of_ble_eq_true rfl) ?_
      obtain ⟨hz, hf⟩ := gd hf
      exact j_zret hK dX1_agrees_63 rfl (nz hz) (rt_I hA hf)
    · replace hf := if_2 hs3 hf
      by_cases hs7 : p2 = (2 : Int32)
      · replace hf := if_1 hs7 hf
        refine j_tabC hK (2 : Int32) 64 dX1_agrees_1 hs7 (by decide) rfl (by decide) ?_
        refine j_aload_n hK dX1_agrees_64 0 rfl rfl ?_
        refine j_getR hK fl_X1_9 dX1_agrees_65 zo_101 zf_1_0 zr_101_0 ?_
        refine j_getR hK fl_X1_37 dX1_agrees_68 zo_3 zf_0_3 zr_3_3 ?_
        refine j_getR hK fl_X1_50 dX1_agrees_71 zo_6 zf_7_1 zr_6_1 ?_
        refine j_iload_n hK dX1_agrees_74 1 rfl rfl ?_
        obtain ⟨hi8, hf⟩ := gd hf
        refine k_iald hK dX1_agrees_75 zb_8 hi8 rfl ?_
        refine j_iload_n hK dX1_agrees_76 3 rfl rfl ?_
        refine j_pc (pc' := 77) rfl ?_
        refine j_icmp_ne hK 84 dX1_agrees_77 (by decide) (fun hc => ?_) (fun hc => ?_)
        · replace hf := if_2 hc hf
          refine j_iconst hK (0 : Int32) dX1_agrees_84 ic_0 ?_
          exact j_zret hK dX1_agrees_85 rfl rfl (rt_I hA hf)
        · replace hf := if_1 hc hf
          refine j_iconst hK (1 : Int32) dX1_agrees_80 ic_1 ?_
          refine j_goto hK 85 dX1_agrees_81 (by decide) ?_
          exact j_zret hK dX1_agrees_85 rfl rfl (rt_I hA hf)
      · replace hf := if_2 hs7 hf
        by_cases hs9 : p2 = (3 : Int32)
        · replace hf := if_1 hs9 hf
          refine j_tabC hK (3 : Int32) 86 dX1_agrees_1 hs9 (by decide) rfl (by decide) ?_
          refine j_aload_n hK dX1_agrees_86 0 rfl rfl ?_
          refine j_getR hK fl_X1_9 dX1_agrees_87 zo_101 zf_1_0 zr_101_0 ?_
          refine j_iload_n hK dX1_agrees_90 1 rfl rfl ?_
          obtain ⟨r10, S11, h12, hf⟩ := bd_J hf
          refine k_callVi hK (c_X0_isOpen h12) dX1_agrees_91 zclX0 zo_3 ml_X1_53 mi_X0_isOpen mx_X0_isOpen in_X0 mc_X0_isOpen hy_X0_isOpen ⟨by decide, by decide⟩ rfl (Nat.le_of_ble_eq_true rfl) ?_
          refine j_iload_n hK dX1_agrees_94 3 rfl rfl ?_
          refine j_iconst hK (1 : Int32) dX1_agrees_95 ic_1 ?_
          refine j_icmp_ne hK 103 dX1_agrees_96 (by decide) (fun hc => ?_) (fun hc => ?_)
          · replace hf := if_2 hc hf
            refine j_iconst hK (0 : Int32) dX1_agrees_103 ic_0 ?_
            refine j_sub [] rfl ?_
            exact t_X1_agrees_104 hK hA  hf
          · replace hf := if_1 hc hf
            refine j_iconst hK (1 : Int32) dX1_agrees_99 ic_1 ?_
            refine j_goto hK 104 dX1_agrees_100 (by decide) ?_
            refine j_sub [] rfl ?_
            exact t_X1_agrees_104 hK hA  hf
        · replace hf := if_2 hs9 hf
          refine j_tabOut hK 113 dX1_agrees_1 (by have q := And.intro (ne_toInt 0 (by decide) hs1) (And.intro (ne_toInt 1 (by decide) hs3) (And.intro (ne_toInt 2 (by decide) hs7) (And.intro (ne_toInt 3 (by decide) hs9) trivial))); omega) (by decide) ?_
          refine j_aload_n hK dX1_agrees_113 0 rfl rfl ?_
          refine j_getR hK fl_X1_9 dX1_agrees_114 zo_101 zf_1_0 zr_101_0 ?_
          refine j_getR hK fl_X1_37 dX1_agrees_117 zo_3 zf_0_3 zr_3_3 ?_
          refine j_getR hK fl_X1_56 dX1_agrees_120 zo_6 zf_7_2 zr_6_2 ?_
          refine j_iload_n hK dX1_agrees_123 1 rfl rfl ?_
          obtain ⟨hi13, hf⟩ := gd hf
          refine k_iald hK dX1_agrees_124 zb_9 hi13 rfl ?_
          refine j_iload_n hK dX1_agrees_125 3 rfl rfl ?_
          refine j_pc (pc' := 126) rfl ?_
          refine j_icmp_gt hK 133 dX1_agrees_126 (by decide) (fun hc => ?_) (fun hc => ?_)
          · replace hf := if_1 hc hf
            refine j_iconst hK (0 : Int32) dX1_agrees_133 ic_0 ?_
            exact j_zret hK dX1_agrees_134 rfl rfl (rt_I hA hf)
          · replace hf := if_2 hc hf
            refine j_iconst hK (1 : Int32) dX1_agrees_129 ic_1 ?_
            refine j_goto hK 134 dX1_agrees_130 (by decide) ?_
            exact j_zret hK dX1_agrees_134 rfl rfl (rt_I hA hf)
def f_X1_fitsAll_2b (x1 : Int32) (e : Int32 → St → Option (Int32 × St)) (k : Int32 → St → Option (Int32 × St)) (v : Int32) (S : St) : Option (Int32 × St) := (if (gI S 101 3) ≤ v then e v S else if inb v 12 then if inb v 12 then bd (f_X1_agrees x1 (gI S 102 v.toNatClampNeg) (gI S 103 v.toNatClampNeg) S) (fun r3 S4 => (if r3 = 0 then some ((0 : Int32), S4) else k (v + (1 : Int32)) S4)) else none else none)
theorem t_X1_fitsAll_2 {K : CT} (hK : KO K cX1_fitsAll RX1 3 3 (some .boolean)) {r : Int32} {S' : St} (hA : zans K (some (.int r), S')) {x1 : Int32} {e : Int32 → St → Option (Int32 × St)} (he : ∀ (v : Int32) (S : St), e v S = some (r, S') → J K 38 [] [] S) : ∀ (n : Nat) (v : Int32) (S : St), lp (f_X1_fitsAll_2b x1 e) n v S = some (r, S') → J K 2 [(0, .ref 101), (1, .int x1), (2, .int v)] [] S :=
  lp_J (P := fun (v : Int32) (S : St) => J K 2 [(0, .ref 101), (1, .int x1), (2, .int v)] [] S) (fun k hk v S hf => by
    unfold f_X1_fitsAll_2b at hf
    refine j_iload_n hK dX1_fitsAll_2 2 rfl rfl ?_
    refine j_aload_n hK dX1_fitsAll_3 0 rfl rfl ?_
    refine j_getI hK fl_X1_22 dX1_fitsAll_4 zo_101 zf_1_3 ?_
    refine j_icmp_ge hK 38 dX1_fitsAll_7 (by decide) (fun hc => ?_) (fun hc => ?_)
    · replace hf := if_1 hc hf
      refine j_sub [] rfl ?_
      exact he _ _ hf
    · replace hf := if_2 hc hf
      refine j_aload_n hK dX1_fitsAll_10 0 rfl rfl ?_
      refine j_iload_n hK dX1_fitsAll_11 1 rfl rfl ?_
      refine j_aload_n hK dX1_fitsAll_12 0 rfl rfl ?_
      refine j_getR hK fl_X1_15 dX1_fitsAll_13 zo_101 zf_1_1 zr_101_1 ?_
      refine j_iload_n hK dX1_fitsAll_16 2 rfl rfl ?_
      obtain ⟨hi1, hf⟩ := gd hf
      refine k_iald hK dX1_fitsAll_17 zb_102 hi1 rfl ?_
      refine j_aload_n hK dX1_fitsAll_18 0 rfl rfl ?_
      refine j_pc (pc' := 19) rfl ?_
      refine j_getR hK fl_X1_19 dX1_fitsAll_19 zo_101 zf_1_2 zr_101_2 ?_
      refine j_iload_n hK dX1_fitsAll_22 2 rfl rfl ?_
      obtain ⟨hi2, hf⟩ := gd hf
      refine k_iald hK dX1_fitsAll_23 zb_103 hi2 rfl ?_
      obtain ⟨r3, S4, h5, hf⟩ := bd_J hf
      refine k_callVi hK (c_X1_agrees h5) dX1_fitsAll_24 zclX1 zo_101 ml_X1_33 mi_X1_agrees mx_X1_agrees in_X1 mc_X1_agrees hy_X1_agrees ⟨by decide, by decide⟩ rfl (Nat.le_of_ble_eq_true rfl) ?_
      refine j_if_ne hK 32 dX1_fitsAll_27 (by decide) (fun hc => ?_) (fun hc => ?_)
      · replace hf := if_2 hc hf
        refine j_iinc hK (L' := [(2, .int (v + (1 : Int32))), (0, .ref 101), (1, .int x1)]) dX1_fitsAll_32 2 rfl (congrArg (fun y => v + y) ic_1) (by decide) rfl ?_
        refine j_goto hK 2 dX1_fitsAll_35 (by decide) ?_
        refine j_sub [1, 2, 0] rfl ?_
        exact hk _ _ hf
      · replace hf := if_1 hc hf
        refine j_iconst hK (0 : Int32) dX1_fitsAll_30 ic_0 ?_
        exact j_zret hK dX1_fitsAll_31 rfl rfl (rt_I hA hf))
def f_X1_fitsAll (p1 : Int32) (S : St) : Option (Int32 × St) := lp (f_X1_fitsAll_2b p1 (fun v6 S7 => some ((1 : Int32), S7))) FU (0 : Int32) S
theorem c_X1_fitsAll {p1 : Int32} {S : St} {r : Int32} {S' : St} (hf : f_X1_fitsAll p1 S = some (r, S')) : zM yX1_fitsAll cX1_fitsAll 3 3 (some .boolean) [.ref 101, .int p1] S (some (.int r)) S' := by
  refine zM_of (zpl (by decide)) (Nat.le_of_ble_eq_true rfl) rfl (fun K hK hA => ?_)
  unfold f_X1_fitsAll at hf
  refine j_iconst hK (0 : Int32) dX1_fitsAll_0 ic_0 ?_
  refine j_istore_n hK (L' := [(2, .int (0 : Int32)), (0, .ref 101), (1, .int p1)]) dX1_fitsAll_1 rfl (by decide) rfl ?_
  refine j_sub [1, 2, 0] rfl ?_
  refine t_X1_fitsAll_2 hK hA  (fun v6 S7 hf => ?_) _ _ _ hf
  refine j_iconst hK (1 : Int32) dX1_fitsAll_38 ic_1 ?_
  exact j_zret hK dX1_fitsAll_39 rfl rfl (rt_I hA hf)
def f_X1_fittingPassages_29 (x1 : Int32) (x2 : Int32) (k e : Int32 × Int32 → St → Option (Int32 × St)) (S : St) : Option (Int32 × St) := k (x1, (x2 + (1 : Int32))) S
theorem t_X1_fittingPassages_29 {K : CT} (hK : KO K cX1_fittingPassages RX1 3 4 (some .int)) {r : Int32} {S' : St} (hA : zans K (some (.int r), S')) {x1 : Int32} {x2 : Int32} {k e : Int32 × Int32 → St → Option (Int32 × St)} (hk : ∀ (v : Int32 × Int32) (S : St), k v S = some (r, S') → J K 4 [(0, .ref 101), (1, .int v.1), (2, .int v.2)] [] S) (he : ∀ (v : Int32 × Int32) (S : St), e v S = some (r, S') → J K 35 [(1, .int v.1)] [] S) {S : St} (hf : f_X1_fittingPassages_29 x1 x2 k e S = some (r, S')) : J K 29 [(0, .ref 101), (1, .int x1), (2, .int x2)] [] S := by
  unfold f_X1_fittingPassages_29 at hf
  refine j_iinc hK (L' := [(2, .int (x2 + (1 : Int32))), (0, .ref 101), (1, .int x1)]) dX1_fittingPassages_29 2 rfl (congrArg (fun y => x2 + y) ic_1) (by decide) rfl ?_
  refine j_goto hK 4 dX1_fittingPassages_32 (by decide) ?_
  refine j_sub [1, 2, 0] rfl ?_
  exact hk _ _ hf
def f_X1_fittingPassages_4b (e : Int32 × Int32 → St → Option (Int32 × St)) (k : Int32 × Int32 → St → Option (Int32 × St)) (v : Int32 × Int32) (S : St) : Option (Int32 × St) := (if (gI S 3 2) ≤ v.2 then e (v.1, v.2) S else bd (f_X1_fitsAll v.2 S) (fun r1 S2 => (if r1 = 0 then f_X1_fittingPassages_29 v.1 v.2 k e S2 else lt (v.1 ||| ((1 : Int32) <<< (v.2 &&& 31))) (fun y4 => f_X1_fittingPassages_29 y4 v.2 k e S2))))
theorem t_X1_fittingPassages_4 {K : CT} (hK : KO K cX1_fittingPassages RX1 3 4 (some .int)) {r : Int32} {S' : St} (hA : zans K (some (.int r), S')) {e : Int32 × Int32 → St → Option (Int32 × St)} (he : ∀ (v : Int32 × Int32) (S : St), e v S = some (r, S') → J K 35 [(1, .int v.1)] [] S) : ∀ (n : Nat) (v : Int32 × Int32) (S : St), lp (f_X1_fittingPassages_4b  e) n v S = some (r, S') → J K 4 [(0, .ref 101), (1, .int v.1), (2, .int v.2)] [] S :=
  lp_J (P := fun (v : Int32 × Int32) (S : St) => J K 4 [(0, .ref 101), (1, .int v.1), (2, .int v.2)] [] S) (fun k hk v S hf => by
    unfold f_X1_fittingPassages_4b at hf
    refine j_iload_n hK dX1_fittingPassages_4 2 rfl rfl ?_
    refine j_aload_n hK dX1_fittingPassages_5 0 rfl rfl ?_
    refine j_getR hK fl_X1_9 dX1_fittingPassages_6 zo_101 zf_1_0 zr_101_0 ?_
    refine j_getI hK fl_X1_26 dX1_fittingPassages_9 zo_3 zf_0_2 ?_
    refine j_icmp_ge hK 35 dX1_fittingPassages_12 (by decide) (fun hc => ?_) (fun hc => ?_)
    · replace hf := if_1 hc hf
      refine j_sub [1] rfl ?_
      exact he _ _ hf
    · replace hf := if_2 hc hf
      refine j_aload_n hK dX1_fittingPassages_15 0 rfl rfl ?_
      refine j_iload_n hK dX1_fittingPassages_16 2 rfl rfl ?_
      obtain ⟨r1, S2, h3, hf⟩ := bd_J hf
      refine k_callVi hK (c_X1_fitsAll h3) dX1_fittingPassages_17 zclX1 zo_101 ml_X1_29 mi_X1_fitsAll mx_X1_fitsAll in_X1 mc_X1_fitsAll hy_X1_fitsAll ⟨by decide, by decide⟩ rfl (Nat.le_of_ble_eq_true rfl) ?_
      refine j_if_eq hK 29 dX1_fittingPassages_20 (by decide) (fun hc => ?_) (fun hc => ?_)
      · replace hf := if_1 hc hf
        exact t_X1_fittingPassages_29 hK hA hk he hf
      · replace hf := if_2 hc hf
        refine j_iload_n hK dX1_fittingPassages_23 1 rfl rfl ?_
        refine j_iconst hK (1 : Int32) dX1_fittingPassages_24 ic_1 ?_
        refine j_iload_n hK dX1_fittingPassages_25 2 rfl rfl ?_
        refine j_ishl hK dX1_fittingPassages_26 ?_
        refine j_ior hK dX1_fittingPassages_27 ?_
        refine lt_I hf (fun y4 hf => ?_)
        refine j_istore_n hK (L' := [(1, .int y4), (0, .ref 101), (2, .int v.2)]) dX1_fittingPassages_28 rfl (by decide) rfl ?_
        refine j_sub [1, 0, 2] rfl ?_
        exact t_X1_fittingPassages_29 hK hA hk he hf)
def f_X1_fittingPassages (S : St) : Option (Int32 × St) := lp (f_X1_fittingPassages_4b  (fun v5 S6 => some (v5.1, S6))) FU ((0 : Int32), (0 : Int32)) S
theorem c_X1_fittingPassages {S : St} {r : Int32} {S' : St} (hf : f_X1_fittingPassages S = some (r, S')) : zM yX1_fittingPassages cX1_fittingPassages 3 4 (some .int) [.ref 101] S (some (.int r)) S' := by
  refine zM_of (zpl (by decide)) (Nat.le_of_ble_eq_true rfl) rfl (fun K hK hA => ?_)
  unfold f_X1_fittingPassages at hf
  refine j_iconst hK (0 : Int32) dX1_fittingPassages_0 ic_0 ?_
  refine j_istore_n hK (L' := [(1, .int (0 : Int32)), (0, .ref 101)]) dX1_fittingPassages_1 rfl (by decide) rfl ?_
  refine j_iconst hK (0 : Int32) dX1_fittingPassages_2 ic_0 ?_
  refine j_istore_n hK (L' := [(2, .int (0 : Int32)), (1, .int (0 : Int32)), (0, .ref 101)]) dX1_fittingPassages_3 rfl (by decide) rfl ?_
  refine j_sub [2, 1, 0] rfl ?_
  refine t_X1_fittingPassages_4 hK hA  (fun v5 S6 hf => ?_) _ _ _ hf
  refine j_iload_n hK dX1_fittingPassages_35 0 rfl rfl ?_
  exact j_iret hK dX1_fittingPassages_36 rfl (rt_I hA hf)
def f_X10_fits (S : St) : Option (Int32 × St) := bd (f_X1_fittingPassages S) (fun r1 S2 => bd (f_X5_begin S2) (fun r4 S5 => bd (f_J6_bitCount_0f7a4 r1 S5) (fun r7 S8 => bd (f_X5_put r7.toInt64 S8) (fun r10 S11 => some (r1, S11)))))
theorem c_X10_fits {S : St} {r : Int32} {S' : St} (hf : f_X10_fits S = some (r, S')) : zM yX10_fits cX10_fits 2 5 (some .int) [.ref 0] S (some (.int r)) S' := by
  refine zM_of (zpl (by decide)) (Nat.le_of_ble_eq_true rfl) rfl (fun K hK hA => ?_)
  unfold f_X10_fits at hf
  refine j_aload_n hK dX10_fits_0 0 rfl rfl ?_
  refine j_getR hK fl_X10_56 dX10_fits_1 zo_0 zf_10_6 zr_0_6 ?_
  obtain ⟨r1, S2, h3, hf⟩ := bd_J hf
  refine k_callVi hK (c_X1_fittingPassages h3) dX10_fits_4 zclX1 zo_101 ml_X10_343 mi_X1_fittingPassages mx_X1_fittingPassages in_X1 mc_X1_fittingPassages hy_X1_fittingPassages ⟨by decide, by decide⟩ rfl (Nat.le_of_ble_eq_true rfl) ?_
  refine j_istore_n hK (L' := [(1, .int r1), (0, .ref 0)]) dX10_fits_7 rfl (by decide) rfl ?_
  refine j_aload_n hK dX10_fits_8 1 rfl rfl ?_
  refine j_getR hK fl_X10_26 dX10_fits_9 zo_0 zf_10_2 zr_0_2 ?_
  obtain ⟨r4, S5, h6, hf⟩ := bd_J hf
  refine k_callVv hK (c_X5_begin h6) dX10_fits_12 zclX5 zo_10 ml_X10_185 mi_X5_begin mx_X5_begin in_X5 mc_X5_begin hy_X5_begin ⟨by decide, by decide⟩ rfl (Nat.le_of_ble_eq_true rfl) ?_
  refine j_aload_n hK dX10_fits_15 1 rfl rfl ?_
  refine j_pc (pc' := 16) rfl ?_
  refine j_getR hK fl_X10_26 dX10_fits_16 zo_0 zf_10_2 zr_0_2 ?_
  refine j_iload_n hK dX10_fits_19 0 rfl rfl ?_
  obtain ⟨r7, S8, h9, hf⟩ := bd_J hf
  refine k_callSi hK (c_J6_bitCount_0f7a4 h9) dX10_fits_20 ml_X10_263 ms_J6_bitCount_0f7a4 in_J6 mc_J6_bitCount_0f7a4 hy_J6_bitCount_0f7a4 ⟨by decide, by decide⟩ rfl (Nat.le_of_ble_eq_true rfl) ?_
  refine j_i2l hK dX10_fits_23 ?_
  obtain ⟨r10, S11, h12, hf⟩ := bd_J hf
  refine k_callVv hK (c_X5_put h12) dX10_fits_24 zclX5 zo_10 ml_X10_191 mi_X5_put mx_X5_put in_X5 mc_X5_put hy_X5_put ⟨by decide, by decide⟩ rfl (Nat.le_of_ble_eq_true rfl) ?_
  refine j_iload_n hK dX10_fits_27 0 rfl rfl ?_
  exact j_iret hK dX10_fits_28 rfl (rt_I hA hf)
def f_X10_next_72 (x1 : Int32) (x2 : Int32) (x3 : Int32) (x4 : Int32) (k e : Int32 × Int32 × Int32 → St → Option (Int32 × St)) (S : St) : Option (Int32 × St) := k (x2, x3, (x4 + (1 : Int32))) S
theorem t_X10_next_72 {K : CT} (hK : KO K cX10_next RX10 7 5 (some .int)) {r : Int32} {S' : St} (hA : zans K (some (.int r), S')) {x1 : Int32} {x2 : Int32} {x3 : Int32} {x4 : Int32} {k e : Int32 × Int32 × Int32 → St → Option (Int32 × St)} (hk : ∀ (v : Int32 × Int32 × Int32) (S : St), k v S = some (r, S') → J K 23 [(0, .ref 0), (1, .int x1), (2, .int v.1), (3, .int v.2.1), (4, .int v.2.2)] [] S) (he : ∀ (v : Int32 × Int32 × Int32) (S : St), e v S = some (r, S') → J K 78 [(0, .ref 0), (2, .int v.1), (3, .int v.2.1)] [] S) {S : St} (hf : f_X10_next_72 x1 x2 x3 x4 k e S = some (r, S')) : J K 72 [(0, .ref 0), (1, .int x1), (2, .int x2), (3, .int x3), (4, .int x4)] [] S := by
  unfold f_X10_next_72 at hf
  refine j_iinc hK (L' := [(4, .int (x4 + (1 : Int32))), (0, .ref 0), (1, .int x1), (2, .int x2), (3, .int x3)]) dX10_next_72 4 rfl (congrArg (fun y => x4 + y) ic_1) (by decide) rfl ?_
  refine j_goto hK 23 dX10_next_75 (by decide) ?_
  refine j_sub [1, 2, 3, 4, 0] rfl ?_
  exact hk _ _ hf
def f_X10_next_23b (x1 : Int32) (e : Int32 × Int32 × Int32 → St → Option (Int32 × St)) (k : Int32 × Int32 × Int32 → St → Option (Int32 × St)) (v : Int32 × Int32 × Int32) (S : St) : Option (Int32 × St) := (if (8 : Int32) ≤ v.2.2 then e (v.1, v.2.1, v.2.2) S else bd (f_X0_endingAt v.2.2 S) (fun r1 S2 => bd (f_J6_bitCount_0f7a4 (x1 &&& r1) S2) (fun r4 S5 => bd (f_J6_bitCount_0f7a4 x1 S5) (fun r7 S8 => lt (mxI r4 (r7 - r4)) (fun y10 => (if v.2.1 ≤ y10 then f_X10_next_72 x1 v.1 v.2.1 v.2.2 k e S8 else f_X10_next_72 x1 v.2.2 y10 v.2.2 k e S8))))))
theorem t_X10_next_23 {K : CT} (hK : KO K cX10_next RX10 7 5 (some .int)) {r : Int32} {S' : St} (hA : zans K (some (.int r), S')) {x1 : Int32} {e : Int32 × Int32 × Int32 → St → Option (Int32 × St)} (he : ∀ (v : Int32 × Int32 × Int32) (S : St), e v S = some (r, S') → J K 78 [(0, .ref 0), (2, .int v.1), (3, .int v.2.1)] [] S) : ∀ (n : Nat) (v : Int32 × Int32 × Int32) (S : St), lp (f_X10_next_23b x1 e) n v S = some (r, S') → J K 23 [(0, .ref 0), (1, .int x1), (2, .int v.1), (3, .int v.2.1), (4, .int v.2.2)] [] S :=
  lp_J (P := fun (v : Int32 × Int32 × Int32) (S : St) => J K 23 [(0, .ref 0), (1, .int x1), (2, .int v.1), (3, .int v.2.1), (4, .int v.2.2)] [] S) (fun k hk v S hf => by
    unfold f_X10_next_23b at hf
    refine j_iload hK dX10_next_23 4 rfl ?_
    refine j_bipush hK (8 : Int32) dX10_next_25 bi_8 ?_
    refine j_icmp_ge hK 78 dX10_next_27 (by decide) (fun hc => ?_) (fun hc => ?_)
    · replace hf := if_1 hc hf
      refine j_sub [0, 2, 3] rfl ?_
      exact he _ _ hf
    · replace hf := if_2 hc hf
      refine j_iload_n hK dX10_next_30 1 rfl rfl ?_
      refine j_aload_n hK dX10_next_31 0 rfl rfl ?_
      refine j_getR hK fl_X10_19 dX10_next_32 zo_0 zf_10_1 zr_0_1 ?_
      refine j_iload hK dX10_next_35 4 rfl ?_
      obtain ⟨r1, S2, h3, hf⟩ := bd_J hf
      refine k_callVi hK (c_X0_endingAt h3) dX10_next_37 zclX0 zo_3 ml_X10_346 mi_X0_endingAt mx_X0_endingAt in_X0 mc_X0_endingAt hy_X0_endingAt ⟨by decide, by decide⟩ rfl (Nat.le_of_ble_eq_true rfl) ?_
      refine j_iand hK dX10_next_40 ?_
      obtain ⟨r4, S5, h6, hf⟩ := bd_J hf
      refine k_callSi hK (c_J6_bitCount_0f7a4 h6) dX10_next_41 ml_X10_263 ms_J6_bitCount_0f7a4 in_J6 mc_J6_bitCount_0f7a4 hy_J6_bitCount_0f7a4 ⟨by decide, by decide⟩ rfl (Nat.le_of_ble_eq_true rfl) ?_
      refine j_pc (pc' := 44) rfl ?_
      refine j_istore hK (L' := [(5, .int r4), (0, .ref 0), (1, .int x1), (2, .int v.1), (3, .int v.2.1), (4, .int v.2.2)]) dX10_next_44 (by decide) rfl ?_
      refine j_iload hK dX10_next_46 0 rfl ?_
      refine j_iload_n hK dX10_next_48 2 rfl rfl ?_
      obtain ⟨r7, S8, h9, hf⟩ := bd_J hf
      refine k_callSi hK (c_J6_bitCount_0f7a4 h9) dX10_next_49 ml_X10_263 ms_J6_bitCount_0f7a4 in_J6 mc_J6_bitCount_0f7a4 hy_J6_bitCount_0f7a4 ⟨by decide, by decide⟩ rfl (Nat.le_of_ble_eq_true rfl) ?_
      refine j_iload hK dX10_next_52 0 rfl ?_
      refine j_isub hK dX10_next_54 ?_
      refine j_max hK ml_X10_175 dX10_next_55 (by decide) (Nat.le_of_ble_eq_true rfl) ?_
      refine lt_I hf (fun y10 hf => ?_)
      refine j_istore hK (L' := [(6, .int y10), (5, .int r4), (0, .ref 0), (1, .int x1), (2, .int v.1), (3, .int v.2.1), (4, .int v.2.2)]) dX10_next_58 (by decide) rfl ?_
      refine j_pc (pc' := 60) rfl ?_
      refine j_iload hK dX10_next_60 0 rfl ?_
      refine j_iload_n hK dX10_next_62 5 rfl rfl ?_
      refine j_icmp_ge hK 72 dX10_next_63 (by decide) (fun hc => ?_) (fun hc => ?_)
      · replace hf := if_1 hc hf
        refine j_sub [2, 3, 4, 5, 6] rfl ?_
        exact t_X10_next_72 hK hA hk he hf
      · replace hf := if_2 hc hf
        refine j_iload hK dX10_next_66 6 rfl ?_
        refine j_istore_n hK (L' := [(2, .int v.2.2), (6, .int y10), (5, .int r4), (0, .ref 0), (1, .int x1), (3, .int v.2.1), (4, .int v.2.2)]) dX10_next_68 rfl (by decide) rfl ?_
        refine j_iload hK dX10_next_69 1 rfl ?_
        refine j_istore_n hK (L' := [(3, .int y10), (2, .int v.2.2), (6, .int y10), (5, .int r4), (0, .ref 0), (1, .int x1), (4, .int v.2.2)]) dX10_next_71 rfl (by decide) rfl ?_
        refine j_sub [4, 5, 1, 0, 6] rfl ?_
        exact t_X10_next_72 hK hA hk he hf)
def f_X10_next (S : St) : Option (Int32 × St) := bd (f_X1_fittingPassages S) (fun r11 S12 => (if r11 = 0 then some ((-2 : Int32), S12) else lp (f_X10_next_23b r11 (fun v14 S15 => bd (f_X5_begin S15) (fun r16 S17 => bd (f_X5_put v14.2.1.toInt64 S17) (fun r19 S20 => some (v14.1, S20))))) FU ((-1 : Int32), (13 : Int32), (0 : Int32)) S12))
theorem c_X10_next {S : St} {r : Int32} {S' : St} (hf : f_X10_next S = some (r, S')) : zM yX10_next cX10_next 7 5 (some .int) [.ref 0] S (some (.int r)) S' := by
  refine zM_of (zpl (by decide)) (Nat.le_of_ble_eq_true rfl) rfl (fun K hK hA => ?_)
  unfold f_X10_next at hf
  refine j_aload_n hK dX10_next_0 0 rfl rfl ?_
  refine j_getR hK fl_X10_56 dX10_next_1 zo_0 zf_10_6 zr_0_6 ?_
  obtain ⟨r11, S12, h13, hf⟩ := bd_J hf
  refine k_callVi hK (c_X1_fittingPassages h13) dX10_next_4 zclX1 zo_101 ml_X10_343 mi_X1_fittingPassages mx_X1_fittingPassages in_X1 mc_X1_fittingPassages hy_X1_fittingPassages ⟨by decide, by decide⟩ rfl (Nat.le_of_ble_eq_true rfl) ?_
  refine j_istore_n hK (L' := [(1, .int r11), (0, .ref 0)]) dX10_next_7 rfl (by decide) rfl ?_
  refine j_iload_n hK dX10_next_8 0 rfl rfl ?_
  refine j_if_ne hK 15 dX10_next_9 (by decide) (fun hc => ?_) (fun hc => ?_)
  · replace hf := if_2 hc hf
    refine j_iconst hK (-1 : Int32) dX10_next_15 ic_m1 ?_
    refine j_istore_n hK (L' := [(2, .int (-1 : Int32)), (1, .int r11), (0, .ref 0)]) dX10_next_16 rfl (by decide) rfl ?_
    refine j_bipush hK (13 : Int32) dX10_next_17 bi_13 ?_
    refine j_istore_n hK (L' := [(3, .int (13 : Int32)), (2, .int (-1 : Int32)), (1, .int r11), (0, .ref 0)]) dX10_next_19 rfl (by decide) rfl ?_
    refine j_iconst hK (0 : Int32) dX10_next_20 ic_0 ?_
    refine j_istore hK (L' := [(4, .int (0 : Int32)), (3, .int (13 : Int32)), (2, .int (-1 : Int32)), (1, .int r11), (0, .ref 0)]) dX10_next_21 (by decide) rfl ?_
    refine j_sub [4, 3, 2, 1, 0] rfl ?_
    refine t_X10_next_23 hK hA  (fun v14 S15 hf => ?_) _ _ _ hf
    refine j_aload_n hK dX10_next_78 0 rfl rfl ?_
    refine j_getR hK fl_X10_26 dX10_next_79 zo_0 zf_10_2 zr_0_2 ?_
    obtain ⟨r16, S17, h18, hf⟩ := bd_J hf
    refine k_callVv hK (c_X5_begin h18) dX10_next_82 zclX5 zo_10 ml_X10_185 mi_X5_begin mx_X5_begin in_X5 mc_X5_begin hy_X5_begin ⟨by decide, by decide⟩ rfl (Nat.le_of_ble_eq_true rfl) ?_
    refine j_aload_n hK dX10_next_85 0 rfl rfl ?_
    refine j_getR hK fl_X10_26 dX10_next_86 zo_0 zf_10_2 zr_0_2 ?_
    refine j_iload_n hK dX10_next_89 2 rfl rfl ?_
    refine j_i2l hK dX10_next_90 ?_
    refine j_pc (pc' := 91) rfl ?_
    obtain ⟨r19, S20, h21, hf⟩ := bd_J hf
    refine k_callVv hK (c_X5_put h21) dX10_next_91 zclX5 zo_10 ml_X10_191 mi_X5_put mx_X5_put in_X5 mc_X5_put hy_X5_put ⟨by decide, by decide⟩ rfl (Nat.le_of_ble_eq_true rfl) ?_
    refine j_iload_n hK dX10_next_94 1 rfl rfl ?_
    exact j_iret hK dX10_next_95 rfl (rt_I hA hf)
  · replace hf := if_1 hc hf
    refine j_bipush hK (-2 : Int32) dX10_next_12 bi_m2 ?_
    exact j_iret hK dX10_next_14 rfl (rt_I hA hf)
def f_X10_isLetter (p0 : Int32) (S : St) : Option (Int32 × St) := (if p0 < 0 then some ((0 : Int32), S) else (if (8 : Int32) ≤ p0 then some ((0 : Int32), S) else some ((1 : Int32), S)))
theorem c_X10_isLetter {p0 : Int32} {S : St} {r : Int32} {S' : St} (hf : f_X10_isLetter p0 S = some (r, S')) : zM yX10_isLetter cX10_isLetter 1 1 (some .boolean) [.int p0] S (some (.int r)) S' := by
  refine zM_of (zpl (by decide)) (Nat.le_of_ble_eq_true rfl) rfl (fun K hK hA => ?_)
  unfold f_X10_isLetter at hf
  refine j_iload_n hK dX10_isLetter_0 0 rfl rfl ?_
  refine j_if_lt hK 14 dX10_isLetter_1 (by decide) (fun hc => ?_) (fun hc => ?_)
  · replace hf := if_1 hc hf
    refine j_iconst hK (0 : Int32) dX10_isLetter_14 ic_0 ?_
    exact j_zret hK dX10_isLetter_15 rfl rfl (rt_I hA hf)
  · replace hf := if_2 hc hf
    refine j_iload_n hK dX10_isLetter_4 0 rfl rfl ?_
    refine j_bipush hK (8 : Int32) dX10_isLetter_5 bi_8 ?_
    refine j_icmp_ge hK 14 dX10_isLetter_7 (by decide) (fun hc => ?_) (fun hc => ?_)
    · replace hf := if_1 hc hf
      refine j_iconst hK (0 : Int32) dX10_isLetter_14 ic_0 ?_
      exact j_zret hK dX10_isLetter_15 rfl rfl (rt_I hA hf)
    · replace hf := if_2 hc hf
      refine j_iconst hK (1 : Int32) dX10_isLetter_10 ic_1 ?_
      refine j_goto hK 15 dX10_isLetter_11 (by decide) ?_
      exact j_zret hK dX10_isLetter_15 rfl rfl (rt_I hA hf)
def f_X3_add_15 (x1 : Int32) (x2 : Int32) (x3 : Int32) (s0 : Int32) (S : St) : Option (Int32 × St) := bd (f_X10_isLetter x1 S) (fun r1 S2 => (if r1 = 0 then some ((0 : Int32), S2) else (if s0 = 0 then some ((0 : Int32), S2) else bd (f_X10_isLetter x3 S2) (fun r4 S5 => (if r4 = 0 then some ((0 : Int32), S5) else (if (gI S5 104 3) < (10 : Int32) then if inb (gI S5 104 3) 10 then lt (sI S5 105 (gI S5 104 3).toNatClampNeg x1) (fun S8 => if inb (gI S8 104 3) 10 then lt (sI S8 106 (gI S8 104 3).toNatClampNeg x2) (fun S10 => if inb (gI S10 104 3) 10 then lt (sI S10 107 (gI S10 104 3).toNatClampNeg x3) (fun S12 => lt (sI S12 104 3 ((gI S12 104 3) + (1 : Int32))) (fun S13 => some ((1 : Int32), S13))) else none) else none) else none else some ((0 : Int32), S5)))))))
theorem t_X3_add_15 {K : CT} (hK : KO K cX3_add RX3 5 2 (some .boolean)) {r : Int32} {S' : St} (hA : zans K (some (.int r), S')) {x1 : Int32} {x2 : Int32} {x3 : Int32} {s0 : Int32} {S : St} (hf : f_X3_add_15 x1 x2 x3 s0 S = some (r, S')) : J K 15 [(0, .ref 104), (1, .int x1), (2, .int x2), (3, .int x3)] [.int s0] S := by
  unfold f_X3_add_15 at hf
  refine j_istore hK (L' := [(4, .int s0), (0, .ref 104), (1, .int x1), (2, .int x2), (3, .int x3)]) dX3_add_15 (by decide) rfl ?_
  refine j_iload_n hK dX3_add_17 2 rfl rfl ?_
  obtain ⟨r1, S2, h3, hf⟩ := bd_J hf
  refine k_callNi hK (c_X10_isLetter h3) dX3_add_18 (fun _ _ _ h => h.1.2.1) ms_X10_isLetter in_X10 mc_X10_isLetter hy_X10_isLetter ⟨by decide, by decide⟩ rfl (Nat.le_of_ble_eq_true rfl) ?_
  refine j_if_eq hK 45 dX3_add_21 (by decide) (fun hc => ?_) (fun hc => ?_)
  · replace hf := if_1 hc hf
    refine j_iconst hK (0 : Int32) dX3_add_45 ic_0 ?_
    exact j_zret hK dX3_add_46 rfl rfl (rt_I hA hf)
  · replace hf := if_2 hc hf
    refine j_iload hK dX3_add_24 0 rfl ?_
    refine j_if_eq hK 45 dX3_add_26 (by decide) (fun hc => ?_) (fun hc => ?_)
    · replace hf := if_1 hc hf
      refine j_iconst hK (0 : Int32) dX3_add_45 ic_0 ?_
      exact j_zret hK dX3_add_46 rfl rfl (rt_I hA hf)
    · replace hf := if_2 hc hf
      refine j_iload_n hK dX3_add_29 4 rfl rfl ?_
      obtain ⟨r4, S5, h6, hf⟩ := bd_J hf
      refine k_callNi hK (c_X10_isLetter h6) dX3_add_30 (fun _ _ _ h => h.1.2.1) ms_X10_isLetter in_X10 mc_X10_isLetter hy_X10_isLetter ⟨by decide, by decide⟩ rfl (Nat.le_of_ble_eq_true rfl) ?_
      refine j_if_eq hK 45 dX3_add_33 (by decide) (fun hc => ?_) (fun hc => ?_)
      · replace hf := if_1 hc hf
        refine j_iconst hK (0 : Int32) dX3_add_45 ic_0 ?_
        exact j_zret hK dX3_add_46 rfl rfl (rt_I hA hf)
      · replace hf := if_2 hc hf
        refine j_aload_n hK dX3_add_36 1 rfl rfl ?_
        refine j_getI hK fl_X3_21 dX3_add_37 zo_104 zf_3_3 ?_
        refine j_bipush hK (10 : Int32) dX3_add_40 bi_10 ?_
        refine j_icmp_lt hK 47 dX3_add_42 (by decide) (fun hc => ?_) (fun hc => ?_)
        · replace hf := if_1 hc hf
          refine j_aload_n hK dX3_add_47 1 rfl rfl ?_
          refine j_getR hK fl_X3_11 dX3_add_48 zo_104 zf_3_0 zr_104_0 ?_
          refine j_aload_n hK dX3_add_51 1 rfl rfl ?_
          refine j_getI hK fl_X3_21 dX3_add_52 zo_104 zf_3_3 ?_
          refine j_iload_n hK dX3_add_55 2 rfl rfl ?_
          obtain ⟨hi7, hf⟩ := gd hf
          refine k_iast hK dX3_add_56 zb_105 hi7 rfl ?_
          refine lt_S hf (fun S8 hf => ?_)
          refine j_aload_n hK dX3_add_57 1 rfl rfl ?_
          refine j_pc (pc' := 58) rfl ?_
          refine j_getR hK fl_X3_15 dX3_add_58 zo_104 zf_3_1 zr_104_1 ?_
          refine j_aload_n hK dX3_add_61 1 rfl rfl ?_
          refine j_getI hK fl_X3_21 dX3_add_62 zo_104 zf_3_3 ?_
          refine j_iload_n hK dX3_add_65 3 rfl rfl ?_
          obtain ⟨hi9, hf⟩ := gd hf
          refine k_iast hK dX3_add_66 zb_106 hi9 rfl ?_
          refine lt_S hf (fun S10 hf => ?_)
          refine j_aload_n hK dX3_add_67 1 rfl rfl ?_
          refine j_getR hK fl_X3_18 dX3_add_68 zo_104 zf_3_2 zr_104_2 ?_
          refine j_aload_n hK dX3_add_71 1 rfl rfl ?_
          refine j_pc (pc' := 72) rfl ?_
          refine j_getI hK fl_X3_21 dX3_add_72 zo_104 zf_3_3 ?_
          refine j_iload_n hK dX3_add_75 4 rfl rfl ?_
          obtain ⟨hi11, hf⟩ := gd hf
          refine k_iast hK dX3_add_76 zb_107 hi11 rfl ?_
          refine lt_S hf (fun S12 hf => ?_)
          refine j_aload_n hK dX3_add_77 1 rfl rfl ?_
          refine j_dup hK dX3_add_78 rfl ?_
          refine j_getI hK fl_X3_21 dX3_add_79 zo_104 zf_3_3 ?_
          refine j_iconst hK (1 : Int32) dX3_add_82 ic_1 ?_
          refine j_iadd hK dX3_add_83 ?_
          refine j_pc (pc' := 84) rfl ?_
          refine j_putI hK fl_X3_21 dX3_add_84 zo_104 zf_3_3 ?_
          refine lt_S hf (fun S13 hf => ?_)
          refine j_iconst hK (1 : Int32) dX3_add_87 ic_1 ?_
          exact j_zret hK dX3_add_88 rfl rfl (rt_I hA hf)
        · replace hf := if_2 hc hf
          refine j_iconst hK (0 : Int32) dX3_add_45 ic_0 ?_
          exact j_zret hK dX3_add_46 rfl rfl (rt_I hA hf)
def f_X3_add_14 (x1 : Int32) (x2 : Int32) (x3 : Int32) (S : St) : Option (Int32 × St) := f_X3_add_15 x1 x2 x3 (0 : Int32) S
theorem t_X3_add_14 {K : CT} (hK : KO K cX3_add RX3 5 2 (some .boolean)) {r : Int32} {S' : St} (hA : zans K (some (.int r), S')) {x1 : Int32} {x2 : Int32} {x3 : Int32} {S : St} (hf : f_X3_add_14 x1 x2 x3 S = some (r, S')) : J K 14 [(0, .ref 104), (1, .int x1), (2, .int x2), (3, .int x3)] [] S := by
  unfold f_X3_add_14 at hf
  refine j_iconst hK (0 : Int32) dX3_add_14 ic_0 ?_
  exact t_X3_add_15 hK hA  hf
def f_X3_add (p1 : Int32) (p2 : Int32) (p3 : Int32) (S : St) : Option (Int32 × St) := (if p2 < 0 then f_X3_add_14 p1 p2 p3 S else (if (9 : Int32) < p2 then f_X3_add_14 p1 p2 p3 S else f_X3_add_15 p1 p2 p3 (1 : Int32) S))
theorem c_X3_add {p1 : Int32} {p2 : Int32} {p3 : Int32} {S : St} {r : Int32} {S' : St} (hf : f_X3_add p1 p2 p3 S = some (r, S')) : zM yX3_add cX3_add 5 2 (some .boolean) [.ref 104, .int p1, .int p2, .int p3] S (some (.int r)) S' := by
  refine zM_of (zpl (by decide)) (Nat.le_of_ble_eq_true rfl) rfl (fun K hK hA => ?_)
  unfold f_X3_add at hf
  refine j_iload_n hK dX3_add_0 2 rfl rfl ?_
  refine j_if_lt hK 14 dX3_add_1 (by decide) (fun hc => ?_) (fun hc => ?_)
  · replace hf := if_1 hc hf
    exact t_X3_add_14 hK hA  hf
  · replace hf := if_2 hc hf
    refine j_iload_n hK dX3_add_4 2 rfl rfl ?_
    refine j_bipush hK (9 : Int32) dX3_add_5 bi_9 ?_
    refine j_icmp_gt hK 14 dX3_add_7 (by decide) (fun hc => ?_) (fun hc => ?_)
    · replace hf := if_1 hc hf
      exact t_X3_add_14 hK hA  hf
    · replace hf := if_2 hc hf
      refine j_iconst hK (1 : Int32) dX3_add_10 ic_1 ?_
      refine j_goto hK 15 dX3_add_11 (by decide) ?_
      exact t_X3_add_15 hK hA  hf
