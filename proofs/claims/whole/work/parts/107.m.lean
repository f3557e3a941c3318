def f_X10_commonDivisor_9b (e : Int64 × Int64 × Int32 → St → Option (Int64 × St)) (k : Int64 × Int64 × Int32 → St → Option (Int64 × St)) (v : Int64 × Int64 × Int32) (S : St) : Option (Int64 × St) := (if (1000 : Int32) ≤ v.2.2 then e (v.1, v.2.1, v.2.2) S else (if (lg_cmp v.2.1 (0 : Int64)) = 0 then e (v.1, v.2.1, v.2.2) S else if ¬ v.2.1 = 0 then lt (v.1 - v.1 / v.2.1 * v.2.1) (fun y2 => k (v.2.1, y2, (v.2.2 + (1 : Int32))) S) else none))
theorem t_X10_commonDivisor_9 {K : CT} (hK : KO K cX10_commonDivisor RX10 11 1 (some .long)) {r : Int64} {S' : St} (hA : zans K = (some (.long r), S')) {e : Int64 × Int64 × Int32 → St → Option (Int64 × St)} (he : ∀ (v : Int64 × Int64 × Int32) (S : St), e v S = some (r, S') → J K 45 [(4, .long v.1)] [] S) : ∀ (n : Nat) (v : Int64 × Int64 × Int32) (S : St), lp (f_X10_commonDivisor_9b  e) n v S = some (r, S') → J K 9 [(4, .long v.1), (6, .long v.2.1), (8, .int v.2.2)] [] S :=
  lp_J (P := fun (v : Int64 × Int64 × Int32) (S : St) => J K 9 [(4, .long v.1), (6, .long v.2.1), (8, .int v.2.2)] [] S) (fun k hk v S hf => by
    unfold f_X10_commonDivisor_9b at hf
    refine j_iload hK dX10_commonDivisor_9 2 rfl ?_
    refine j_sipush hK (1000 : Int32) dX10_commonDivisor_11 si_1000 ?_
    refine j_icmp_ge hK 45 dX10_commonDivisor_14 (by decide) (fun hc => ?_) (fun hc => ?_)
    · replace hf := if_1 hc hf
      refine j_sub [0] rfl ?_
      exact he _ _ hf
    · replace hf := if_2 hc hf
      refine j_lload hK dX10_commonDivisor_17 1 rfl ?_
      refine j_lconst hK (0 : Int64) dX10_commonDivisor_19 lc_0 ?_
      refine j_lcmp hK dX10_commonDivisor_20 ?_
      refine j_if_eq hK 45 dX10_commonDivisor_21 (by decide) (fun hc => ?_) (fun hc => ?_)
      · replace hf := if_1 hc hf
        refine j_sub [0] rfl ?_
        exact he _ _ hf
      · replace hf := if_2 hc hf
        refine j_lload hK dX10_commonDivisor_24 0 rfl ?_
        refine j_lload hK dX10_commonDivisor_26 1 rfl ?_
        obtain ⟨hn1, hf⟩ := gd hf
        refine j_lrem hK dX10_commonDivisor_28 hn1 ?_
        refine lt_L hf (fun y2 hf => ?_)
        refine j_lstore hK (L' := [(9, .long y2), (4, .long v.1), (6, .long v.2.1), (8, .int v.2.2)]) dX10_commonDivisor_29 (by decide) rfl ?_
        refine j_lload hK dX10_commonDivisor_31 2 rfl ?_
        refine j_lstore hK (L' := [(4, .long v.2.1), (9, .long y2), (6, .long v.2.1), (8, .int v.2.2)]) dX10_commonDivisor_33 (by decide) rfl ?_
        refine j_lload hK dX10_commonDivisor_35 1 rfl ?_
        refine j_pc (pc' := 37) rfl ?_
        refine j_lstore hK (L' := [(6, .long y2), (4, .long v.2.1), (9, .long y2), (8, .int v.2.2)]) dX10_commonDivisor_37 (by decide) rfl ?_
        refine j_iinc hK (L' := [(8, .int (v.2.2 + (1 : Int32))), (6, .long y2), (4, .long v.2.1), (9, .long y2)]) dX10_commonDivisor_39 3 rfl (congrArg (fun y => v.2.2 + y) ic_1) (by decide) rfl ?_
        refine j_goto hK 9 dX10_commonDivisor_42 (by decide) ?_
        refine j_sub [2, 1, 0] rfl ?_
        exact hk _ _ hf)
def f_X10_commonDivisor (p0 : Int64) (p2 : Int64) (S : St) : Option (Int64 × St) := lp (f_X10_commonDivisor_9b  (fun v3 S4 => (if (lg_cmp v3.1 (0 : Int64)) ≤ 0 then some ((1 : Int64), S4) else some (v3.1, S4)))) FU (p0, p2, (0 : Int32)) S
theorem c_X10_commonDivisor {p0 : Int64} {p2 : Int64} {S : St} {r : Int64} {S' : St} (hf : f_X10_commonDivisor p0 p2 S = some (r, S')) : zM yX10_commonDivisor cX10_commonDivisor 11 1 (some .long) [.long p0, .long p2] S (some (.long r)) S' := by
  refine zM_of (zpl (by decide)) (Nat.le_of_ble_eq_true rfl) rfl (fun K hK hA => ?_)
  unfold f_X10_commonDivisor at hf
  refine j_lload_n hK dX10_commonDivisor_0 0 rfl rfl ?_
  refine j_lstore hK (L' := [(4, .long p0), (0, .long p0), (2, .long p2)]) dX10_commonDivisor_1 (by decide) rfl ?_
  refine j_lload_n hK dX10_commonDivisor_3 2 rfl rfl ?_
  refine j_lstore hK (L' := [(6, .long p2), (4, .long p0), (0, .long p0), (2, .long p2)]) dX10_commonDivisor_4 (by decide) rfl ?_
  refine j_iconst hK (0 : Int32) dX10_commonDivisor_6 ic_0 ?_
  refine j_istore hK (L' := [(8, .int (0 : Int32)), (6, .long p2), (4, .long p0), (0, .long p0), (2, .long p2)]) dX10_commonDivisor_7 (by decide) rfl ?_
  refine j_sub [2, 1, 0] rfl ?_
  refine t_X10_commonDivisor_9 hK hA  (fun v3 S4 hf => ?_) _ _ _ hf
  refine j_lload hK dX10_commonDivisor_45 0 rfl ?_
  refine j_lconst hK (0 : Int64) dX10_commonDivisor_47 lc_0 ?_
  refine j_lcmp hK dX10_commonDivisor_48 ?_
  refine j_if_le hK 57 dX10_commonDivisor_49 (by decide) (fun hc => ?_) (fun hc => ?_)
  · replace hf := if_1 hc hf
    refine j_lconst hK (1 : Int64) dX10_commonDivisor_57 lc_1 ?_
    exact j_lret hK dX10_commonDivisor_58 rfl (rt_L hA hf)
  · replace hf := if_2 hc hf
    refine j_lload hK dX10_commonDivisor_52 0 rfl ?_
    refine j_goto hK 58 dX10_commonDivisor_54 (by decide) ?_
    exact j_lret hK dX10_commonDivisor_58 rfl (rt_L hA hf)
def f_X10_hints (p1 : Int32) (p2 : Int32) (p3 : Int32) (p4 : Int32) (p5 : Int32) (S : St) : Option (Int32 × St) := bd (f_X10_isLetter p3 S) (fun r1 S2 => (if r1 = 0 then some ((-1 : Int32), S2) else bd (f_X10_isLetter p4 S2) (fun r4 S5 => (if r4 = 0 then some ((-1 : Int32), S5) else (if p5 < 0 then some ((-1 : Int32), S5) else (if (10 : Int32) < p5 then some ((-1 : Int32), S5) else bd (f_X2_goes p1 p2 S5) (fun r7 S8 => (if r7 = 0 then some ((-1 : Int32), S8) else if isRule (gI S8 0 8).toNatClampNeg then bd (f_X2_spread (gI S8 0 8).toNatClampNeg p3 p5 S8) (fun r11 S12 => if inb p4 8 then lt (gL S12 96 p4.toNatClampNeg) (fun y15 => bd (f_X10_commonDivisor r11 y15 S12) (fun r16 S17 => bd (f_X5_begin S17) (fun r19 S20 => if ¬ r16 = 0 then bd (f_X5_put (y15 / r16) S20) (fun r23 S24 => if ¬ r16 = 0 then bd (f_X5_put (r11 / r16) S24) (fun r27 S28 => some ((0 : Int32), S28)) else none) else none))) else none) else none))))))))
theorem c_X10_hints {p1 : Int32} {p2 : Int32} {p3 : Int32} {p4 : Int32} {p5 : Int32} {S : St} {r : Int32} {S' : St} (hf : f_X10_hints p1 p2 p3 p4 p5 S = some (r, S')) : zM yX10_hints cX10_hints 12 5 (some .int) [.ref 0, .int p1, .int p2, .int p3, .int p4, .int p5] S (some (.int r)) S' := by
  refine zM_of (zpl (by decide)) (Nat.le_of_ble_eq_true rfl) rfl (fun K hK hA => ?_)
  unfold f_X10_hints at hf
  refine j_iload_n hK dX10_hints_0 3 rfl rfl ?_
  obtain ⟨r1, S2, h3, hf⟩ := bd_J hf
  refine k_callSi hK (c_X10_isLetter h3) dX10_hints_1 ml_X10_365 ms_X10_isLetter in_X10 mc_X10_isLetter hy_X10_isLetter ⟨by decide, by decide⟩ rfl (Nat.le_of_ble_eq_true rfl) ?_
  refine j_if_eq hK 39 dX10_hints_4 (by decide) (fun hc => ?_) (fun hc => ?_)
  · replace hf := if_1 hc hf
    refine j_iconst hK (-1 : Int32) dX10_hints_39 ic_m1 ?_
    exact j_iret hK dX10_hints_40 rfl (rt_I hA hf)
  · replace hf := if_2 hc hf
    refine j_iload hK dX10_hints_7 4 rfl ?_
    obtain ⟨r4, S5, h6, hf⟩ := bd_J hf
    refine k_callSi hK (c_X10_isLetter h6) dX10_hints_9 ml_X10_365 ms_X10_isLetter in_X10 mc_X10_isLetter hy_X10_isLetter ⟨by decide, by decide⟩ rfl (Nat.le_of_ble_eq_true rfl) ?_
    refine j_if_eq hK 39 dX10_hints_12 (by decide) (fun hc => ?_) (fun hc => ?_)
    · replace hf := if_1 hc hf
      refine j_iconst hK (-1 : Int32) dX10_hints_39 ic_m1 ?_
      exact j_iret hK dX10_hints_40 rfl (rt_I hA hf)
    · replace hf := if_2 hc hf
      refine j_iload hK dX10_hints_15 5 rfl ?_
      refine j_if_lt hK 39 dX10_hints_17 (by decide) (fun hc => ?_) (fun hc => ?_)
      · replace hf := if_1 hc hf
        refine j_iconst hK (-1 : Int32) dX10_hints_39 ic_m1 ?_
        exact j_iret hK dX10_hints_40 rfl (rt_I hA hf)
      · replace hf := if_2 hc hf
        refine j_iload hK dX10_hints_20 5 rfl ?_
        refine j_bipush hK (10 : Int32) dX10_hints_22 bi_10 ?_
        refine j_icmp_gt hK 39 dX10_hints_24 (by decide) (fun hc => ?_) (fun hc => ?_)
        · replace hf := if_1 hc hf
          refine j_iconst hK (-1 : Int32) dX10_hints_39 ic_m1 ?_
          exact j_iret hK dX10_hints_40 rfl (rt_I hA hf)
        · replace hf := if_2 hc hf
          refine j_aload_n hK dX10_hints_27 0 rfl rfl ?_
          refine j_getR hK fl_X10_42 dX10_hints_28 zo_0 zf_10_4 zr_0_4 ?_
          refine j_iload_n hK dX10_hints_31 1 rfl rfl ?_
          refine j_iload_n hK dX10_hints_32 2 rfl rfl ?_
          obtain ⟨r7, S8, h9, hf⟩ := bd_J hf
          refine k_callVi hK (c_X2_goes h9) dX10_hints_33 zclX2 zo_92 ml_X10_236 mi_X2_goes mx_X2_goes in_X2 mc_X2_goes hy_X2_goes ⟨by decide, by decide⟩ rfl (Nat.le_of_ble_eq_true rfl) ?_
          refine j_if_ne hK 41 dX10_hints_36 (by decide) (fun hc => ?_) (fun hc => ?_)
          · replace hf := if_2 hc hf
            refine j_aload_n hK dX10_hints_41 0 rfl rfl ?_
            refine j_getR hK fl_X10_42 dX10_hints_42 zo_0 zf_10_4 zr_0_4 ?_
            refine j_aload_n hK dX10_hints_45 0 rfl rfl ?_
            obtain ⟨hr10, hf⟩ := gd hf
            refine j_getD hK fl_X10_70 dX10_hints_46 zo_0 zf_10_8 ?_
            refine j_iload_n hK dX10_hints_49 3 rfl rfl ?_
            refine j_iload hK dX10_hints_50 5 rfl ?_
            obtain ⟨r11, S12, h13, hf⟩ := bd_J hf
            refine k_callVl hK (c_X2_spread hr10 h13) dX10_hints_52 zclX2 zo_92 ml_X10_368 mi_X2_spread mx_X2_spread in_X2 mc_X2_spread hy_X2_spread ⟨by decide, by decide⟩ rfl (Nat.le_of_ble_eq_true rfl) ?_
            refine j_pc (pc' := 55) rfl ?_
            refine j_lstore hK (L' := [(6, .long r11), (0, .ref 0), (1, .int p1), (2, .int p2), (3, .int p3), (4, .int p4), (5, .int p5)]) dX10_hints_55 (by decide) rfl ?_
            refine j_aload_n hK dX10_hints_57 1 rfl rfl ?_
            refine j_getR hK fl_X10_42 dX10_hints_58 zo_0 zf_10_4 zr_0_4 ?_
            refine j_getR hK fl_X10_372 dX10_hints_61 zo_92 zf_2_7 zr_92_7 ?_
            refine j_iload hK dX10_hints_64 5 rfl ?_
            obtain ⟨hi14, hf⟩ := gd hf
            refine k_lald hK dX10_hints_66 zb_96 hi14 rfl ?_
            refine lt_L hf (fun y15 hf => ?_)
            refine j_lstore hK (L' := [(8, .long y15), (6, .long r11), (0, .ref 0), (1, .int p1), (2, .int p2), (3, .int p3), (4, .int p4), (5, .int p5)]) dX10_hints_67 (by decide) rfl ?_
            refine j_lload hK dX10_hints_69 1 rfl ?_
            refine j_pc (pc' := 71) rfl ?_
            refine j_lload hK dX10_hints_71 0 rfl ?_
            obtain ⟨r16, S17, h18, hf⟩ := bd_J hf
            refine k_callSl hK (c_X10_commonDivisor h18) dX10_hints_73 ml_X10_376 ms_X10_commonDivisor in_X10 mc_X10_commonDivisor hy_X10_commonDivisor ⟨by decide, by decide⟩ rfl (Nat.le_of_ble_eq_true rfl) ?_
            refine j_lstore hK (L' := [(10, .long r16), (8, .long y15), (6, .long r11), (0, .ref 0), (1, .int p1), (2, .int p2), (3, .int p3), (4, .int p4), (5, .int p5)]) dX10_hints_76 (by decide) rfl ?_
            refine j_aload_n hK dX10_hints_78 3 rfl rfl ?_
            refine j_getR hK fl_X10_26 dX10_hints_79 zo_0 zf_10_2 zr_0_2 ?_
            obtain ⟨r19, S20, h21, hf⟩ := bd_J hf
            refine k_callVv hK (c_X5_begin h21) dX10_hints_82 zclX5 zo_10 ml_X10_185 mi_X5_begin mx_X5_begin in_X5 mc_X5_begin hy_X5_begin ⟨by decide, by decide⟩ rfl (Nat.le_of_ble_eq_true rfl) ?_
            refine j_aload_n hK dX10_hints_85 3 rfl rfl ?_
            refine j_getR hK fl_X10_26 dX10_hints_86 zo_0 zf_10_2 zr_0_2 ?_
            refine j_pc (pc' := 89) rfl ?_
            refine j_lload hK dX10_hints_89 1 rfl ?_
            refine j_lload hK dX10_hints_91 0 rfl ?_
            obtain ⟨hn22, hf⟩ := gd hf
            refine j_ldiv hK dX10_hints_93 hn22 ?_
            obtain ⟨r23, S24, h25, hf⟩ := bd_J hf
            refine k_callVv hK (c_X5_put h25) dX10_hints_94 zclX5 zo_10 ml_X10_191 mi_X5_put mx_X5_put in_X5 mc_X5_put hy_X5_put ⟨by decide, by decide⟩ rfl (Nat.le_of_ble_eq_true rfl) ?_
            refine j_aload_n hK dX10_hints_97 3 rfl rfl ?_
            refine j_getR hK fl_X10_26 dX10_hints_98 zo_0 zf_10_2 zr_0_2 ?_
            refine j_lload hK dX10_hints_101 2 rfl ?_
            refine j_lload hK dX10_hints_103 0 rfl ?_
            refine j_pc (pc' := 105) rfl ?_
            obtain ⟨hn26, hf⟩ := gd hf
            refine j_ldiv hK dX10_hints_105 hn26 ?_
            obtain ⟨r27, S28, h29, hf⟩ := bd_J hf
            refine k_callVv hK (c_X5_put h29) dX10_hints_106 zclX5 zo_10 ml_X10_191 mi_X5_put mx_X5_put in_X5 mc_X5_put hy_X5_put ⟨by decide, by decide⟩ rfl (Nat.le_of_ble_eq_true rfl) ?_
            refine j_iconst hK (0 : Int32) dX10_hints_109 ic_0 ?_
            exact j_iret hK dX10_hints_110 rfl (rt_I hA hf)
          · replace hf := if_1 hc hf
            refine j_iconst hK (-1 : Int32) dX10_hints_39 ic_m1 ?_
            exact j_iret hK dX10_hints_40 rfl (rt_I hA hf)
def f_X10_goodMoves_41 (x1 : Int32) (x2 : Int32) (x3 : Int32) (x4 : Int32) (k e : Int32 × Int32 → St → Option (Int32 × St)) (S : St) : Option (Int32 × St) := k (x3, (x4 + (1 : Int32))) S
theorem t_X10_goodMoves_41 {K : CT} (hK : KO K cX10_goodMoves RX10 5 1 (some .int)) {r : Int32} {S' : St} (hA : zans K = (some (.int r), S')) {x1 : Int32} {x2 : Int32} {x3 : Int32} {x4 : Int32} {k e : Int32 × Int32 → St → Option (Int32 × St)} (hk : ∀ (v : Int32 × Int32) (S : St), k v S = some (r, S') → J K 5 [(0, .ref 0), (1, .int x1), (2, .int x2), (3, .int v.1), (4, .int v.2)] [] S) (he : ∀ (v : Int32 × Int32) (S : St), e v S = some (r, S') → J K 47 [(3, .int v.1)] [] S) {S : St} (hf : f_X10_goodMoves_41 x1 x2 x3 x4 k e S = some (r, S')) : J K 41 [(0, .ref 0), (1, .int x1), (2, .int x2), (3, .int x3), (4, .int x4)] [] S := by
  unfold f_X10_goodMoves_41 at hf
  refine j_iinc hK (L' := [(4, .int (x4 + (1 : Int32))), (0, .ref 0), (1, .int x1), (2, .int x2), (3, .int x3)]) dX10_goodMoves_41 4 rfl (congrArg (fun y => x4 + y) ic_1) (by decide) rfl ?_
  refine j_goto hK 5 dX10_goodMoves_44 (by decide) ?_
  refine j_sub [1, 2, 3, 4, 0] rfl ?_
  exact hk _ _ hf
def f_X10_goodMoves_5b (x1 : Int32) (x2 : Int32) (e : Int32 × Int32 → St → Option (Int32 × St)) (k : Int32 × Int32 → St → Option (Int32 × St)) (v : Int32 × Int32) (S : St) : Option (Int32 × St) := (if x2 < v.2 then e (v.1, v.2) S else (if x1 < v.2 then e (v.1, v.2) S else if inb (x1 - v.2) 61 then lt (((gI S 121 (x1 - v.2).toNatClampNeg) >>> (v.2 &&& 31)) &&& (1 : Int32)) (fun y2 => (if y2 = 0 then lt (v.1 ||| ((1 : Int32) <<< (v.2 &&& 31))) (fun y3 => f_X10_goodMoves_41 x1 x2 y3 v.2 k e S) else f_X10_goodMoves_41 x1 x2 v.1 v.2 k e S)) else none))
theorem t_X10_goodMoves_5 {K : CT} (hK : KO K cX10_goodMoves RX10 5 1 (some .int)) {r : Int32} {S' : St} (hA : zans K = (some (.int r), S')) {x1 : Int32} {x2 : Int32} {e : Int32 × Int32 → St → Option (Int32 × St)} (he : ∀ (v : Int32 × Int32) (S : St), e v S = some (r, S') → J K 47 [(3, .int v.1)] [] S) : ∀ (n : Nat) (v : Int32 × Int32) (S : St), lp (f_X10_goodMoves_5b x1 x2 e) n v S = some (r, S') → J K 5 [(0, .ref 0), (1, .int x1), (2, .int x2), (3, .int v.1), (4, .int v.2)] [] S :=
  lp_J (P := fun (v : Int32 × Int32) (S : St) => J K 5 [(0, .ref 0), (1, .int x1), (2, .int x2), (3, .int v.1), (4, .int v.2)] [] S) (fun k hk v S hf => by
    unfold f_X10_goodMoves_5b at hf
    refine j_iload hK dX10_goodMoves_5 4 rfl ?_
    refine j_iload_n hK dX10_goodMoves_7 2 rfl rfl ?_
    refine j_icmp_gt hK 47 dX10_goodMoves_8 (by decide) (fun hc => ?_) (fun hc => ?_)
    · replace hf := if_1 hc hf
      refine j_sub [3] rfl ?_
      exact he _ _ hf
    · replace hf := if_2 hc hf
      refine j_iload hK dX10_goodMoves_11 4 rfl ?_
      refine j_iload_n hK dX10_goodMoves_13 1 rfl rfl ?_
      refine j_icmp_gt hK 47 dX10_goodMoves_14 (by decide) (fun hc => ?_) (fun hc => ?_)
      · replace hf := if_1 hc hf
        refine j_sub [3] rfl ?_
        exact he _ _ hf
      · replace hf := if_2 hc hf
        refine j_aload_n hK dX10_goodMoves_17 0 rfl rfl ?_
        refine j_getR hK fl_X10_81 dX10_goodMoves_18 zo_0 zf_10_11 zr_0_11 ?_
        refine j_iload_n hK dX10_goodMoves_21 1 rfl rfl ?_
        refine j_iload hK dX10_goodMoves_22 4 rfl ?_
        refine j_isub hK dX10_goodMoves_24 ?_
        obtain ⟨hi1, hf⟩ := gd hf
        refine k_iald hK dX10_goodMoves_25 zb_121 hi1 rfl ?_
        refine j_iload hK dX10_goodMoves_26 4 rfl ?_
        refine j_pc (pc' := 28) rfl ?_
        refine j_ishr hK dX10_goodMoves_28 ?_
        refine j_iconst hK (1 : Int32) dX10_goodMoves_29 ic_1 ?_
        refine j_iand hK dX10_goodMoves_30 ?_
        refine lt_I hf (fun y2 hf => ?_)
        refine j_if_ne hK 41 dX10_goodMoves_31 (by decide) (fun hc => ?_) (fun hc => ?_)
        · replace hf := if_2 hc hf
          exact t_X10_goodMoves_41 hK hA hk he hf
        · replace hf := if_1 hc hf
          refine j_iload_n hK dX10_goodMoves_34 3 rfl rfl ?_
          refine j_iconst hK (1 : Int32) dX10_goodMoves_35 ic_1 ?_
          refine j_iload hK dX10_goodMoves_36 4 rfl ?_
          refine j_ishl hK dX10_goodMoves_38 ?_
          refine j_ior hK dX10_goodMoves_39 ?_
          refine lt_I hf (fun y3 hf => ?_)
          refine j_istore_n hK (L' := [(3, .int y3), (0, .ref 0), (1, .int x1), (2, .int x2), (4, .int v.2)]) dX10_goodMoves_40 rfl (by decide) rfl ?_
          refine j_sub [1, 2, 3, 0, 4] rfl ?_
          exact t_X10_goodMoves_41 hK hA hk he hf)
def f_X10_goodMoves (p1 : Int32) (p2 : Int32) (S : St) : Option (Int32 × St) := lp (f_X10_goodMoves_5b p1 p2 (fun v4 S5 => some (v4.1, S5))) FU ((0 : Int32), (1 : Int32)) S
theorem c_X10_goodMoves {p1 : Int32} {p2 : Int32} {S : St} {r : Int32} {S' : St} (hf : f_X10_goodMoves p1 p2 S = some (r, S')) : zM yX10_goodMoves cX10_goodMoves 5 1 (some .int) [.ref 0, .int p1, .int p2] S (some (.int r)) S' := by
  refine zM_of (zpl (by decide)) (Nat.le_of_ble_eq_true rfl) rfl (fun K hK hA => ?_)
  unfold f_X10_goodMoves at hf
  refine j_iconst hK (0 : Int32) dX10_goodMoves_0 ic_0 ?_
  refine j_istore_n hK (L' := [(3, .int (0 : Int32)), (0, .ref 0), (1, .int p1), (2, .int p2)]) dX10_goodMoves_1 rfl (by decide) rfl ?_
  refine j_iconst hK (1 : Int32) dX10_goodMoves_2 ic_1 ?_
  refine j_istore hK (L' := [(4, .int (1 : Int32)), (3, .int (0 : Int32)), (0, .ref 0), (1, .int p1), (2, .int p2)]) dX10_goodMoves_3 (by decide) rfl ?_
  refine j_sub [2, 3, 4, 1, 0] rfl ?_
  refine t_X10_goodMoves_5 hK hA  (fun v4 S5 hf => ?_) _ _ _ hf
  refine j_iload_n hK dX10_goodMoves_47 0 rfl rfl ?_
  exact j_iret hK dX10_goodMoves_48 rfl (rt_I hA hf)
def f_X10_winsBehind_55 (x1 : Int32) (x2 : Int32) (x3 : Int32) (x4 : Int32) (x5 : Int32) (k e : Int32 × Int32 → St → Option (Int32 × St)) (S : St) : Option (Int32 × St) := k (x4, (x5 + (1 : Int32))) S
theorem t_X10_winsBehind_55 {K : CT} (hK : KO K cX10_winsBehind RX10 7 1 (some .int)) {r : Int32} {S' : St} (hA : zans K = (some (.int r), S')) {x1 : Int32} {x2 : Int32} {x3 : Int32} {x4 : Int32} {x5 : Int32} {k e : Int32 × Int32 → St → Option (Int32 × St)} (hk : ∀ (v : Int32 × Int32) (S : St), k v S = some (r, S') → J K 18 [(1, .int x1), (2, .int x2), (3, .int x3), (4, .int v.1), (5, .int v.2)] [] S) (he : ∀ (v : Int32 × Int32) (S : St), e v S = some (r, S') → J K 61 [(4, .int v.1)] [] S) {S : St} (hf : f_X10_winsBehind_55 x1 x2 x3 x4 x5 k e S = some (r, S')) : J K 55 [(1, .int x1), (2, .int x2), (3, .int x3), (4, .int x4), (5, .int x5)] [] S := by
  unfold f_X10_winsBehind_55 at hf
  refine j_iinc hK (L' := [(5, .int (x5 + (1 : Int32))), (1, .int x1), (2, .int x2), (3, .int x3), (4, .int x4)]) dX10_winsBehind_55 4 rfl (congrArg (fun y => x5 + y) ic_1) (by decide) rfl ?_
  refine j_goto hK 18 dX10_winsBehind_58 (by decide) ?_
  refine j_sub [1, 2, 3, 4, 0] rfl ?_
  exact hk _ _ hf
def f_X10_winsBehind_46 (x1 : Int32) (x2 : Int32) (x3 : Int32) (x4 : Int32) (x5 : Int32) (k e : Int32 × Int32 → St → Option (Int32 × St)) (S : St) : Option (Int32 × St) := lt (x4 ||| ((1 : Int32) <<< (x5 &&& 31))) (fun y1 => f_X10_winsBehind_55 x1 x2 x3 y1 x5 k e S)
theorem t_X10_winsBehind_46 {K : CT} (hK : KO K cX10_winsBehind RX10 7 1 (some .int)) {r : Int32} {S' : St} (hA : zans K = (some (.int r), S')) {x1 : Int32} {x2 : Int32} {x3 : Int32} {x4 : Int32} {x5 : Int32} {k e : Int32 × Int32 → St → Option (Int32 × St)} (hk : ∀ (v : Int32 × Int32) (S : St), k v S = some (r, S') → J K 18 [(1, .int x1), (2, .int x2), (3, .int x3), (4, .int v.1), (5, .int v.2)] [] S) (he : ∀ (v : Int32 × Int32) (S : St), e v S = some (r, S') → J K 61 [(4, .int v.1)] [] S) {S : St} (hf : f_X10_winsBehind_46 x1 x2 x3 x4 x5 k e S = some (r, S')) : J K 46 [(1, .int x1), (2, .int x2), (3, .int x3), (4, .int x4), (5, .int x5)] [] S := by
  unfold f_X10_winsBehind_46 at hf
  refine j_iload hK dX10_winsBehind_46 3 rfl ?_
  refine j_iconst hK (1 : Int32) dX10_winsBehind_48 ic_1 ?_
  refine j_iload hK dX10_winsBehind_49 4 rfl ?_
  refine j_ishl hK dX10_winsBehind_51 ?_
  refine j_ior hK dX10_winsBehind_52 ?_
  refine lt_I hf (fun y1 hf => ?_)
  refine j_istore hK (L' := [(4, .int y1), (1, .int x1), (2, .int x2), (3, .int x3), (5, .int x5)]) dX10_winsBehind_53 (by decide) rfl ?_
  refine j_sub [1, 2, 3, 0, 4] rfl ?_
  exact t_X10_winsBehind_55 hK hA hk he hf
def f_X10_winsBehind_18b (x1 : Int32) (x2 : Int32) (x3 : Int32) (e : Int32 × Int32 → St → Option (Int32 × St)) (k : Int32 × Int32 → St → Option (Int32 × St)) (v : Int32 × Int32) (S : St) : Option (Int32 × St) := (if x1 < v.2 then e (v.1, v.2) S else lt (((1 : Int32) <<< (v.2 &&& 31)) ^^^ (-1 : Int32)) (fun y2 => (if (x2 &&& y2) = 0 then (if (x3 &&& y2) = 0 then f_X10_winsBehind_46 x1 x2 x3 v.1 v.2 k e S else f_X10_winsBehind_55 x1 x2 x3 v.1 v.2 k e S) else f_X10_winsBehind_46 x1 x2 x3 v.1 v.2 k e S)))
theorem t_X10_winsBehind_18 {K : CT} (hK : KO K cX10_winsBehind RX10 7 1 (some .int)) {r : Int32} {S' : St} (hA : zans K = (some (.int r), S')) {x1 : Int32} {x2 : Int32} {x3 : Int32} {e : Int32 × Int32 → St → Option (Int32 × St)} (he : ∀ (v : Int32 × Int32) (S : St), e v S = some (r, S') → J K 61 [(4, .int v.1)] [] S) : ∀ (n : Nat) (v : Int32 × Int32) (S : St), lp (f_X10_winsBehind_18b x1 x2 x3 e) n v S = some (r, S') → J K 18 [(1, .int x1), (2, .int x2), (3, .int x3), (4, .int v.1), (5, .int v.2)] [] S :=
  lp_J (P := fun (v : Int32 × Int32) (S : St) => J K 18 [(1, .int x1), (2, .int x2), (3, .int x3), (4, .int v.1), (5, .int v.2)] [] S) (fun k hk v S hf => by
    unfold f_X10_winsBehind_18b at hf
    refine j_iload hK dX10_winsBehind_18 4 rfl ?_
    refine j_iload_n hK dX10_winsBehind_20 0 rfl rfl ?_
    refine j_icmp_gt hK 61 dX10_winsBehind_21 (by decide) (fun hc => ?_) (fun hc => ?_)
    · replace hf := if_1 hc hf
      refine j_sub [3] rfl ?_
      exact he _ _ hf
    · replace hf := if_2 hc hf
      refine j_iconst hK (1 : Int32) dX10_winsBehind_24 ic_1 ?_
      refine j_iload hK dX10_winsBehind_25 4 rfl ?_
      refine j_ishl hK dX10_winsBehind_27 ?_
      refine j_iconst hK (-1 : Int32) dX10_winsBehind_28 ic_m1 ?_
      refine j_ixor hK dX10_winsBehind_29 ?_
      refine lt_I hf (fun y2 hf => ?_)
      refine j_istore hK (L' := [(6, .int y2), (1, .int x1), (2, .int x2), (3, .int x3), (4, .int v.1), (5, .int v.2)]) dX10_winsBehind_30 (by decide) rfl ?_
      refine j_iload_n hK dX10_winsBehind_32 2 rfl rfl ?_
      refine j_pc (pc' := 33) rfl ?_
      refine j_iload hK dX10_winsBehind_33 0 rfl ?_
      refine j_iand hK dX10_winsBehind_35 ?_
      refine j_if_ne hK 46 dX10_winsBehind_36 (by decide) (fun hc => ?_) (fun hc => ?_)
      · replace hf := if_2 hc hf
        refine j_sub [1, 2, 3, 4, 5] rfl ?_
        exact t_X10_winsBehind_46 hK hA hk he hf
      · replace hf := if_1 hc hf
        refine j_iload_n hK dX10_winsBehind_39 3 rfl rfl ?_
        refine j_iload hK dX10_winsBehind_40 0 rfl ?_
        refine j_iand hK dX10_winsBehind_42 ?_
        refine j_if_ne hK 55 dX10_winsBehind_43 (by decide) (fun hc => ?_) (fun hc => ?_)
        · replace hf := if_2 hc hf
          refine j_sub [1, 2, 3, 4, 5] rfl ?_
          exact t_X10_winsBehind_55 hK hA hk he hf
        · replace hf := if_1 hc hf
          refine j_sub [1, 2, 3, 4, 5] rfl ?_
          exact t_X10_winsBehind_46 hK hA hk he hf)
def f_X10_winsBehind (p0 : Int32) (p1 : Int32) (p2 : Int32) (S : St) : Option (Int32 × St) := lt (((1 : Int32) <<< (((mnI p0 p1) + (1 : Int32)) &&& 31)) - (2 : Int32)) (fun y3 => lp (f_X10_winsBehind_18b p1 p2 y3 (fun v4 S5 => some (v4.1, S5))) FU ((0 : Int32), (0 : Int32)) S)
theorem c_X10_winsBehind {p0 : Int32} {p1 : Int32} {p2 : Int32} {S : St} {r : Int32} {S' : St} (hf : f_X10_winsBehind p0 p1 p2 S = some (r, S')) : zM yX10_winsBehind cX10_winsBehind 7 1 (some .int) [.int p0, .int p1, .int p2] S (some (.int r)) S' := by
  refine zM_of (zpl (by decide)) (Nat.le_of_ble_eq_true rfl) rfl (fun K hK hA => ?_)
  unfold f_X10_winsBehind at hf
  refine j_iconst hK (1 : Int32) dX10_winsBehind_0 ic_1 ?_
  refine j_iload_n hK dX10_winsBehind_1 0 rfl rfl ?_
  refine j_iload_n hK dX10_winsBehind_2 1 rfl rfl ?_
  refine j_min hK ml_X10_170 dX10_winsBehind_3 (by decide) (Nat.le_of_ble_eq_true rfl) ?_
  refine j_iconst hK (1 : Int32) dX10_winsBehind_6 ic_1 ?_
  refine j_iadd hK dX10_winsBehind_7 ?_
  refine j_ishl hK dX10_winsBehind_8 ?_
  refine j_iconst hK (2 : Int32) dX10_winsBehind_9 ic_2 ?_
  refine j_pc (pc' := 10) rfl ?_
  refine j_isub hK dX10_winsBehind_10 ?_
  refine lt_I hf (fun y3 hf => ?_)
  refine j_istore_n hK (L' := [(3, .int y3), (0, .int p0), (1, .int p1), (2, .int p2)]) dX10_winsBehind_11 rfl (by decide) rfl ?_
  refine j_iconst hK (0 : Int32) dX10_winsBehind_12 ic_0 ?_
  refine j_istore hK (L' := [(4, .int (0 : Int32)), (3, .int y3), (0, .int p0), (1, .int p1), (2, .int p2)]) dX10_winsBehind_13 (by decide) rfl ?_
  refine j_iconst hK (0 : Int32) dX10_winsBehind_15 ic_0 ?_
  refine j_istore hK (L' := [(5, .int (0 : Int32)), (4, .int (0 : Int32)), (3, .int y3), (0, .int p0), (1, .int p1), (2, .int p2)]) dX10_winsBehind_16 (by decide) rfl ?_
  refine j_sub [4, 5, 2, 1, 0] rfl ?_
  refine t_X10_winsBehind_18 hK hA  (fun v4 S5 hf => ?_) _ _ _ hf
  refine j_iload hK dX10_winsBehind_61 0 rfl ?_
  exact j_iret hK dX10_winsBehind_63 rfl (rt_I hA hf)
def f_X10_game_65b (x2 : Int32) (x3 : Int32) (e : Int32 → St → Option (Int32 × St)) (k : Int32 → St → Option (Int32 × St)) (v : Int32) (S : St) : Option (Int32 × St) := (if x2 < v then e v S else (if ((x3 >>> (v &&& 31)) &&& (1 : Int32)) = (1 : Int32) then some (v, S) else k (v + (1 : Int32)) S))
theorem t_X10_game_65 {K : CT} (hK : KO K cX10_game RX10 5 2 (some .int)) {r : Int32} {S' : St} (hA : zans K = (some (.int r), S')) {x2 : Int32} {x3 : Int32} {e : Int32 → St → Option (Int32 × St)} (he : ∀ (v : Int32) (S : St), e v S = some (r, S') → J K 90 [] [] S) : ∀ (n : Nat) (v : Int32) (S : St), lp (f_X10_game_65b x2 x3 e) n v S = some (r, S') → J K 65 [(2, .int x2), (3, .int x3), (4, .int v)] [] S :=
  lp_J (P := fun (v : Int32) (S : St) => J K 65 [(2, .int x2), (3, .int x3), (4, .int v)] [] S) (fun k hk v S hf => by
    unfold f_X10_game_65b at hf
    refine j_iload hK dX10_game_65 2 rfl ?_
    refine j_iload_n hK dX10_game_67 0 rfl rfl ?_
    refine j_icmp_gt hK 90 dX10_game_68 (by decide) (fun hc => ?_) (fun hc => ?_)
    · replace hf := if_1 hc hf
      refine j_sub [] rfl ?_
      exact he _ _ hf
    · replace hf := if_2 hc hf
      refine j_iload_n hK dX10_game_71 1 rfl rfl ?_
      refine j_iload hK dX10_game_72 2 rfl ?_
      refine j_ishr hK dX10_game_74 ?_
      refine j_iconst hK (1 : Int32) dX10_game_75 ic_1 ?_
      refine j_iand hK dX10_game_76 ?_
      refine j_iconst hK (1 : Int32) dX10_game_77 ic_1 ?_
      refine j_icmp_ne hK 84 dX10_game_78 (by decide) (fun hc => ?_) (fun hc => ?_)
      · replace hf := if_2 hc hf
        refine j_iinc hK (L' := [(4, .int (v + (1 : Int32))), (2, .int x2), (3, .int x3)]) dX10_game_84 2 rfl (congrArg (fun y => v + y) ic_1) (by decide) rfl ?_
        refine j_goto hK 65 dX10_game_87 (by decide) ?_
        refine j_sub [1, 2, 0] rfl ?_
        exact hk _ _ hf
      · replace hf := if_1 hc hf
        refine j_iload hK dX10_game_81 2 rfl ?_
        exact j_iret hK dX10_game_83 rfl (rt_I hA hf))
def f_X10_game_28b (x1 : Int32) (x2 : Int32) (e : Int32 × Int32 → St → Option (Int32 × St)) (k : Int32 × Int32 → St → Option (Int32 × St)) (v : Int32 × Int32) (S : St) : Option (Int32 × St) := (if x1 < v.2 then e (v.1, v.2) S else bd (f_X10_goodMoves v.2 x2 S) (fun r1 S2 => bd (f_X10_winsBehind v.2 x2 r1 S2) (fun r4 S5 => if inb v.2 61 then lt (sI S5 121 v.2.toNatClampNeg r4) (fun S8 => k (r1, (v.2 + (1 : Int32))) S8) else none)))
theorem t_X10_game_28 {K : CT} (hK : KO K cX10_game RX10 5 2 (some .int)) {r : Int32} {S' : St} (hA : zans K = (some (.int r), S')) {x1 : Int32} {x2 : Int32} {e : Int32 × Int32 → St → Option (Int32 × St)} (he : ∀ (v : Int32 × Int32) (S : St), e v S = some (r, S') → J K 62 [(2, .int x2), (3, .int v.1)] [] S) : ∀ (n : Nat) (v : Int32 × Int32) (S : St), lp (f_X10_game_28b x1 x2 e) n v S = some (r, S') → J K 28 [(0, .ref 0), (1, .int x1), (2, .int x2), (3, .int v.1), (4, .int v.2)] [] S :=
  lp_J (P := fun (v : Int32 × Int32) (S : St) => J K 28 [(0, .ref 0), (1, .int x1), (2, .int x2), (3, .int v.1), (4, .int v.2)] [] S) (fun k hk v S hf => by
    unfold f_X10_game_28b at hf
    refine j_iload hK dX10_game_28 4 rfl ?_
    refine j_iload_n hK dX10_game_30 1 rfl rfl ?_
    refine j_icmp_gt hK 62 dX10_game_31 (by decide) (fun hc => ?_) (fun hc => ?_)
    · replace hf := if_1 hc hf
      refine j_sub [2, 3] rfl ?_
      exact he _ _ hf
    · replace hf := if_2 hc hf
      refine j_aload_n hK dX10_game_34 0 rfl rfl ?_
      refine j_iload hK dX10_game_35 4 rfl ?_
      refine j_iload_n hK dX10_game_37 2 rfl rfl ?_
      obtain ⟨r1, S2, h3, hf⟩ := bd_J hf
      refine k_callVi hK (c_X10_goodMoves h3) dX10_game_38 zclX10 zo_0 ml_X10_380 mi_X10_goodMoves mx_X10_goodMoves in_X10 mc_X10_goodMoves hy_X10_goodMoves ⟨by decide, by decide⟩ rfl (Nat.le_of_ble_eq_true rfl) ?_
      refine j_istore_n hK (L' := [(3, .int r1), (0, .ref 0), (1, .int x1), (2, .int x2), (4, .int v.2)]) dX10_game_41 rfl (by decide) rfl ?_
      refine j_aload_n hK dX10_game_42 1 rfl rfl ?_
      refine j_getR hK fl_X10_81 dX10_game_43 zo_0 zf_10_11 zr_0_11 ?_
      refine j_pc (pc' := 46) rfl ?_
      refine j_iload hK dX10_game_46 4 rfl ?_
      refine j_iload hK dX10_game_48 4 rfl ?_
      refine j_iload_n hK dX10_game_50 3 rfl rfl ?_
      refine j_iload_n hK dX10_game_51 0 rfl rfl ?_
      obtain ⟨r4, S5, h6, hf⟩ := bd_J hf
      refine k_callSi hK (c_X10_winsBehind h6) dX10_game_52 ml_X10_383 ms_X10_winsBehind in_X10 mc_X10_winsBehind hy_X10_winsBehind ⟨by decide, by decide⟩ rfl (Nat.le_of_ble_eq_true rfl) ?_
      obtain ⟨hi7, hf⟩ := gd hf
      refine k_iast hK dX10_game_55 zb_121 hi7 rfl ?_
      refine lt_S hf (fun S8 hf => ?_)
      refine j_iinc hK (L' := [(4, .int (v.2 + (1 : Int32))), (3, .int r1), (0, .ref 0), (1, .int x1), (2, .int x2)]) dX10_game_56 4 rfl (congrArg (fun y => v.2 + y) ic_1) (by decide) rfl ?_
      refine j_goto hK 28 dX10_game_59 (by decide) ?_
      refine j_sub [2, 3, 4, 1, 0] rfl ?_
      exact hk _ _ hf)
def f_X10_game (p1 : Int32) (p2 : Int32) (S : St) : Option (Int32 × St) := (if p1 < 0 then some ((-1 : Int32), S) else (if (60 : Int32) < p1 then some ((-1 : Int32), S) else (if p2 < (2 : Int32) then some ((-1 : Int32), S) else (if p2 ≤ (9 : Int32) then lp (f_X10_game_28b p1 p2 (fun v9 S10 => lp (f_X10_game_65b p2 v9.1 (fun v11 S12 => some ((0 : Int32), S12))) FU (1 : Int32) S10)) FU ((0 : Int32), (0 : Int32)) S else some ((-1 : Int32), S)))))
theorem c_X10_game {p1 : Int32} {p2 : Int32} {S : St} {r : Int32} {S' : St} (hf : f_X10_game p1 p2 S = some (r, S')) : zM yX10_game cX10_game 5 2 (some .int) [.ref 0, .int p1, .int p2] S (some (.int r)) S' := by
  refine zM_of (zpl (by decide)) (Nat.le_of_ble_eq_true rfl) rfl (fun K hK hA => ?_)
  unfold f_X10_game at hf
  refine j_iload_n hK dX10_game_0 1 rfl rfl ?_
  refine j_if_lt hK 21 dX10_game_1 (by decide) (fun hc => ?_) (fun hc => ?_)
  · replace hf := if_1 hc hf
    refine j_iconst hK (-1 : Int32) dX10_game_21 ic_m1 ?_
    exact j_iret hK dX10_game_22 rfl (rt_I hA hf)
  · replace hf := if_2 hc hf
    refine j_iload_n hK dX10_game_4 1 rfl rfl ?_
    refine j_bipush hK (60 : Int32) dX10_game_5 bi_60 ?_
    refine j_icmp_gt hK 21 dX10_game_7 (by decide) (fun hc => ?_) (fun hc => ?_)
    · replace hf := if_1 hc hf
      refine j_iconst hK (-1 : Int32) dX10_game_21 ic_m1 ?_
      exact j_iret hK dX10_game_22 rfl (rt_I hA hf)
    · replace hf := if_2 hc hf
      refine j_iload_n hK dX10_game_10 2 rfl rfl ?_
      refine j_iconst hK (2 : Int32) dX10_game_11 ic_2 ?_
      refine j_icmp_lt hK 21 dX10_game_12 (by decide) (fun hc => ?_) (fun hc => ?_)
      · replace hf := if_1 hc hf
        refine j_iconst hK (-1 : Int32) dX10_game_21 ic_m1 ?_
        exact j_iret hK dX10_game_22 rfl (rt_I hA hf)
      · replace hf := if_2 hc hf
        refine j_iload_n hK dX10_game_15 2 rfl rfl ?_
        refine j_bipush hK (9 : Int32) dX10_game_16 bi_9 ?_
        refine j_icmp_le hK 23 dX10_game_18 (by decide) (fun hc => ?_) (fun hc => ?_)
        · replace hf := if_1 hc hf
          refine j_iconst hK (0 : Int32) dX10_game_23 ic_0 ?_
          refine j_istore_n hK (L' := [(3, .int (0 : Int32)), (0, .ref 0), (1, .int p1), (2, .int p2)]) dX10_game_24 rfl (by decide) rfl ?_
          refine j_iconst hK (0 : Int32) dX10_game_25 ic_0 ?_
          refine j_istore hK (L' := [(4, .int (0 : Int32)), (3, .int (0 : Int32)), (0, .ref 0), (1, .int p1), (2, .int p2)]) dX10_game_26 (by decide) rfl ?_
          refine j_sub [2, 3, 4, 1, 0] rfl ?_
          refine t_X10_game_28 hK hA  (fun v9 S10 hf => ?_) _ _ _ hf
          refine j_iconst hK (1 : Int32) dX10_game_62 ic_1 ?_
          refine j_istore hK (L' := [(4, .int (1 : Int32)), (2, .int p2), (3, .int v9.1)]) dX10_game_63 (by decide) rfl ?_
          refine j_sub [1, 2, 0] rfl ?_
          refine t_X10_game_65 hK hA  (fun v11 S12 hf => ?_) _ _ _ hf
          refine j_iconst hK (0 : Int32) dX10_game_90 ic_0 ?_
          exact j_iret hK dX10_game_91 rfl (rt_I hA hf)
        · replace hf := if_2 hc hf
          refine j_iconst hK (-1 : Int32) dX10_game_21 ic_m1 ?_
          exact j_iret hK dX10_game_22 rfl (rt_I hA hf)
def f_X2_stepAt (p0 : Int32) (p1 : Int32) (p2 : Int32) (S : St) : Option (Int32 × St) := some (((((p0 * (2 : Int32)) + p1) * (8 : Int32)) + p2), S)
theorem c_X2_stepAt {p0 : Int32} {p1 : Int32} {p2 : Int32} {S : St} {r : Int32} {S' : St} (hf : f_X2_stepAt p0 p1 p2 S = some (r, S')) : zM yX2_stepAt cX2_stepAt 3 1 (some .int) [.int p0, .int p1, .int p2] S (some (.int r)) S' := by
  refine zM_of (zpl (by decide)) (Nat.le_of_ble_eq_true rfl) rfl (fun K hK hA => ?_)
  unfold f_X2_stepAt at hf
  refine j_iload_n hK dX2_stepAt_0 0 rfl rfl ?_
  refine j_iconst hK (2 : Int32) dX2_stepAt_1 ic_2 ?_
  refine j_imul hK dX2_stepAt_2 ?_
  refine j_iload_n hK dX2_stepAt_3 1 rfl rfl ?_
  refine j_iadd hK dX2_stepAt_4 ?_
  refine j_bipush hK (8 : Int32) dX2_stepAt_5 bi_8 ?_
  refine j_imul hK dX2_stepAt_7 ?_
  refine j_iload_n hK dX2_stepAt_8 2 rfl rfl ?_
  refine j_pc (pc' := 9) rfl ?_
  refine j_iadd hK dX2_stepAt_9 ?_
  exact j_iret hK dX2_stepAt_10 rfl (rt_I hA hf)
def f_X2_learnSteps_15b (ru : Nat) (x2 : Int32) (e : Int32 → St → Option (Unit × St)) (k : Int32 → St → Option (Unit × St)) (v : Int32) (S : St) : Option (Unit × St) := (if (8 : Int32) ≤ v then e v S else bd (f_X2_stepAt x2 (0 : Int32) v S) (fun r1 S2 => bd (f_X6_changed ru x2 (0 : Int32) (0 : Int32) v S2) (fun r4 S5 => if inb r1 192 then lt (sI S5 95 r1.toNatClampNeg r4) (fun S8 => bd (f_X2_stepAt x2 (1 : Int32) v S8) (fun r9 S10 => bd (f_X6_changed ru x2 (1 : Int32) (0 : Int32) v S10) (fun r12 S13 => if inb r9 192 then lt (sI S13 95 r9.toNatClampNeg r12) (fun S16 => k (v + (1 : Int32)) S16) else none))) else none)))
theorem t_X2_learnSteps_15 {K : CT} (hK : KO K cX2_learnSteps RX2 4 4 none) {r : Unit} {S' : St} (hA : zans K = (none, S')) {ru : Nat} (hru : isRule ru) {x2 : Int32} {e : Int32 → St → Option (Unit × St)} (he : ∀ (v : Int32) (S : St), e v S = some (r, S') → J K 79 [(0, .ref 92), (1, .ref ru), (2, .int x2)] [] S) : ∀ (n : Nat) (v : Int32) (S : St), lp (f_X2_learnSteps_15b ru x2 e) n v S = some (r, S') → J K 15 [(0, .ref 92), (1, .ref ru), (2, .int x2), (3, .int v)] [] S :=
  lp_J (P := fun (v : Int32) (S : St) => J K 15 [(0, .ref 92), (1, .ref ru), (2, .int x2), (3, .int v)] [] S) (fun k hk v S hf => by
    unfold f_X2_learnSteps_15b at hf
    refine j_iload_n hK dX2_learnSteps_15 3 rfl rfl ?_
    refine j_bipush hK (8 : Int32) dX2_learnSteps_16 bi_8 ?_
    refine j_icmp_ge hK 79 dX2_learnSteps_18 (by decide) (fun hc => ?_) (fun hc => ?_)
    · replace hf := if_1 hc hf
      refine j_sub [0, 1, 2] rfl ?_
      exact he _ _ hf
    · replace hf := if_2 hc hf
      refine j_aload_n hK dX2_learnSteps_21 0 rfl rfl ?_
      refine j_getR hK fl_X2_32 dX2_learnSteps_22 zo_92 zf_2_6 zr_92_6 ?_
      refine j_iload_n hK dX2_learnSteps_25 2 rfl rfl ?_
      refine j_iconst hK (0 : Int32) dX2_learnSteps_26 ic_0 ?_
      refine j_iload_n hK dX2_learnSteps_27 3 rfl rfl ?_
      obtain ⟨r1, S2, h3, hf⟩ := bd_J hf
      refine k_callSi hK (c_X2_stepAt h3) dX2_learnSteps_28 ml_X2_99 ms_X2_stepAt in_X2 mc_X2_stepAt hy_X2_stepAt ⟨by decide, by decide⟩ rfl (Nat.le_of_ble_eq_true rfl) ?_
      refine j_aload_n hK dX2_learnSteps_31 1 rfl rfl ?_
      refine j_pc (pc' := 32) rfl ?_
      refine j_aload_n hK dX2_learnSteps_32 0 rfl rfl ?_
      refine j_getR hK fl_X2_9 dX2_learnSteps_33 zo_92 zf_2_0 zr_92_0 ?_
      refine j_getR hK fl_X2_55 dX2_learnSteps_36 zo_3 zf_0_3 zr_3_3 ?_
      refine j_iload_n hK dX2_learnSteps_39 2 rfl rfl ?_
      refine j_iconst hK (0 : Int32) dX2_learnSteps_40 ic_0 ?_
      refine j_iconst hK (0 : Int32) dX2_learnSteps_41 ic_0 ?_
      refine j_iload_n hK dX2_learnSteps_42 3 rfl rfl ?_
      obtain ⟨r4, S5, h6, hf⟩ := bd_J hf
      refine k_callVi hK (c_X6_changed hru h6) dX2_learnSteps_43 zclX6 (ru_o hru) ml_X2_86 mi_X6_changed mx_X6_changed in_X6 mc_X6_changed hy_X6_changed ⟨by decide, by decide⟩ rfl (Nat.le_of_ble_eq_true rfl) ?_
      refine j_pc (pc' := 46) rfl ?_
      obtain ⟨hi7, hf⟩ := gd hf
      refine k_iast hK dX2_learnSteps_46 zb_95 hi7 rfl ?_
      refine lt_S hf (fun S8 hf => ?_)
      refine j_aload_n hK dX2_learnSteps_47 0 rfl rfl ?_
      refine j_getR hK fl_X2_32 dX2_learnSteps_48 zo_92 zf_2_6 zr_92_6 ?_
      refine j_iload_n hK dX2_learnSteps_51 2 rfl rfl ?_
      refine j_iconst hK (1 : Int32) dX2_learnSteps_52 ic_1 ?_
      refine j_iload_n hK dX2_learnSteps_53 3 rfl rfl ?_
      obtain ⟨r9, S10, h11, hf⟩ := bd_J hf
      refine k_callSi hK (c_X2_stepAt h11) dX2_learnSteps_54 ml_X2_99 ms_X2_stepAt in_X2 mc_X2_stepAt hy_X2_stepAt ⟨by decide, by decide⟩ rfl (Nat.le_of_ble_eq_true rfl) ?_
      refine j_aload_n hK dX2_learnSteps_57 1 rfl rfl ?_
      refine j_pc (pc' := 58) rfl ?_
      refine j_aload_n hK dX2_learnSteps_58 0 rfl rfl ?_
      refine j_getR hK fl_X2_9 dX2_learnSteps_59 zo_92 zf_2_0 zr_92_0 ?_
      refine j_getR hK fl_X2_55 dX2_learnSteps_62 zo_3 zf_0_3 zr_3_3 ?_
      refine j_iload_n hK dX2_learnSteps_65 2 rfl rfl ?_
      refine j_iconst hK (1 : Int32) dX2_learnSteps_66 ic_1 ?_
      refine j_iconst hK (0 : Int32) dX2_learnSteps_67 ic_0 ?_
      refine j_iload_n hK dX2_learnSteps_68 3 rfl rfl ?_
      obtain ⟨r12, S13, h14, hf⟩ := bd_J hf
      refine k_callVi hK (c_X6_changed hru h14) dX2_learnSteps_69 zclX6 (ru_o hru) ml_X2_86 mi_X6_changed mx_X6_changed in_X6 mc_X6_changed hy_X6_changed ⟨by decide, by decide⟩ rfl (Nat.le_of_ble_eq_true rfl) ?_
      refine j_pc (pc' := 72) rfl ?_
      obtain ⟨hi15, hf⟩ := gd hf
      refine k_iast hK dX2_learnSteps_72 zb_95 hi15 rfl ?_
      refine lt_S hf (fun S16 hf => ?_)
      refine j_iinc hK (L' := [(3, .int (v + (1 : Int32))), (0, .ref 92), (1, .ref ru), (2, .int x2)]) dX2_learnSteps_73 3 rfl (congrArg (fun y => v + y) ic_1) (by decide) rfl ?_
      refine j_goto hK 15 dX2_learnSteps_76 (by decide) ?_
      refine j_sub [1, 2, 3, 0] rfl ?_
      exact hk _ _ hf)
def f_X2_learnSteps_2b (ru : Nat) (e : Int32 → St → Option (Unit × St)) (k : Int32 → St → Option (Unit × St)) (v : Int32) (S : St) : Option (Unit × St) := (if (gI S 3 2) ≤ v then e v S else lp (f_X2_learnSteps_15b ru v (fun v17 S18 => k (v + (1 : Int32)) S18)) FU (0 : Int32) S)
theorem t_X2_learnSteps_2 {K : CT} (hK : KO K cX2_learnSteps RX2 4 4 none) {r : Unit} {S' : St} (hA : zans K = (none, S')) {ru : Nat} (hru : isRule ru) {e : Int32 → St → Option (Unit × St)} (he : ∀ (v : Int32) (S : St), e v S = some (r, S') → J K 85 [] [] S) : ∀ (n : Nat) (v : Int32) (S : St), lp (f_X2_learnSteps_2b ru e) n v S = some (r, S') → J K 2 [(0, .ref 92), (1, .ref ru), (2, .int v)] [] S :=
  lp_J (P := fun (v : Int32) (S : St) => J K 2 [(0, .ref 92), (1, .ref ru), (2, .int v)] [] S) (fun k hk v S hf => by
    unfold f_X2_learnSteps_2b at hf
    refine j_iload_n hK dX2_learnSteps_2 2 rfl rfl ?_
    refine j_aload_n hK dX2_learnSteps_3 0 rfl rfl ?_
    refine j_getR hK fl_X2_9 dX2_learnSteps_4 zo_92 zf_2_0 zr_92_0 ?_
    refine j_getI hK fl_X2_96 dX2_learnSteps_7 zo_3 zf_0_2 ?_
    refine j_icmp_ge hK 85 dX2_learnSteps_10 (by decide) (fun hc => ?_) (fun hc => ?_)
    · replace hf := if_1 hc hf
      refine j_sub [] rfl ?_
      exact he _ _ hf
    · replace hf := if_2 hc hf
      refine j_iconst hK (0 : Int32) dX2_learnSteps_13 ic_0 ?_
      refine j_istore_n hK (L' := [(3, .int (0 : Int32)), (0, .ref 92), (1, .ref ru), (2, .int v)]) dX2_learnSteps_14 rfl (by decide) rfl ?_
      refine j_sub [1, 2, 3, 0] rfl ?_
      refine t_X2_learnSteps_15 hK hA hru (fun v17 S18 hf => ?_) _ _ _ hf
      refine j_iinc hK (L' := [(2, .int (v + (1 : Int32))), (0, .ref 92), (1, .ref ru)]) dX2_learnSteps_79 2 rfl (congrArg (fun y => v + y) ic_1) (by decide) rfl ?_
      refine j_goto hK 2 dX2_learnSteps_82 (by decide) ?_
      refine j_sub [1, 2, 0] rfl ?_
      exact hk _ _ hf)
def f_X2_learnSteps (ru : Nat) (S : St) : Option (Unit × St) := lp (f_X2_learnSteps_2b ru (fun v19 S20 => some ((), S20))) FU (0 : Int32) S
theorem c_X2_learnSteps {ru : Nat} (hru : isRule ru) {S : St} {r : Unit} {S' : St} (hf : f_X2_learnSteps ru S = some (r, S')) : zM yX2_learnSteps cX2_learnSteps 4 4 none [.ref 92, .ref ru] S (none) S' := by
  refine zM_of (zpl (by decide)) (Nat.le_of_ble_eq_true rfl) rfl (fun K hK hA => ?_)
  unfold f_X2_learnSteps at hf
  refine j_iconst hK (0 : Int32) dX2_learnSteps_0 ic_0 ?_
  refine j_istore_n hK (L' := [(2, .int (0 : Int32)), (0, .ref 92), (1, .ref ru)]) dX2_learnSteps_1 rfl (by decide) rfl ?_
  refine j_sub [1, 2, 0] rfl ?_
  refine t_X2_learnSteps_2 hK hA hru (fun v19 S20 hf => ?_) _ _ _ hf
  exact j_vret hK dX2_learnSteps_85 rfl (rt_V hA hf)
def f_X2_keptByLearntSteps_65 (x2 : Int32) (s0 : Int32) (s1 : Int32) (k e : Int32 × Int32 → St → Option (Int32 × St)) (S : St) : Option (Int32 × St) := lt (s0 + s1) (fun y1 => k (y1, (x2 + (1 : Int32))) S)
theorem t_X2_keptByLearntSteps_65 {K : CT} (hK : KO K cX2_keptByLearntSteps RX2 5 2 (some .int)) {r : Int32} {S' : St} (hA : zans K = (some (.int r), S')) {x2 : Int32} {s0 : Int32} {s1 : Int32} {k e : Int32 × Int32 → St → Option (Int32 × St)} (hk : ∀ (v : Int32 × Int32) (S : St), k v S = some (r, S') → J K 4 [(0, .ref 92), (1, .int v.1), (2, .int v.2)] [] S) (he : ∀ (v : Int32 × Int32) (S : St), e v S = some (r, S') → J K 73 [(1, .int v.1)] [] S) {S : St} (hf : f_X2_keptByLearntSteps_65 x2 s0 s1 k e S = some (r, S')) : J K 65 [(0, .ref 92), (2, .int x2)] [.int s1, .int s0] S := by
  unfold f_X2_keptByLearntSteps_65 at hf
  refine j_iadd hK dX2_keptByLearntSteps_65 ?_
  refine lt_I hf (fun y1 hf => ?_)
  refine j_istore_n hK (L' := [(1, .int y1), (0, .ref 92), (2, .int x2)]) dX2_keptByLearntSteps_66 rfl (by decide) rfl ?_
  refine j_iinc hK (L' := [(2, .int (x2 + (1 : Int32))), (1, .int y1), (0, .ref 92)]) dX2_keptByLearntSteps_67 2 rfl (congrArg (fun y => x2 + y) ic_1) (by decide) rfl ?_
  refine j_goto hK 4 dX2_keptByLearntSteps_70 (by decide) ?_
  refine j_sub [2, 1, 0] rfl ?_
  exact hk _ _ hf
def f_X2_keptByLearntSteps_15b (x1 : Int32) (x2 : Int32) (e : Int32 × Int32 → St → Option (Int32 × St)) (k : Int32 × Int32 → St → Option (Int32 × St)) (v : Int32 × Int32) (S : St) : Option (Int32 × St) := (if (gI S 92 3) ≤ v.2 then e (v.1, v.2) S else if inb v.2 12 then if inb v.2 12 then bd (f_X2_stepAt (gI S 93 v.2.toNatClampNeg) (gI S 94 v.2.toNatClampNeg) v.1 S) (fun r4 S5 => if inb r4 192 then lt (gI S5 95 r4.toNatClampNeg) (fun y8 => k (y8, (v.2 + (1 : Int32))) S5) else none) else none else none)
theorem t_X2_keptByLearntSteps_15 {K : CT} (hK : KO K cX2_keptByLearntSteps RX2 5 2 (some .int)) {r : Int32} {S' : St} (hA : zans K = (some (.int r), S')) {x1 : Int32} {x2 : Int32} {e : Int32 × Int32 → St → Option (Int32 × St)} (he : ∀ (v : Int32 × Int32) (S : St), e v S = some (r, S') → J K 54 [(0, .ref 92), (1, .int x1), (2, .int x2), (3, .int v.1)] [] S) : ∀ (n : Nat) (v : Int32 × Int32) (S : St), lp (f_X2_keptByLearntSteps_15b x1 x2 e) n v S = some (r, S') → J K 15 [(0, .ref 92), (1, .int x1), (2, .int x2), (3, .int v.1), (4, .int v.2)] [] S :=
  lp_J (P := fun (v : Int32 × Int32) (S : St) => J K 15 [(0, .ref 92), (1, .int x1), (2, .int x2), (3, .int v.1), (4, .int v.2)] [] S) (fun k hk v S hf => by
    unfold f_X2_keptByLearntSteps_15b at hf
    refine j_iload hK dX2_keptByLearntSteps_15 4 rfl ?_
    refine j_aload_n hK dX2_keptByLearntSteps_17 0 rfl rfl ?_
    refine j_getI hK fl_X2_22 dX2_keptByLearntSteps_18 zo_92 zf_2_3 ?_
    refine j_icmp_ge hK 54 dX2_keptByLearntSteps_21 (by decide) (fun hc => ?_) (fun hc => ?_)
    · replace hf := if_1 hc hf
      refine j_sub [0, 1, 2, 3] rfl ?_
      exact he _ _ hf
    · replace hf := if_2 hc hf
      refine j_aload_n hK dX2_keptByLearntSteps_24 0 rfl rfl ?_
      refine j_getR hK fl_X2_32 dX2_keptByLearntSteps_25 zo_92 zf_2_6 zr_92_6 ?_
      refine j_aload_n hK dX2_keptByLearntSteps_28 0 rfl rfl ?_
      refine j_getR hK fl_X2_15 dX2_keptByLearntSteps_29 zo_92 zf_2_1 zr_92_1 ?_
      refine j_iload hK dX2_keptByLearntSteps_32 4 rfl ?_
      obtain ⟨hi2, hf⟩ := gd hf
      refine k_iald hK dX2_keptByLearntSteps_34 zb_93 hi2 rfl ?_
      refine j_aload_n hK dX2_keptByLearntSteps_35 0 rfl rfl ?_
      refine j_pc (pc' := 36) rfl ?_
      refine j_getR hK fl_X2_19 dX2_keptByLearntSteps_36 zo_92 zf_2_2 zr_92_2 ?_
      refine j_iload hK dX2_keptByLearntSteps_39 4 rfl ?_
      obtain ⟨hi3, hf⟩ := gd hf
      refine k_iald hK dX2_keptByLearntSteps_41 zb_94 hi3 rfl ?_
      refine j_iload_n hK dX2_keptByLearntSteps_42 3 rfl rfl ?_
      obtain ⟨r4, S5, h6, hf⟩ := bd_J hf
      refine k_callSi hK (c_X2_stepAt h6) dX2_keptByLearntSteps_43 ml_X2_99 ms_X2_stepAt in_X2 mc_X2_stepAt hy_X2_stepAt ⟨by decide, by decide⟩ rfl (Nat.le_of_ble_eq_true rfl) ?_
      obtain ⟨hi7, hf⟩ := gd hf
      refine k_iald hK dX2_keptByLearntSteps_46 zb_95 hi7 rfl ?_
      refine lt_I hf (fun y8 hf => ?_)
      refine j_istore_n hK (L' := [(3, .int y8), (0, .ref 92), (1, .int x1), (2, .int x2), (4, .int v.2)]) dX2_keptByLearntSteps_47 rfl (by decide) rfl ?_
      refine j_iinc hK (L' := [(4, .int (v.2 + (1 : Int32))), (3, .int y8), (0, .ref 92), (1, .int x1), (2, .int x2)]) dX2_keptByLearntSteps_48 4 rfl (congrArg (fun y => v.2 + y) ic_1) (by decide) rfl ?_
      refine j_pc (pc' := 51) rfl ?_
      refine j_goto hK 15 dX2_keptByLearntSteps_51 (by decide) ?_
      refine j_sub [2, 3, 4, 1, 0] rfl ?_
      exact hk _ _ hf)
def f_X2_keptByLearntSteps_4b (e : Int32 × Int32 → St → Option (Int32 × St)) (k : Int32 × Int32 → St → Option (Int32 × St)) (v : Int32 × Int32) (S : St) : Option (Int32 × St) := (if (8 : Int32) ≤ v.2 then e (v.1, v.2) S else lp (f_X2_keptByLearntSteps_15b v.1 v.2 (fun v9 S10 => (if v9.1 = v.2 then f_X2_keptByLearntSteps_65 v.2 v.1 (1 : Int32) k e S10 else f_X2_keptByLearntSteps_65 v.2 v.1 (0 : Int32) k e S10))) FU (v.2, (0 : Int32)) S)
theorem t_X2_keptByLearntSteps_4 {K : CT} (hK : KO K cX2_keptByLearntSteps RX2 5 2 (some .int)) {r : Int32} {S' : St} (hA : zans K = (some (.int r), S')) {e : Int32 × Int32 → St → Option (Int32 × St)} (he : ∀ (v : Int32 × Int32) (S : St), e v S = some (r, S') → J K 73 [(1, .int v.1)] [] S) : ∀ (n : Nat) (v : Int32 × Int32) (S : St), lp (f_X2_keptByLearntSteps_4b  e) n v S = some (r, S') → J K 4 [(0, .ref 92), (1, .int v.1), (2, .int v.2)] [] S :=
  lp_J (P := fun (v : Int32 × Int32) (S : St) => J K 4 [(0, .ref 92), (1, .int v.1), (2, .int v.2)] [] S) (fun k hk v S hf => by
    unfold f_X2_keptByLearntSteps_4b at hf
    refine j_iload_n hK dX2_keptByLearntSteps_4 2 rfl rfl ?_
    refine j_bipush hK (8 : Int32) dX2_keptByLearntSteps_5 bi_8 ?_
    refine j_icmp_ge hK 73 dX2_keptByLearntSteps_7 (by decide) (fun hc => ?_) (fun hc => ?_)
    · replace hf := if_1 hc hf
      refine j_sub [1] rfl ?_
      exact he _ _ hf
    · replace hf := if_2 hc hf
      refine j_iload_n hK dX2_keptByLearntSteps_10 2 rfl rfl ?_
      refine j_istore_n hK (L' := [(3, .int v.2), (0, .ref 92), (1, .int v.1), (2, .int v.2)]) dX2_keptByLearntSteps_11 rfl (by decide) rfl ?_
      refine j_iconst hK (0 : Int32) dX2_keptByLearntSteps_12 ic_0 ?_
      refine j_istore hK (L' := [(4, .int (0 : Int32)), (3, .int v.2), (0, .ref 92), (1, .int v.1), (2, .int v.2)]) dX2_keptByLearntSteps_13 (by decide) rfl ?_
      refine j_sub [2, 3, 4, 1, 0] rfl ?_
      refine t_X2_keptByLearntSteps_15 hK hA  (fun v9 S10 hf => ?_) _ _ _ hf
      refine j_iload_n hK dX2_keptByLearntSteps_54 1 rfl rfl ?_
      refine j_iload_n hK dX2_keptByLearntSteps_55 3 rfl rfl ?_
      refine j_iload_n hK dX2_keptByLearntSteps_56 2 rfl rfl ?_
      refine j_icmp_ne hK 64 dX2_keptByLearntSteps_57 (by decide) (fun hc => ?_) (fun hc => ?_)
      · replace hf := if_2 hc hf
        refine j_iconst hK (0 : Int32) dX2_keptByLearntSteps_64 ic_0 ?_
        refine j_sub [0, 2] rfl ?_
        exact t_X2_keptByLearntSteps_65 hK hA hk he hf
      · replace hf := if_1 hc hf
        refine j_iconst hK (1 : Int32) dX2_keptByLearntSteps_60 ic_1 ?_
        refine j_goto hK 65 dX2_keptByLearntSteps_61 (by decide) ?_
        refine j_sub [0, 2] rfl ?_
        exact t_X2_keptByLearntSteps_65 hK hA hk he hf)
def f_X2_keptByLearntSteps (S : St) : Option (Int32 × St) := lp (f_X2_keptByLearntSteps_4b  (fun v11 S12 => some (v11.1, S12))) FU ((0 : Int32), (0 : Int32)) S
theorem c_X2_keptByLearntSteps {S : St} {r : Int32} {S' : St} (hf : f_X2_keptByLearntSteps S = some (r, S')) : zM yX2_keptByLearntSteps cX2_keptByLearntSteps 5 2 (some .int) [.ref 92] S (some (.int r)) S' := by
  refine zM_of (zpl (by decide)) (Nat.le_of_ble_eq_true rfl) rfl (fun K hK hA => ?_)
  unfold f_X2_keptByLearntSteps at hf
  refine j_iconst hK (0 : Int32) dX2_keptByLearntSteps_0 ic_0 ?_
  refine j_istore_n hK (L' := [(1, .int (0 : Int32)), (0, .ref 92)]) dX2_keptByLearntSteps_1 rfl (by decide) rfl ?_
  refine j_iconst hK (0 : Int32) dX2_keptByLearntSteps_2 ic_0 ?_
  refine j_istore_n hK (L' := [(2, .int (0 : Int32)), (1, .int (0 : Int32)), (0, .ref 92)]) dX2_keptByLearntSteps_3 rfl (by decide) rfl ?_
  refine j_sub [2, 1, 0] rfl ?_
  refine t_X2_keptByLearntSteps_4 hK hA  (fun v11 S12 hf => ?_) _ _ _ hf
  refine j_iload_n hK dX2_keptByLearntSteps_73 0 rfl rfl ?_
  exact j_iret hK dX2_keptByLearntSteps_74 rfl (rt_I hA hf)
def f_X10_keptBy_56 (ru : Nat) (x2 : Int32) (x3 : Int32) (x4 : Int32) (k e : Int32 × Int32 → St → Option (Int32 × St)) (S : St) : Option (Int32 × St) := k (x2, (x4 + (1 : Int32))) S
theorem t_X10_keptBy_56 {K : CT} (hK : KO K cX10_keptBy RX10 5 5 (some .int)) {r : Int32} {S' : St} (hA : zans K = (some (.int r), S')) {ru : Nat} (hru : isRule ru) {x2 : Int32} {x3 : Int32} {x4 : Int32} {k e : Int32 × Int32 → St → Option (Int32 × St)} (hk : ∀ (v : Int32 × Int32) (S : St), k v S = some (r, S') → J K 21 [(0, .ref 0), (2, .int v.1), (3, .int x3), (4, .int v.2)] [] S) (he : ∀ (v : Int32 × Int32) (S : St), e v S = some (r, S') → J K 62 [(0, .ref 0), (2, .int v.1), (3, .int x3)] [] S) {S : St} (hf : f_X10_keptBy_56 ru x2 x3 x4 k e S = some (r, S')) : J K 56 [(0, .ref 0), (2, .int x2), (3, .int x3), (4, .int x4)] [] S := by
  unfold f_X10_keptBy_56 at hf
  refine j_iinc hK (L' := [(4, .int (x4 + (1 : Int32))), (0, .ref 0), (2, .int x2), (3, .int x3)]) dX10_keptBy_56 3 rfl (congrArg (fun y => x4 + y) ic_1) (by decide) rfl ?_
  refine j_goto hK 21 dX10_keptBy_59 (by decide) ?_
  refine j_sub [1, 2, 3, 0] rfl ?_
  exact hk _ _ hf
def f_X10_keptBy_21b (ru : Nat) (x3 : Int32) (e : Int32 × Int32 → St → Option (Int32 × St)) (k : Int32 × Int32 → St → Option (Int32 × St)) (v : Int32 × Int32) (S : St) : Option (Int32 × St) := (if (gI S 3 2) ≤ v.2 then e (v.1, v.2) S else bd (f_X2_goes x3 v.2 S) (fun r1 S2 => (if r1 = 0 then f_X10_keptBy_56 ru v.1 x3 v.2 k e S2 else bd (f_X2_keptByLearntSteps S2) (fun r4 S5 => lt (v.1 + r4) (fun y7 => f_X10_keptBy_56 ru y7 x3 v.2 k e S5)))))
theorem t_X10_keptBy_21 {K : CT} (hK : KO K cX10_keptBy RX10 5 5 (some .int)) {r : Int32} {S' : St} (hA : zans K = (some (.int r), S')) {ru : Nat} (hru : isRule ru) {x3 : Int32} {e : Int32 × Int32 → St → Option (Int32 × St)} (he : ∀ (v : Int32 × Int32) (S : St), e v S = some (r, S') → J K 62 [(0, .ref 0), (2, .int v.1), (3, .int x3)] [] S) : ∀ (n : Nat) (v : Int32 × Int32) (S : St), lp (f_X10_keptBy_21b ru x3 e) n v S = some (r, S') → J K 21 [(0, .ref 0), (2, .int v.1), (3, .int x3), (4, .int v.2)] [] S :=
  lp_J (P := fun (v : Int32 × Int32) (S : St) => J K 21 [(0, .ref 0), (2, .int v.1), (3, .int x3), (4, .int v.2)] [] S) (fun k hk v S hf => by
    unfold f_X10_keptBy_21b at hf
    refine j_iload hK dX10_keptBy_21 3 rfl ?_
    refine j_aload_n hK dX10_keptBy_23 0 rfl rfl ?_
    refine j_getR hK fl_X10_19 dX10_keptBy_24 zo_0 zf_10_1 zr_0_1 ?_
    refine j_getI hK fl_X10_95 dX10_keptBy_27 zo_3 zf_0_2 ?_
    refine j_icmp_ge hK 62 dX10_keptBy_30 (by decide) (fun hc => ?_) (fun hc => ?_)
    · replace hf := if_1 hc hf
      refine j_sub [0, 1, 2] rfl ?_
      exact he _ _ hf
    · replace hf := if_2 hc hf
      refine j_aload_n hK dX10_keptBy_33 0 rfl rfl ?_
      refine j_getR hK fl_X10_42 dX10_keptBy_34 zo_0 zf_10_4 zr_0_4 ?_
      refine j_iload_n hK dX10_keptBy_37 2 rfl rfl ?_
      refine j_iload hK dX10_keptBy_38 3 rfl ?_
      obtain ⟨r1, S2, h3, hf⟩ := bd_J hf
      refine k_callVi hK (c_X2_goes h3) dX10_keptBy_40 zclX2 zo_92 ml_X10_236 mi_X2_goes mx_X2_goes in_X2 mc_X2_goes hy_X2_goes ⟨by decide, by decide⟩ rfl (Nat.le_of_ble_eq_true rfl) ?_
      refine j_if_eq hK 56 dX10_keptBy_43 (by decide) (fun hc => ?_) (fun hc => ?_)
      · replace hf := if_1 hc hf
        exact t_X10_keptBy_56 hK hA hru hk he hf
      · replace hf := if_2 hc hf
        refine j_iload_n hK dX10_keptBy_46 1 rfl rfl ?_
        refine j_aload_n hK dX10_keptBy_47 0 rfl rfl ?_
        refine j_getR hK fl_X10_42 dX10_keptBy_48 zo_0 zf_10_4 zr_0_4 ?_
        obtain ⟨r4, S5, h6, hf⟩ := bd_J hf
        refine k_callVi hK (c_X2_keptByLearntSteps h6) dX10_keptBy_51 zclX2 zo_92 ml_X10_403 mi_X2_keptByLearntSteps mx_X2_keptByLearntSteps in_X2 mc_X2_keptByLearntSteps hy_X2_keptByLearntSteps ⟨by decide, by decide⟩ rfl (Nat.le_of_ble_eq_true rfl) ?_
        refine j_iadd hK dX10_keptBy_54 ?_
        refine lt_I hf (fun y7 hf => ?_)
        refine j_istore_n hK (L' := [(2, .int y7), (0, .ref 0), (3, .int x3), (4, .int v.2)]) dX10_keptBy_55 rfl (by decide) rfl ?_
        refine j_sub [1, 0, 2, 3] rfl ?_
        exact t_X10_keptBy_56 hK hA hru hk he hf)
def f_X10_keptBy_12b (ru : Nat) (e : Int32 × Int32 → St → Option (Int32 × St)) (k : Int32 × Int32 → St → Option (Int32 × St)) (v : Int32 × Int32) (S : St) : Option (Int32 × St) := (if (8 : Int32) ≤ v.2 then e (v.1, v.2) S else lp (f_X10_keptBy_21b ru v.2 (fun v8 S9 => k (v8.1, (v.2 + (1 : Int32))) S9)) FU (v.1, (0 : Int32)) S)
theorem t_X10_keptBy_12 {K : CT} (hK : KO K cX10_keptBy RX10 5 5 (some .int)) {r : Int32} {S' : St} (hA : zans K = (some (.int r), S')) {ru : Nat} (hru : isRule ru) {e : Int32 × Int32 → St → Option (Int32 × St)} (he : ∀ (v : Int32 × Int32) (S : St), e v S = some (r, S') → J K 68 [(2, .int v.1)] [] S) : ∀ (n : Nat) (v : Int32 × Int32) (S : St), lp (f_X10_keptBy_12b ru e) n v S = some (r, S') → J K 12 [(0, .ref 0), (2, .int v.1), (3, .int v.2)] [] S :=
  lp_J (P := fun (v : Int32 × Int32) (S : St) => J K 12 [(0, .ref 0), (2, .int v.1), (3, .int v.2)] [] S) (fun k hk v S hf => by
    unfold f_X10_keptBy_12b at hf
    refine j_iload_n hK dX10_keptBy_12 2 rfl rfl ?_
    refine j_bipush hK (8 : Int32) dX10_keptBy_13 bi_8 ?_
    refine j_icmp_ge hK 68 dX10_keptBy_15 (by decide) (fun hc => ?_) (fun hc => ?_)
    · replace hf := if_1 hc hf
      refine j_sub [1] rfl ?_
      exact he _ _ hf
    · replace hf := if_2 hc hf
      refine j_iconst hK (0 : Int32) dX10_keptBy_18 ic_0 ?_
      refine j_istore hK (L' := [(4, .int (0 : Int32)), (0, .ref 0), (2, .int v.1), (3, .int v.2)]) dX10_keptBy_19 (by decide) rfl ?_
      refine j_sub [1, 2, 3, 0] rfl ?_
      refine t_X10_keptBy_21 hK hA hru (fun v8 S9 hf => ?_) _ _ _ hf
      refine j_iinc hK (L' := [(3, .int (v.2 + (1 : Int32))), (0, .ref 0), (2, .int v8.1)]) dX10_keptBy_62 2 rfl (congrArg (fun y => v.2 + y) ic_1) (by decide) rfl ?_
      refine j_goto hK 12 dX10_keptBy_65 (by decide) ?_
      refine j_sub [1, 2, 0] rfl ?_
      exact hk _ _ hf)
def f_X10_keptBy (ru : Nat) (S : St) : Option (Int32 × St) := bd (f_X2_learnSteps ru S) (fun r10 S11 => lp (f_X10_keptBy_12b ru (fun v13 S14 => some (v13.1, S14))) FU ((0 : Int32), (0 : Int32)) S11)
theorem c_X10_keptBy {ru : Nat} (hru : isRule ru) {S : St} {r : Int32} {S' : St} (hf : f_X10_keptBy ru S = some (r, S')) : zM yX10_keptBy cX10_keptBy 5 5 (some .int) [.ref 0, .ref ru] S (some (.int r)) S' := by
  refine zM_of (zpl (by decide)) (Nat.le_of_ble_eq_true rfl) rfl (fun K hK hA => ?_)
  unfold f_X10_keptBy at hf
  refine j_aload_n hK dX10_keptBy_0 0 rfl rfl ?_
  refine j_getR hK fl_X10_42 dX10_keptBy_1 zo_0 zf_10_4 zr_0_4 ?_
  refine j_aload_n hK dX10_keptBy_4 1 rfl rfl ?_
  obtain ⟨r10, S11, h12, hf⟩ := bd_J hf
  refine k_callVv hK (c_X2_learnSteps hru h12) dX10_keptBy_5 zclX2 zo_92 ml_X10_399 mi_X2_learnSteps mx_X2_learnSteps in_X2 mc_X2_learnSteps hy_X2_learnSteps ⟨by decide, by decide⟩ rfl (Nat.le_of_ble_eq_true rfl) ?_
  refine j_iconst hK (0 : Int32) dX10_keptBy_8 ic_0 ?_
  refine j_istore_n hK (L' := [(2, .int (0 : Int32)), (0, .ref 0), (1, .ref ru)]) dX10_keptBy_9 rfl (by decide) rfl ?_
  refine j_iconst hK (0 : Int32) dX10_keptBy_10 ic_0 ?_
  refine j_istore_n hK (L' := [(3, .int (0 : Int32)), (2, .int (0 : Int32)), (0, .ref 0), (1, .ref ru)]) dX10_keptBy_11 rfl (by decide) rfl ?_
  refine j_sub [2, 1, 0] rfl ?_
  refine t_X10_keptBy_12 hK hA hru (fun v13 S14 hf => ?_) _ _ _ hf
  refine j_iload_n hK dX10_keptBy_68 0 rfl rfl ?_
  exact j_iret hK dX10_keptBy_69 rfl (rt_I hA hf)
def f_X10_gainOf (p0 : Int32) (p1 : Int32) (p2 : Int32) (S : St) : Option (Int32 × St) := (if p0 ≤ p1 then lt (p0 + (p2 / (4 : Int32))) (fun y1 => (if p0 = p1 then some ((y1 / (2 : Int32)), S) else some (y1, S))) else some ((-1 : Int32), S))
theorem c_X10_gainOf {p0 : Int32} {p1 : Int32} {p2 : Int32} {S : St} {r : Int32} {S' : St} (hf : f_X10_gainOf p0 p1 p2 S = some (r, S')) : zM yX10_gainOf cX10_gainOf 4 1 (some .int) [.int p0, .int p1, .int p2] S (some (.int r)) S' := by
  refine zM_of (zpl (by decide)) (Nat.le_of_ble_eq_true rfl) rfl (fun K hK hA => ?_)
  unfold f_X10_gainOf at hf
  refine j_iload_n hK dX10_gainOf_0 0 rfl rfl ?_
  refine j_iload_n hK dX10_gainOf_1 1 rfl rfl ?_
  refine j_icmp_le hK 7 dX10_gainOf_2 (by decide) (fun hc => ?_) (fun hc => ?_)
  · replace hf := if_1 hc hf
    refine j_iload_n hK dX10_gainOf_7 0 rfl rfl ?_
    refine j_iload_n hK dX10_gainOf_8 2 rfl rfl ?_
    refine j_iconst hK (4 : Int32) dX10_gainOf_9 ic_4 ?_
    refine j_idiv hK dX10_gainOf_10 (by decide) ?_
    refine j_iadd hK dX10_gainOf_11 ?_
    refine lt_I hf (fun y1 hf => ?_)
    refine j_istore_n hK (L' := [(3, .int y1), (0, .int p0), (1, .int p1), (2, .int p2)]) dX10_gainOf_12 rfl (by decide) rfl ?_
    refine j_iload_n hK dX10_gainOf_13 1 rfl rfl ?_
    refine j_pc (pc' := 14) rfl ?_
    refine j_iload_n hK dX10_gainOf_14 2 rfl rfl ?_
    refine j_icmp_ne hK 24 dX10_gainOf_15 (by decide) (fun hc => ?_) (fun hc => ?_)
    · replace hf := if_2 hc hf
      refine j_iload_n hK dX10_gainOf_24 0 rfl rfl ?_
      exact j_iret hK dX10_gainOf_25 rfl (rt_I hA hf)
    · replace hf := if_1 hc hf
      refine j_iload_n hK dX10_gainOf_18 0 rfl rfl ?_
      refine j_iconst hK (2 : Int32) dX10_gainOf_19 ic_2 ?_
      refine j_idiv hK dX10_gainOf_20 (by decide) ?_
      refine j_goto hK 25 dX10_gainOf_21 (by decide) ?_
      exact j_iret hK dX10_gainOf_25 rfl (rt_I hA hf)
  · replace hf := if_2 hc hf
    refine j_iconst hK (-1 : Int32) dX10_gainOf_5 ic_m1 ?_
    exact j_iret hK dX10_gainOf_6 rfl (rt_I hA hf)
def f_X10_isBestAnswer_10b (x1 : Int32) (x2 : Int32) (x3 : Int32) (e : Int32 → St → Option (Int32 × St)) (k : Int32 → St → Option (Int32 × St)) (v : Int32) (S : St) : Option (Int32 × St) := (if (10 : Int32) ≤ v then e v S else bd (f_X10_gainOf v x1 x2 S) (fun r1 S2 => (if r1 ≤ x3 then k (v + (1 : Int32)) S2 else some ((0 : Int32), S2))))
theorem t_X10_isBestAnswer_10 {K : CT} (hK : KO K cX10_isBestAnswer RX10 5 2 (some .boolean)) {r : Int32} {S' : St} (hA : zans K = (some (.int r), S')) {x1 : Int32} {x2 : Int32} {x3 : Int32} {e : Int32 → St → Option (Int32 × St)} (he : ∀ (v : Int32) (S : St), e v S = some (r, S') → J K 36 [] [] S) : ∀ (n : Nat) (v : Int32) (S : St), lp (f_X10_isBestAnswer_10b x1 x2 x3 e) n v S = some (r, S') → J K 10 [(1, .int x1), (2, .int x2), (3, .int x3), (4, .int v)] [] S :=
  lp_J (P := fun (v : Int32) (S : St) => J K 10 [(1, .int x1), (2, .int x2), (3, .int x3), (4, .int v)] [] S) (fun k hk v S hf => by
    unfold f_X10_isBestAnswer_10b at hf
    refine j_iload hK dX10_isBestAnswer_10 3 rfl ?_
    refine j_bipush hK (10 : Int32) dX10_isBestAnswer_12 bi_10 ?_
    refine j_icmp_ge hK 36 dX10_isBestAnswer_14 (by decide) (fun hc => ?_) (fun hc => ?_)
    · replace hf := if_1 hc hf
      refine j_sub [] rfl ?_
      exact he _ _ hf
    · replace hf := if_2 hc hf
      refine j_iload hK dX10_isBestAnswer_17 3 rfl ?_
      refine j_iload_n hK dX10_isBestAnswer_19 0 rfl rfl ?_
      refine j_iload_n hK dX10_isBestAnswer_20 1 rfl rfl ?_
      obtain ⟨r1, S2, h3, hf⟩ := bd_J hf
      refine k_callSi hK (c_X10_gainOf h3) dX10_isBestAnswer_21 ml_X10_406 ms_X10_gainOf in_X10 mc_X10_gainOf hy_X10_gainOf ⟨by decide, by decide⟩ rfl (Nat.le_of_ble_eq_true rfl) ?_
      refine j_iload_n hK dX10_isBestAnswer_24 2 rfl rfl ?_
      refine j_icmp_le hK 30 dX10_isBestAnswer_25 (by decide) (fun hc => ?_) (fun hc => ?_)
      · replace hf := if_1 hc hf
        refine j_iinc hK (L' := [(4, .int (v + (1 : Int32))), (1, .int x1), (2, .int x2), (3, .int x3)]) dX10_isBestAnswer_30 3 rfl (congrArg (fun y => v + y) ic_1) (by decide) rfl ?_
        refine j_goto hK 10 dX10_isBestAnswer_33 (by decide) ?_
        refine j_sub [1, 2, 3, 0] rfl ?_
        exact hk _ _ hf
      · replace hf := if_2 hc hf
        refine j_iconst hK (0 : Int32) dX10_isBestAnswer_28 ic_0 ?_
        exact j_zret hK dX10_isBestAnswer_29 rfl rfl (rt_I hA hf))
def f_X10_isBestAnswer (p0 : Int32) (p1 : Int32) (p2 : Int32) (S : St) : Option (Int32 × St) := bd (f_X10_gainOf p0 p1 p2 S) (fun r4 S5 => lp (f_X10_isBestAnswer_10b p1 p2 r4 (fun v7 S8 => some ((1 : Int32), S8))) FU (0 : Int32) S5)
theorem c_X10_isBestAnswer {p0 : Int32} {p1 : Int32} {p2 : Int32} {S : St} {r : Int32} {S' : St} (hf : f_X10_isBestAnswer p0 p1 p2 S = some (r, S')) : zM yX10_isBestAnswer cX10_isBestAnswer 5 2 (some .boolean) [.int p0, .int p1, .int p2] S (some (.int r)) S' := by
  refine zM_of (zpl (by decide)) (Nat.le_of_ble_eq_true rfl) rfl (fun K hK hA => ?_)
  unfold f_X10_isBestAnswer at hf
  refine j_iload_n hK dX10_isBestAnswer_0 0 rfl rfl ?_
  refine j_iload_n hK dX10_isBestAnswer_1 1 rfl rfl ?_
  refine j_iload_n hK dX10_isBestAnswer_2 2 rfl rfl ?_
  obtain ⟨r4, S5, h6, hf⟩ := bd_J hf
  refine k_callSi hK (c_X10_gainOf h6) dX10_isBestAnswer_3 ml_X10_406 ms_X10_gainOf in_X10 mc_X10_gainOf hy_X10_gainOf ⟨by decide, by decide⟩ rfl (Nat.le_of_ble_eq_true rfl) ?_
  refine j_istore_n hK (L' := [(3, .int r4), (0, .int p0), (1, .int p1), (2, .int p2)]) dX10_isBestAnswer_6 rfl (by decide) rfl ?_
  refine j_iconst hK (0 : Int32) dX10_isBestAnswer_7 ic_0 ?_
  refine j_istore hK (L' := [(4, .int (0 : Int32)), (3, .int r4), (0, .int p0), (1, .int p1), (2, .int p2)]) dX10_isBestAnswer_8 (by decide) rfl ?_
  refine j_sub [3, 4, 1, 0] rfl ?_
  refine t_X10_isBestAnswer_10 hK hA  (fun v7 S8 hf => ?_) _ _ _ hf
  refine j_iconst hK (1 : Int32) dX10_isBestAnswer_36 ic_1 ?_
  exact j_zret hK dX10_isBestAnswer_37 rfl rfl (rt_I hA hf)
def f_X10_rests_69 (x1 : Int32) (x2 : Int32) (x3 : Int32) (x4 : Int32) (k e : Int32 × Int32 → St → Option (Int32 × St)) (S : St) : Option (Int32 × St) := k (x2, (x4 + (1 : Int32))) S
theorem t_X10_rests_69 {K : CT} (hK : KO K cX10_rests RX10 5 3 (some .int)) {r : Int32} {S' : St} (hA : zans K = (some (.int r), S')) {x1 : Int32} {x2 : Int32} {x3 : Int32} {x4 : Int32} {k e : Int32 × Int32 → St → Option (Int32 × St)} (hk : ∀ (v : Int32 × Int32) (S : St), k v S = some (r, S') → J K 32 [(0, .ref 0), (1, .int x1), (2, .int v.1), (3, .int x3), (4, .int v.2)] [] S) (he : ∀ (v : Int32 × Int32) (S : St), e v S = some (r, S') → J K 75 [(0, .ref 0), (1, .int x1), (2, .int v.1), (3, .int x3)] [] S) {S : St} (hf : f_X10_rests_69 x1 x2 x3 x4 k e S = some (r, S')) : J K 69 [(0, .ref 0), (1, .int x1), (2, .int x2), (3, .int x3), (4, .int x4)] [] S := by
  unfold f_X10_rests_69 at hf
  refine j_iinc hK (L' := [(4, .int (x4 + (1 : Int32))), (0, .ref 0), (1, .int x1), (2, .int x2), (3, .int x3)]) dX10_rests_69 4 rfl (congrArg (fun y => x4 + y) ic_1) (by decide) rfl ?_
  refine j_goto hK 32 dX10_rests_72 (by decide) ?_
  refine j_sub [1, 2, 3, 4, 0] rfl ?_
  exact hk _ _ hf
def f_X10_rests_32b (x1 : Int32) (x3 : Int32) (e : Int32 × Int32 → St → Option (Int32 × St)) (k : Int32 × Int32 → St → Option (Int32 × St)) (v : Int32 × Int32) (S : St) : Option (Int32 × St) := (if (10 : Int32) ≤ v.2 then e (v.1, v.2) S else bd (f_X10_isBestAnswer x3 v.2 x1 S) (fun r1 S2 => (if r1 = 0 then f_X10_rests_69 x1 v.1 x3 v.2 k e S2 else bd (f_X10_isBestAnswer v.2 x3 x1 S2) (fun r4 S5 => (if r4 = 0 then f_X10_rests_69 x1 v.1 x3 v.2 k e S5 else bd (f_X10_putIfFirst x3 v.2 S5) (fun r7 S8 => f_X10_rests_69 x1 (v.1 + (1 : Int32)) x3 v.2 k e S8))))))
theorem t_X10_rests_32 {K : CT} (hK : KO K cX10_rests RX10 5 3 (some .int)) {r : Int32} {S' : St} (hA : zans K = (some (.int r), S')) {x1 : Int32} {x3 : Int32} {e : Int32 × Int32 → St → Option (Int32 × St)} (he : ∀ (v : Int32 × Int32) (S : St), e v S = some (r, S') → J K 75 [(0, .ref 0), (1, .int x1), (2, .int v.1), (3, .int x3)] [] S) : ∀ (n : Nat) (v : Int32 × Int32) (S : St), lp (f_X10_rests_32b x1 x3 e) n v S = some (r, S') → J K 32 [(0, .ref 0), (1, .int x1), (2, .int v.1), (3, .int x3), (4, .int v.2)] [] S :=
  lp_J (P := fun (v : Int32 × Int32) (S : St) => J K 32 [(0, .ref 0), (1, .int x1), (2, .int v.1), (3, .int x3), (4, .int v.2)] [] S) (fun k hk v S hf => by
    unfold f_X10_rests_32b at hf
    refine j_iload hK dX10_rests_32 4 rfl ?_
    refine j_bipush hK (10 : Int32) dX10_rests_34 bi_10 ?_
    refine j_icmp_ge hK 75 dX10_rests_36 (by decide) (fun hc => ?_) (fun hc => ?_)
    · replace hf := if_1 hc hf
      refine j_sub [0, 1, 2, 3] rfl ?_
      exact he _ _ hf
    · replace hf := if_2 hc hf
      refine j_iload_n hK dX10_rests_39 3 rfl rfl ?_
      refine j_iload hK dX10_rests_40 4 rfl ?_
      refine j_iload_n hK dX10_rests_42 1 rfl rfl ?_
      obtain ⟨r1, S2, h3, hf⟩ := bd_J hf
      refine k_callSi hK (c_X10_isBestAnswer h3) dX10_rests_43 ml_X10_390 ms_X10_isBestAnswer in_X10 mc_X10_isBestAnswer hy_X10_isBestAnswer ⟨by decide, by decide⟩ rfl (Nat.le_of_ble_eq_true rfl) ?_
      refine j_if_eq hK 69 dX10_rests_46 (by decide) (fun hc => ?_) (fun hc => ?_)
      · replace hf := if_1 hc hf
        exact t_X10_rests_69 hK hA hk he hf
      · replace hf := if_2 hc hf
        refine j_iload hK dX10_rests_49 4 rfl ?_
        refine j_iload_n hK dX10_rests_51 3 rfl rfl ?_
        refine j_iload_n hK dX10_rests_52 1 rfl rfl ?_
        obtain ⟨r4, S5, h6, hf⟩ := bd_J hf
        refine k_callSi hK (c_X10_isBestAnswer h6) dX10_rests_53 ml_X10_390 ms_X10_isBestAnswer in_X10 mc_X10_isBestAnswer hy_X10_isBestAnswer ⟨by decide, by decide⟩ rfl (Nat.le_of_ble_eq_true rfl) ?_
        refine j_if_eq hK 69 dX10_rests_56 (by decide) (fun hc => ?_) (fun hc => ?_)
        · replace hf := if_1 hc hf
          exact t_X10_rests_69 hK hA hk he hf
        · replace hf := if_2 hc hf
          refine j_aload_n hK dX10_rests_59 0 rfl rfl ?_
          refine j_iload_n hK dX10_rests_60 3 rfl rfl ?_
          refine j_iload hK dX10_rests_61 4 rfl ?_
          obtain ⟨r7, S8, h9, hf⟩ := bd_J hf
          refine k_callVv hK (c_X10_putIfFirst h9) dX10_rests_63 zclX10 zo_0 ml_X10_292 mi_X10_putIfFirst mx_X10_putIfFirst in_X10 mc_X10_putIfFirst hy_X10_putIfFirst ⟨by decide, by decide⟩ rfl (Nat.le_of_ble_eq_true rfl) ?_
          refine j_iinc hK (L' := [(2, .int (v.1 + (1 : Int32))), (0, .ref 0), (1, .int x1), (3, .int x3), (4, .int v.2)]) dX10_rests_66 2 rfl (congrArg (fun y => v.1 + y) ic_1) (by decide) rfl ?_
          refine j_sub [1, 2, 0, 3, 4] rfl ?_
          exact t_X10_rests_69 hK hA hk he hf)
def f_X10_rests_23b (x1 : Int32) (e : Int32 × Int32 → St → Option (Int32 × St)) (k : Int32 × Int32 → St → Option (Int32 × St)) (v : Int32 × Int32) (S : St) : Option (Int32 × St) := (if (10 : Int32) ≤ v.2 then e (v.1, v.2) S else lp (f_X10_rests_32b x1 v.2 (fun v10 S11 => k (v10.1, (v.2 + (1 : Int32))) S11)) FU (v.1, (0 : Int32)) S)
theorem t_X10_rests_23 {K : CT} (hK : KO K cX10_rests RX10 5 3 (some .int)) {r : Int32} {S' : St} (hA : zans K = (some (.int r), S')) {x1 : Int32} {e : Int32 × Int32 → St → Option (Int32 × St)} (he : ∀ (v : Int32 × Int32) (S : St), e v S = some (r, S') → J K 81 [(2, .int v.1)] [] S) : ∀ (n : Nat) (v : Int32 × Int32) (S : St), lp (f_X10_rests_23b x1 e) n v S = some (r, S') → J K 23 [(0, .ref 0), (1, .int x1), (2, .int v.1), (3, .int v.2)] [] S :=
  lp_J (P := fun (v : Int32 × Int32) (S : St) => J K 23 [(0, .ref 0), (1, .int x1), (2, .int v.1), (3, .int v.2)] [] S) (fun k hk v S hf => by
    unfold f_X10_rests_23b at hf
    refine j_iload_n hK dX10_rests_23 3 rfl rfl ?_
    refine j_bipush hK (10 : Int32) dX10_rests_24 bi_10 ?_
    refine j_icmp_ge hK 81 dX10_rests_26 (by decide) (fun hc => ?_) (fun hc => ?_)
    · replace hf := if_1 hc hf
      refine j_sub [2] rfl ?_
      exact he _ _ hf
    · replace hf := if_2 hc hf
      refine j_iconst hK (0 : Int32) dX10_rests_29 ic_0 ?_
      refine j_istore hK (L' := [(4, .int (0 : Int32)), (0, .ref 0), (1, .int x1), (2, .int v.1), (3, .int v.2)]) dX10_rests_30 (by decide) rfl ?_
      refine j_sub [1, 2, 3, 4, 0] rfl ?_
      refine t_X10_rests_32 hK hA  (fun v10 S11 hf => ?_) _ _ _ hf
      refine j_iinc hK (L' := [(3, .int (v.2 + (1 : Int32))), (0, .ref 0), (1, .int x1), (2, .int v10.1)]) dX10_rests_75 3 rfl (congrArg (fun y => v.2 + y) ic_1) (by decide) rfl ?_
      refine j_goto hK 23 dX10_rests_78 (by decide) ?_
      refine j_sub [1, 2, 3, 0] rfl ?_
      exact hk _ _ hf)
def f_X10_rests (p1 : Int32) (S : St) : Option (Int32 × St) := (if p1 < 0 then some ((-1 : Int32), S) else (if p1 ≤ (20 : Int32) then bd (f_X5_begin S) (fun r12 S13 => lp (f_X10_rests_23b p1 (fun v15 S16 => some (v15.1, S16))) FU ((0 : Int32), (0 : Int32)) S13) else some ((-1 : Int32), S)))
theorem c_X10_rests {p1 : Int32} {S : St} {r : Int32} {S' : St} (hf : f_X10_rests p1 S = some (r, S')) : zM yX10_rests cX10_rests 5 3 (some .int) [.ref 0, .int p1] S (some (.int r)) S' := by
  refine zM_of (zpl (by decide)) (Nat.le_of_ble_eq_true rfl) rfl (fun K hK hA => ?_)
  unfold f_X10_rests at hf
  refine j_iload_n hK dX10_rests_0 1 rfl rfl ?_
  refine j_if_lt hK 10 dX10_rests_1 (by decide) (fun hc => ?_) (fun hc => ?_)
  · replace hf := if_1 hc hf
    refine j_iconst hK (-1 : Int32) dX10_rests_10 ic_m1 ?_
    exact j_iret hK dX10_rests_11 rfl (rt_I hA hf)
  · replace hf := if_2 hc hf
    refine j_iload_n hK dX10_rests_4 1 rfl rfl ?_
    refine j_bipush hK (20 : Int32) dX10_rests_5 bi_20 ?_
    refine j_icmp_le hK 12 dX10_rests_7 (by decide) (fun hc => ?_) (fun hc => ?_)
    · replace hf := if_1 hc hf
      refine j_aload_n hK dX10_rests_12 0 rfl rfl ?_
      refine j_getR hK fl_X10_26 dX10_rests_13 zo_0 zf_10_2 zr_0_2 ?_
      obtain ⟨r12, S13, h14, hf⟩ := bd_J hf
      refine k_callVv hK (c_X5_begin h14) dX10_rests_16 zclX5 zo_10 ml_X10_185 mi_X5_begin mx_X5_begin in_X5 mc_X5_begin hy_X5_begin ⟨by decide, by decide⟩ rfl (Nat.le_of_ble_eq_true rfl) ?_
      refine j_iconst hK (0 : Int32) dX10_rests_19 ic_0 ?_
      refine j_istore_n hK (L' := [(2, .int (0 : Int32)), (0, .ref 0), (1, .int p1)]) dX10_rests_20 rfl (by decide) rfl ?_
      refine j_iconst hK (0 : Int32) dX10_rests_21 ic_0 ?_
      refine j_istore_n hK (L' := [(3, .int (0 : Int32)), (2, .int (0 : Int32)), (0, .ref 0), (1, .int p1)]) dX10_rests_22 rfl (by decide) rfl ?_
      refine j_sub [2, 3, 1, 0] rfl ?_
      refine t_X10_rests_23 hK hA  (fun v15 S16 hf => ?_) _ _ _ hf
      refine j_iload_n hK dX10_rests_81 0 rfl rfl ?_
      exact j_iret hK dX10_rests_82 rfl (rt_I hA hf)
    · replace hf := if_2 hc hf
      refine j_iconst hK (-1 : Int32) dX10_rests_10 ic_m1 ?_
      exact j_iret hK dX10_rests_11 rfl (rt_I hA hf)
def f_X10_draw (p1 : Int32) (S : St) : Option (Int32 × St) := lt (sI S 0 12 (((gI S 0 12) * (1103515245 : Int32)) + (12345 : Int32))) (fun S1 => (if p1 ≤ 0 then some ((0 : Int32), S1) else if ¬ p1 = 0 then lt ((ushr (gI S1 0 12) (16 : Int32)) - (ushr (gI S1 0 12) (16 : Int32)) / p1 * p1) (fun y2 => some (y2, S1)) else none))
theorem c_X10_draw {p1 : Int32} {S : St} {r : Int32} {S' : St} (hf : f_X10_draw p1 S = some (r, S')) : zM yX10_draw cX10_draw 2 1 (some .int) [.ref 0, .int p1] S (some (.int r)) S' := by
  refine zM_of (zpl (by decide)) (Nat.le_of_ble_eq_true rfl) rfl (fun K hK hA => ?_)
  unfold f_X10_draw at hf
  refine j_aload_n hK dX10_draw_0 0 rfl rfl ?_
  refine j_aload_n hK dX10_draw_1 0 rfl rfl ?_
  refine j_getI hK fl_X10_84 dX10_draw_2 zo_0 zf_10_12 ?_
  refine j_ldcw hK (v := (1103515245 : Int32)) cn_X10_412 dX10_draw_5 ?_
  refine j_imul hK dX10_draw_8 ?_
  refine j_sipush hK (12345 : Int32) dX10_draw_9 si_12345 ?_
  refine j_iadd hK dX10_draw_12 ?_
  refine j_putI hK fl_X10_84 dX10_draw_13 zo_0 zf_10_12 ?_
  refine lt_S hf (fun S1 hf => ?_)
  refine j_pc (pc' := 16) rfl ?_
  refine j_iload_n hK dX10_draw_16 1 rfl rfl ?_
  refine j_if_le hK 32 dX10_draw_17 (by decide) (fun hc => ?_) (fun hc => ?_)
  · replace hf := if_1 hc hf
    refine j_iconst hK (0 : Int32) dX10_draw_32 ic_0 ?_
    exact j_iret hK dX10_draw_33 rfl (rt_I hA hf)
  · replace hf := if_2 hc hf
    refine j_aload_n hK dX10_draw_20 0 rfl rfl ?_
    refine j_getI hK fl_X10_84 dX10_draw_21 zo_0 zf_10_12 ?_
    refine j_bipush hK (16 : Int32) dX10_draw_24 bi_16 ?_
    refine j_iushr hK dX10_draw_26 ?_
    refine j_iload_n hK dX10_draw_27 1 rfl rfl ?_
    obtain ⟨hn3, hf⟩ := gd hf
    refine j_irem hK dX10_draw_28 hn3 ?_
    refine lt_I hf (fun y2 hf => ?_)
    refine j_goto hK 33 dX10_draw_29 (by decide) ?_
    exact j_iret hK dX10_draw_33 rfl (rt_I hA hf)
def f_X10_liveYear (S : St) : Option (Int32 × St) := bd (f_X10_draw (4 : Int32) S) (fun r1 S2 => (if r1 = 0 then bd (f_X0_heal (1 : Int32) S2) (fun r22 S23 => some ((0 : Int32), S23)) else (if (gI S2 3 2) = 0 then some ((0 : Int32), S2) else (if r1 = (3 : Int32) then bd (f_X10_draw (gI S2 3 2) S2) (fun r16 S17 => bd (f_X10_turnPassage r16 S17) (fun r19 S20 => some ((0 : Int32), S20))) else bd (f_X10_draw (8 : Int32) S2) (fun r4 S5 => bd (f_X10_draw (gI S5 3 2) S5) (fun r7 S8 => bd (f_X2_goes r4 r7 S8) (fun r10 S11 => (if r10 = 0 then some ((0 : Int32), S11) else bd (f_X0_wearOut S11) (fun r13 S14 => some ((1 : Int32), S14))))))))))
theorem c_X10_liveYear {S : St} {r : Int32} {S' : St} (hf : f_X10_liveYear S = some (r, S')) : zM yX10_liveYear cX10_liveYear 3 5 (some .int) [.ref 0] S (some (.int r)) S' := by
  refine zM_of (zpl (by decide)) (Nat.le_of_ble_eq_true rfl) rfl (fun K hK hA => ?_)
  unfold f_X10_liveYear at hf
  refine j_aload_n hK dX10_liveYear_0 0 rfl rfl ?_
  refine j_iconst hK (4 : Int32) dX10_liveYear_1 ic_4 ?_
  obtain ⟨r1, S2, h3, hf⟩ := bd_J hf
  refine k_callVi hK (c_X10_draw h3) dX10_liveYear_2 zclX10 zo_0 ml_X10_409 mi_X10_draw mx_X10_draw in_X10 mc_X10_draw hy_X10_draw ⟨by decide, by decide⟩ rfl (Nat.le_of_ble_eq_true rfl) ?_
  refine j_istore_n hK (L' := [(1, .int r1), (0, .ref 0)]) dX10_liveYear_5 rfl (by decide) rfl ?_
  refine j_iload_n hK dX10_liveYear_6 0 rfl rfl ?_
  refine j_if_ne hK 20 dX10_liveYear_7 (by decide) (fun hc => ?_) (fun hc => ?_)
  · replace hf := if_2 hc hf
    refine j_aload_n hK dX10_liveYear_20 1 rfl rfl ?_
    refine j_getR hK fl_X10_19 dX10_liveYear_21 zo_0 zf_10_1 zr_0_1 ?_
    refine j_getI hK fl_X10_95 dX10_liveYear_24 zo_3 zf_0_2 ?_
    refine j_if_ne hK 32 dX10_liveYear_27 (by decide) (fun hc => ?_) (fun hc => ?_)
    · replace hf := if_2 hc hf
      refine j_iload_n hK dX10_liveYear_32 0 rfl rfl ?_
      refine j_iconst hK (3 : Int32) dX10_liveYear_33 ic_3 ?_
      refine j_icmp_ne hK 55 dX10_liveYear_34 (by decide) (fun hc => ?_) (fun hc => ?_)
      · replace hf := if_2 hc hf
        refine j_aload_n hK dX10_liveYear_55 1 rfl rfl ?_
        refine j_bipush hK (8 : Int32) dX10_liveYear_56 bi_8 ?_
        obtain ⟨r4, S5, h6, hf⟩ := bd_J hf
        refine k_callVi hK (c_X10_draw h6) dX10_liveYear_58 zclX10 zo_0 ml_X10_409 mi_X10_draw mx_X10_draw in_X10 mc_X10_draw hy_X10_draw ⟨by decide, by decide⟩ rfl (Nat.le_of_ble_eq_true rfl) ?_
        refine j_istore_n hK (L' := [(2, .int r4), (1, .int r1), (0, .ref 0)]) dX10_liveYear_61 rfl (by decide) rfl ?_
        refine j_aload_n hK dX10_liveYear_62 2 rfl rfl ?_
        refine j_getR hK fl_X10_42 dX10_liveYear_63 zo_0 zf_10_4 zr_0_4 ?_
        refine j_iload_n hK dX10_liveYear_66 0 rfl rfl ?_
        refine j_pc (pc' := 67) rfl ?_
        refine j_aload_n hK dX10_liveYear_67 2 rfl rfl ?_
        refine j_aload_n hK dX10_liveYear_68 2 rfl rfl ?_
        refine j_getR hK fl_X10_19 dX10_liveYear_69 zo_0 zf_10_1 zr_0_1 ?_
        refine j_getI hK fl_X10_95 dX10_liveYear_72 zo_3 zf_0_2 ?_
        obtain ⟨r7, S8, h9, hf⟩ := bd_J hf
        refine k_callVi hK (c_X10_draw h9) dX10_liveYear_75 zclX10 zo_0 ml_X10_409 mi_X10_draw mx_X10_draw in_X10 mc_X10_draw hy_X10_draw ⟨by decide, by decide⟩ rfl (Nat.le_of_ble_eq_true rfl) ?_
        obtain ⟨r10, S11, h12, hf⟩ := bd_J hf
        refine k_callVi hK (c_X2_goes h12) dX10_liveYear_78 zclX2 zo_92 ml_X10_236 mi_X2_goes mx_X2_goes in_X2 mc_X2_goes hy_X2_goes ⟨by decide, by decide⟩ rfl (Nat.le_of_ble_eq_true rfl) ?_
        refine j_if_ne hK 86 dX10_liveYear_81 (by decide) (fun hc => ?_) (fun hc => ?_)
        · replace hf := if_2 hc hf
          refine j_aload_n hK dX10_liveYear_86 2 rfl rfl ?_
          refine j_getR hK fl_X10_19 dX10_liveYear_87 zo_0 zf_10_1 zr_0_1 ?_
          refine j_aload_n hK dX10_liveYear_90 2 rfl rfl ?_
          refine j_getR hK fl_X10_42 dX10_liveYear_91 zo_0 zf_10_4 zr_0_4 ?_
          obtain ⟨r13, S14, h15, hf⟩ := bd_J hf
          refine k_callVv hK (c_X0_wearOut h15) dX10_liveYear_94 zclX0 zo_3 ml_X10_250 mi_X0_wearOut mx_X0_wearOut in_X0 mc_X0_wearOut hy_X0_wearOut ⟨by decide, by decide⟩ rfl (Nat.le_of_ble_eq_true rfl) ?_
          refine j_iconst hK (1 : Int32) dX10_liveYear_97 ic_1 ?_
          exact j_iret hK dX10_liveYear_98 rfl (rt_I hA hf)
        · replace hf := if_1 hc hf
          refine j_iconst hK (0 : Int32) dX10_liveYear_84 ic_0 ?_
          exact j_iret hK dX10_liveYear_85 rfl (rt_I hA hf)
      · replace hf := if_1 hc hf
        refine j_aload_n hK dX10_liveYear_37 1 rfl rfl ?_
        refine j_aload_n hK dX10_liveYear_38 1 rfl rfl ?_
        refine j_aload_n hK dX10_liveYear_39 1 rfl rfl ?_
        refine j_getR hK fl_X10_19 dX10_liveYear_40 zo_0 zf_10_1 zr_0_1 ?_
        refine j_getI hK fl_X10_95 dX10_liveYear_43 zo_3 zf_0_2 ?_
        obtain ⟨r16, S17, h18, hf⟩ := bd_J hf
        refine k_callVi hK (c_X10_draw h18) dX10_liveYear_46 zclX10 zo_0 ml_X10_409 mi_X10_draw mx_X10_draw in_X10 mc_X10_draw hy_X10_draw ⟨by decide, by decide⟩ rfl (Nat.le_of_ble_eq_true rfl) ?_
        obtain ⟨r19, S20, h21, hf⟩ := bd_J hf
        refine k_callVi hK (c_X10_turnPassage h21) dX10_liveYear_49 zclX10 zo_0 ml_X10_209 mi_X10_turnPassage mx_X10_turnPassage in_X10 mc_X10_turnPassage hy_X10_turnPassage ⟨by decide, by decide⟩ rfl (Nat.le_of_ble_eq_true rfl) ?_
        refine j_pc (pc' := 52) rfl ?_
        refine j_pop hK dX10_liveYear_52 rfl ?_
        refine j_iconst hK (0 : Int32) dX10_liveYear_53 ic_0 ?_
        exact j_iret hK dX10_liveYear_54 rfl (rt_I hA hf)
    · replace hf := if_1 hc hf
      refine j_iconst hK (0 : Int32) dX10_liveYear_30 ic_0 ?_
      exact j_iret hK dX10_liveYear_31 rfl (rt_I hA hf)
  · replace hf := if_1 hc hf
    refine j_aload_n hK dX10_liveYear_10 1 rfl rfl ?_
    refine j_getR hK fl_X10_19 dX10_liveYear_11 zo_0 zf_10_1 zr_0_1 ?_
    refine j_iconst hK (1 : Int32) dX10_liveYear_14 ic_1 ?_
    obtain ⟨r22, S23, h24, hf⟩ := bd_J hf
    refine k_callVv hK (c_X0_heal h24) dX10_liveYear_15 zclX0 zo_3 ml_X10_257 mi_X0_heal mx_X0_heal in_X0 mc_X0_heal hy_X0_heal ⟨by decide, by decide⟩ rfl (Nat.le_of_ble_eq_true rfl) ?_
    refine j_iconst hK (0 : Int32) dX10_liveYear_18 ic_0 ?_
    exact j_iret hK dX10_liveYear_19 rfl (rt_I hA hf)
def f_X10_years_37b (x2 : Int32) (e : Int32 × Int32 → St → Option (Int32 × St)) (k : Int32 × Int32 → St → Option (Int32 × St)) (v : Int32 × Int32) (S : St) : Option (Int32 × St) := (if x2 ≤ v.2 then e (v.1, v.2) S else bd (f_X10_liveYear S) (fun r1 S2 => lt (v.1 + r1) (fun y4 => k (y4, (v.2 + (1 : Int32))) S2)))
theorem t_X10_years_37 {K : CT} (hK : KO K cX10_years RX10 5 6 (some .int)) {r : Int32} {S' : St} (hA : zans K = (some (.int r), S')) {x2 : Int32} {e : Int32 × Int32 → St → Option (Int32 × St)} (he : ∀ (v : Int32 × Int32) (S : St), e v S = some (r, S') → J K 56 [(0, .ref 0), (3, .int v.1)] [] S) : ∀ (n : Nat) (v : Int32 × Int32) (S : St), lp (f_X10_years_37b x2 e) n v S = some (r, S') → J K 37 [(0, .ref 0), (2, .int x2), (3, .int v.1), (4, .int v.2)] [] S :=
  lp_J (P := fun (v : Int32 × Int32) (S : St) => J K 37 [(0, .ref 0), (2, .int x2), (3, .int v.1), (4, .int v.2)] [] S) (fun k hk v S hf => by
    unfold f_X10_years_37b at hf
    refine j_iload hK dX10_years_37 3 rfl ?_
    refine j_iload_n hK dX10_years_39 1 rfl rfl ?_
    refine j_icmp_ge hK 56 dX10_years_40 (by decide) (fun hc => ?_) (fun hc => ?_)
    · replace hf := if_1 hc hf
      refine j_sub [0, 2] rfl ?_
      exact he _ _ hf
    · replace hf := if_2 hc hf
      refine j_iload_n hK dX10_years_43 2 rfl rfl ?_
      refine j_aload_n hK dX10_years_44 0 rfl rfl ?_
      obtain ⟨r1, S2, h3, hf⟩ := bd_J hf
      refine k_callVi hK (c_X10_liveYear h3) dX10_years_45 zclX10 zo_0 ml_X10_393 mi_X10_liveYear mx_X10_liveYear in_X10 mc_X10_liveYear hy_X10_liveYear ⟨by decide, by decide⟩ rfl (Nat.le_of_ble_eq_true rfl) ?_
      refine j_iadd hK dX10_years_48 ?_
      refine lt_I hf (fun y4 hf => ?_)
      refine j_istore_n hK (L' := [(3, .int y4), (0, .ref 0), (2, .int x2), (4, .int v.2)]) dX10_years_49 rfl (by decide) rfl ?_
      refine j_iinc hK (L' := [(4, .int (v.2 + (1 : Int32))), (3, .int y4), (0, .ref 0), (2, .int x2)]) dX10_years_50 3 rfl (congrArg (fun y => v.2 + y) ic_1) (by decide) rfl ?_
      refine j_goto hK 37 dX10_years_53 (by decide) ?_
      refine j_sub [2, 3, 1, 0] rfl ?_
      exact hk _ _ hf)
def f_X10_years (p1 : Int32) (p2 : Int32) (S : St) : Option (Int32 × St) := (if p2 < (1 : Int32) then some ((-1 : Int32), S) else (if p2 ≤ (60 : Int32) then bd (f_X4_mark S) (fun r5 S6 => lt (sI S6 0 12 p1) (fun S8 => lp (f_X10_years_37b p2 (fun v9 S10 => bd (f_X5_begin S10) (fun r11 S12 => bd (f_J6_bitCount_0f7a4 (gI S12 6 3) S12) (fun r14 S15 => bd (f_X5_put r14.toInt64 S15) (fun r17 S18 => bd (f_X5_put v9.1.toInt64 S18) (fun r20 S21 => bd (f_X0_wearOfAll S21) (fun r23 S24 => bd (f_X4_marked S24) (fun r26 S27 => if isState r26 then bd (f_X7_take 6 r26 S27) (fun r30 S31 => some (r23, S31)) else none)))))))) FU ((0 : Int32), (0 : Int32)) S8)) else some ((-1 : Int32), S)))
theorem c_X10_years {p1 : Int32} {p2 : Int32} {S : St} {r : Int32} {S' : St} (hf : f_X10_years p1 p2 S = some (r, S')) : zM yX10_years cX10_years 5 6 (some .int) [.ref 0, .int p1, .int p2] S (some (.int r)) S' := by
  refine zM_of (zpl (by decide)) (Nat.le_of_ble_eq_true rfl) rfl (fun K hK hA => ?_)
  unfold f_X10_years at hf
  refine j_iload_n hK dX10_years_0 2 rfl rfl ?_
  refine j_iconst hK (1 : Int32) dX10_years_1 ic_1 ?_
  refine j_icmp_lt hK 11 dX10_years_2 (by decide) (fun hc => ?_) (fun hc => ?_)
  · replace hf := if_1 hc hf
    refine j_iconst hK (-1 : Int32) dX10_years_11 ic_m1 ?_
    exact j_iret hK dX10_years_12 rfl (rt_I hA hf)
  · replace hf := if_2 hc hf
    refine j_iload_n hK dX10_years_5 2 rfl rfl ?_
    refine j_bipush hK (60 : Int32) dX10_years_6 bi_60 ?_
    refine j_icmp_le hK 13 dX10_years_8 (by decide) (fun hc => ?_) (fun hc => ?_)
    · replace hf := if_1 hc hf
      refine j_aload_n hK dX10_years_13 0 rfl rfl ?_
      refine j_getR hK fl_X10_33 dX10_years_14 zo_0 zf_10_3 zr_0_3 ?_
      refine j_aload_n hK dX10_years_17 0 rfl rfl ?_
      refine j_getR hK fl_X10_19 dX10_years_18 zo_0 zf_10_1 zr_0_1 ?_
      refine j_getR hK fl_X10_129 dX10_years_21 zo_3 zf_0_3 zr_3_3 ?_
      obtain ⟨r5, S6, h7, hf⟩ := bd_J hf
      refine k_callVv hK (c_X4_mark h7) dX10_years_24 zclX4 zo_12 ml_X10_181 mi_X4_mark mx_X4_mark in_X4 mc_X4_mark hy_X4_mark ⟨by decide, by decide⟩ rfl (Nat.le_of_ble_eq_true rfl) ?_
      refine j_aload_n hK dX10_years_27 0 rfl rfl ?_
      refine j_pc (pc' := 28) rfl ?_
      refine j_iload_n hK dX10_years_28 1 rfl rfl ?_
      refine j_putI hK fl_X10_84 dX10_years_29 zo_0 zf_10_12 ?_
      refine lt_S hf (fun S8 hf => ?_)
      refine j_iconst hK (0 : Int32) dX10_years_32 ic_0 ?_
      refine j_istore_n hK (L' := [(3, .int (0 : Int32)), (0, .ref 0), (1, .int p1), (2, .int p2)]) dX10_years_33 rfl (by decide) rfl ?_
      refine j_iconst hK (0 : Int32) dX10_years_34 ic_0 ?_
      refine j_istore hK (L' := [(4, .int (0 : Int32)), (3, .int (0 : Int32)), (0, .ref 0), (1, .int p1), (2, .int p2)]) dX10_years_35 (by decide) rfl ?_
      refine j_sub [2, 4, 1, 0] rfl ?_
      refine t_X10_years_37 hK hA  (fun v9 S10 hf => ?_) _ _ _ hf
      refine j_aload_n hK dX10_years_56 0 rfl rfl ?_
      refine j_getR hK fl_X10_26 dX10_years_57 zo_0 zf_10_2 zr_0_2 ?_
      obtain ⟨r11, S12, h13, hf⟩ := bd_J hf
      refine k_callVv hK (c_X5_begin h13) dX10_years_60 zclX5 zo_10 ml_X10_185 mi_X5_begin mx_X5_begin in_X5 mc_X5_begin hy_X5_begin ⟨by decide, by decide⟩ rfl (Nat.le_of_ble_eq_true rfl) ?_
      refine j_aload_n hK dX10_years_63 0 rfl rfl ?_
      refine j_getR hK fl_X10_26 dX10_years_64 zo_0 zf_10_2 zr_0_2 ?_
      refine j_aload_n hK dX10_years_67 0 rfl rfl ?_
      refine j_getR hK fl_X10_19 dX10_years_68 zo_0 zf_10_1 zr_0_1 ?_
      refine j_pc (pc' := 71) rfl ?_
      refine j_getR hK fl_X10_129 dX10_years_71 zo_3 zf_0_3 zr_3_3 ?_
      refine j_getI hK fl_X10_260 dX10_years_74 zo_6 zf_7_3 ?_
      obtain ⟨r14, S15, h16, hf⟩ := bd_J hf
      refine k_callSi hK (c_J6_bitCount_0f7a4 h16) dX10_years_77 ml_X10_263 ms_J6_bitCount_0f7a4 in_J6 mc_J6_bitCount_0f7a4 hy_J6_bitCount_0f7a4 ⟨by decide, by decide⟩ rfl (Nat.le_of_ble_eq_true rfl) ?_
      refine j_i2l hK dX10_years_80 ?_
      obtain ⟨r17, S18, h19, hf⟩ := bd_J hf
      refine k_callVv hK (c_X5_put h19) dX10_years_81 zclX5 zo_10 ml_X10_191 mi_X5_put mx_X5_put in_X5 mc_X5_put hy_X5_put ⟨by decide, by decide⟩ rfl (Nat.le_of_ble_eq_true rfl) ?_
      refine j_aload_n hK dX10_years_84 0 rfl rfl ?_
      refine j_getR hK fl_X10_26 dX10_years_85 zo_0 zf_10_2 zr_0_2 ?_
      refine j_iload_n hK dX10_years_88 1 rfl rfl ?_
      refine j_pc (pc' := 89) rfl ?_
      refine j_i2l hK dX10_years_89 ?_
      obtain ⟨r20, S21, h22, hf⟩ := bd_J hf
      refine k_callVv hK (c_X5_put h22) dX10_years_90 zclX5 zo_10 ml_X10_191 mi_X5_put mx_X5_put in_X5 mc_X5_put hy_X5_put ⟨by decide, by decide⟩ rfl (Nat.le_of_ble_eq_true rfl) ?_
      refine j_aload_n hK dX10_years_93 0 rfl rfl ?_
      refine j_getR hK fl_X10_19 dX10_years_94 zo_0 zf_10_1 zr_0_1 ?_
      obtain ⟨r23, S24, h25, hf⟩ := bd_J hf
      refine k_callVi hK (c_X0_wearOfAll h25) dX10_years_97 zclX0 zo_3 ml_X10_166 mi_X0_wearOfAll mx_X0_wearOfAll in_X0 mc_X0_wearOfAll hy_X0_wearOfAll ⟨by decide, by decide⟩ rfl (Nat.le_of_ble_eq_true rfl) ?_
      refine j_istore hK (L' := [(4, .int r23), (0, .ref 0), (3, .int v9.1)]) dX10_years_100 (by decide) rfl ?_
      refine j_aload_n hK dX10_years_102 1 rfl rfl ?_
      refine j_getR hK fl_X10_19 dX10_years_103 zo_0 zf_10_1 zr_0_1 ?_
      refine j_pc (pc' := 106) rfl ?_
      refine j_getR hK fl_X10_129 dX10_years_106 zo_3 zf_0_3 zr_3_3 ?_
      refine j_aload_n hK dX10_years_109 1 rfl rfl ?_
      refine j_getR hK fl_X10_33 dX10_years_110 zo_0 zf_10_3 zr_0_3 ?_
      obtain ⟨r26, S27, h28, hf⟩ := bd_J hf
      obtain ⟨hq29, hf⟩ := gd hf
      refine k_callVr hK (c_X4_marked h28) dX10_years_113 zclX4 zo_12 ml_X10_396 mi_X4_marked mx_X4_marked in_X4 mc_X4_marked hy_X4_marked ⟨by decide, by decide⟩ rfl (Nat.le_of_ble_eq_true rfl) ?_
      obtain ⟨r30, S31, h32, hf⟩ := bd_J hf
      refine k_callVv hK (c_X7_take zo_6 hq29 h32) dX10_years_116 zclX7 zo_6 ml_X10_233 mi_X7_take mx_X7_take in_X7 mc_X7_take hy_X7_take ⟨by decide, by decide⟩ rfl (Nat.le_of_ble_eq_true rfl) ?_
      refine j_iload hK dX10_years_119 0 rfl ?_
      exact j_iret hK dX10_years_121 rfl (rt_I hA hf)
    · replace hf := if_2 hc hf
      refine j_iconst hK (-1 : Int32) dX10_years_11 ic_m1 ?_
      exact j_iret hK dX10_years_12 rfl (rt_I hA hf)
def f_X4_store (p1 : Int32) (S : St) : Option (Int32 × St) := (if p1 < 0 then some ((0 : Int32), S) else (if p1 < (3 : Int32) then if inb p1 3 then bd (f_X7_take (zr 78 p1.toNatClampNeg) 6 S) (fun r2 S3 => if inb p1 3 then lt (sI S3 91 p1.toNatClampNeg (vp_nar .boolean (1 : Int32))) (fun S6 => some ((1 : Int32), S6)) else none) else none else some ((0 : Int32), S)))
theorem c_X4_store {p1 : Int32} {S : St} {r : Int32} {S' : St} (hf : f_X4_store p1 S = some (r, S')) : zM yX4_store cX4_store 3 2 (some .boolean) [.ref 12, .int p1, .ref 6] S (some (.int r)) S' := by
  refine zM_of (zpl (by decide)) (Nat.le_of_ble_eq_true rfl) rfl (fun K hK hA => ?_)
  unfold f_X4_store at hf
  refine j_iload_n hK dX4_store_0 1 rfl rfl ?_
  refine j_if_lt hK 9 dX4_store_1 (by decide) (fun hc => ?_) (fun hc => ?_)
  · replace hf := if_1 hc hf
    refine j_iconst hK (0 : Int32) dX4_store_9 ic_0 ?_
    exact j_zret hK dX4_store_10 rfl rfl (rt_I hA hf)
  · replace hf := if_2 hc hf
    refine j_iload_n hK dX4_store_4 1 rfl rfl ?_
    refine j_iconst hK (3 : Int32) dX4_store_5 ic_3 ?_
    refine j_icmp_lt hK 11 dX4_store_6 (by decide) (fun hc => ?_) (fun hc => ?_)
    · replace hf := if_1 hc hf
      refine j_aload_n hK dX4_store_11 0 rfl rfl ?_
      refine j_getR hK fl_X4_23 dX4_store_12 zo_12 zf_4_3 zr_12_3 ?_
      refine j_iload_n hK dX4_store_15 1 rfl rfl ?_
      obtain ⟨hi1, hf⟩ := gd hf
      refine j_aald hK dX4_store_16 zb_78 hi1 ?_
      refine j_aload_n hK dX4_store_17 2 rfl rfl ?_
      obtain ⟨r2, S3, h4, hf⟩ := bd_J hf
      refine k_callVv hK (c_X7_take (st_a78 hi1) zo_6 h4) dX4_store_18 zclX7 (st_a78 hi1) ml_X4_34 mi_X7_take mx_X7_take in_X7 mc_X7_take hy_X7_take ⟨by decide, by decide⟩ rfl (Nat.le_of_ble_eq_true rfl) ?_
      refine j_aload_n hK dX4_store_21 0 rfl rfl ?_
      refine j_pc (pc' := 22) rfl ?_
      refine j_getR hK fl_X4_26 dX4_store_22 zo_12 zf_4_4 zr_12_4 ?_
      refine j_iload_n hK dX4_store_25 1 rfl rfl ?_
      refine j_iconst hK (1 : Int32) dX4_store_26 ic_1 ?_
      obtain ⟨hi5, hf⟩ := gd hf
      refine k_zast hK dX4_store_27 zb_91 hi5 rfl ?_
      refine lt_S hf (fun S6 hf => ?_)
      refine j_iconst hK (1 : Int32) dX4_store_28 ic_1 ?_
      exact j_zret hK dX4_store_29 rfl rfl (rt_I hA hf)
    · replace hf := if_2 hc hf
      refine j_iconst hK (0 : Int32) dX4_store_9 ic_0 ?_
      exact j_zret hK dX4_store_10 rfl rfl (rt_I hA hf)
def f_X10_keep (p1 : Int32) (S : St) : Option (Int32 × St) := bd (f_X4_store p1 S) (fun r1 S2 => if r1 = 0 ∨ r1 = 1 then some (r1, S2) else none)
theorem c_X10_keep {p1 : Int32} {S : St} {r : Int32} {S' : St} (hf : f_X10_keep p1 S = some (r, S')) : zM yX10_keep cX10_keep 2 3 (some .boolean) [.ref 0, .int p1] S (some (.int r)) S' := by
  refine zM_of (zpl (by decide)) (Nat.le_of_ble_eq_true rfl) rfl (fun K hK hA => ?_)
  unfold f_X10_keep at hf
  refine j_aload_n hK dX10_keep_0 0 rfl rfl ?_
  refine j_getR hK fl_X10_33 dX10_keep_1 zo_0 zf_10_3 zr_0_3 ?_
  refine j_iload_n hK dX10_keep_4 1 rfl rfl ?_
  refine j_aload_n hK dX10_keep_5 0 rfl rfl ?_
  refine j_getR hK fl_X10_19 dX10_keep_6 zo_0 zf_10_1 zr_0_1 ?_
  refine j_getR hK fl_X10_129 dX10_keep_9 zo_3 zf_0_3 zr_3_3 ?_
  obtain ⟨r1, S2, h3, hf⟩ := bd_J hf
  refine k_callVi hK (c_X4_store h3) dX10_keep_12 zclX4 zo_12 ml_X10_413 mi_X4_store mx_X4_store in_X4 mc_X4_store hy_X4_store ⟨by decide, by decide⟩ rfl (Nat.le_of_ble_eq_true rfl) ?_
  obtain ⟨hz, hf⟩ := gd hf
  exact j_zret hK dX10_keep_15 rfl (nz hz) (rt_I hA hf)
def f_X4_hasStored (p1 : Int32) (S : St) : Option (Int32 × St) := (if p1 < 0 then some ((0 : Int32), S) else (if (3 : Int32) ≤ p1 then some ((0 : Int32), S) else if inb p1 3 then (if (gI S 91 p1.toNatClampNeg) = 0 then some ((0 : Int32), S) else some ((1 : Int32), S)) else none))
theorem c_X4_hasStored {p1 : Int32} {S : St} {r : Int32} {S' : St} (hf : f_X4_hasStored p1 S = some (r, S')) : zM yX4_hasStored cX4_hasStored 2 1 (some .boolean) [.ref 12, .int p1] S (some (.int r)) S' := by
  refine zM_of (zpl (by decide)) (Nat.le_of_ble_eq_true rfl) rfl (fun K hK hA => ?_)
  unfold f_X4_hasStored at hf
  refine j_iload_n hK dX4_hasStored_0 1 rfl rfl ?_
  refine j_if_lt hK 22 dX4_hasStored_1 (by decide) (fun hc => ?_) (fun hc => ?_)
  · replace hf := if_1 hc hf
    refine j_iconst hK (0 : Int32) dX4_hasStored_22 ic_0 ?_
    exact j_zret hK dX4_hasStored_23 rfl rfl (rt_I hA hf)
  · replace hf := if_2 hc hf
    refine j_iload_n hK dX4_hasStored_4 1 rfl rfl ?_
    refine j_iconst hK (3 : Int32) dX4_hasStored_5 ic_3 ?_
    refine j_icmp_ge hK 22 dX4_hasStored_6 (by decide) (fun hc => ?_) (fun hc => ?_)
    · replace hf := if_1 hc hf
      refine j_iconst hK (0 : Int32) dX4_hasStored_22 ic_0 ?_
      exact j_zret hK dX4_hasStored_23 rfl rfl (rt_I hA hf)
    · replace hf := if_2 hc hf
      refine j_aload_n hK dX4_hasStored_9 0 rfl rfl ?_
      refine j_getR hK fl_X4_26 dX4_hasStored_10 zo_12 zf_4_4 zr_12_4 ?_
      refine j_iload_n hK dX4_hasStored_13 1 rfl rfl ?_
      obtain ⟨hi1, hf⟩ := gd hf
      refine k_zald hK dX4_hasStored_14 zb_91 hi1 rfl ?_
      refine j_if_eq hK 22 dX4_hasStored_15 (by decide) (fun hc => ?_) (fun hc => ?_)
      · replace hf := if_1 hc hf
        refine j_iconst hK (0 : Int32) dX4_hasStored_22 ic_0 ?_
        exact j_zret hK dX4_hasStored_23 rfl rfl (rt_I hA hf)
      · replace hf := if_2 hc hf
        refine j_iconst hK (1 : Int32) dX4_hasStored_18 ic_1 ?_
        refine j_goto hK 23 dX4_hasStored_19 (by decide) ?_
        exact j_zret hK dX4_hasStored_23 rfl rfl (rt_I hA hf)
