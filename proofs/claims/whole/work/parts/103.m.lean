def f_X10_digs_37 (x4 : Int32) (s1 : Int32) (S : St) : Option (Int32 × St) := bd (f_X4_settle s1 S) (fun r1 S2 => some (x4, S2))
theorem t_X10_digs_37 {K : CT} (hK : KO K cX10_digs RX10 5 3 (some .int)) {r : Int32} {S' : St} (hA : zans K = (some (.int r), S')) {x4 : Int32} {s1 : Int32} {S : St} (hf : f_X10_digs_37 x4 s1 S = some (r, S')) : J K 37 [(4, .int x4)] [.int s1, .ref 12] S := by
  unfold f_X10_digs_37 at hf
  obtain ⟨r1, S2, h3, hf⟩ := bd_J hf
  refine k_callVv hK (c_X4_settle h3) dX10_digs_37 zclX4 zo_12 ml_X10_202 mi_X4_settle mx_X4_settle in_X4 mc_X4_settle hy_X4_settle ⟨by decide, by decide⟩ rfl (Nat.le_of_ble_eq_true rfl) ?_
  refine j_iload hK dX10_digs_40 0 rfl ?_
  exact j_iret hK dX10_digs_42 rfl (rt_I hA hf)
def f_X10_digs (p1 : Int32) (p2 : Int32) (p3 : Int32) (S : St) : Option (Int32 × St) := bd (f_X4_mark S) (fun r4 S5 => bd (f_X10_digPassage p1 p2 p3 S5) (fun r7 S8 => (if r7 < 0 then f_X10_digs_37 r7 (0 : Int32) S8 else f_X10_digs_37 r7 (1 : Int32) S8)))
theorem c_X10_digs {p1 : Int32} {p2 : Int32} {p3 : Int32} {S : St} {r : Int32} {S' : St} (hf : f_X10_digs p1 p2 p3 S = some (r, S')) : zM yX10_digs cX10_digs 5 3 (some .int) [.ref 0, .int p1, .int p2, .int p3] S (some (.int r)) S' := by
  refine zM_of (zpl (by decide)) (Nat.le_of_ble_eq_true rfl) rfl (fun K hK hA => ?_)
  unfold f_X10_digs at hf
  refine j_aload_n hK dX10_digs_0 0 rfl rfl ?_
  refine j_getR hK fl_X10_33 dX10_digs_1 zo_0 zf_10_3 zr_0_3 ?_
  refine j_aload_n hK dX10_digs_4 0 rfl rfl ?_
  refine j_getR hK fl_X10_19 dX10_digs_5 zo_0 zf_10_1 zr_0_1 ?_
  refine j_getR hK fl_X10_129 dX10_digs_8 zo_3 zf_0_3 zr_3_3 ?_
  obtain ⟨r4, S5, h6, hf⟩ := bd_J hf
  refine k_callVv hK (c_X4_mark h6) dX10_digs_11 zclX4 zo_12 ml_X10_181 mi_X4_mark mx_X4_mark in_X4 mc_X4_mark hy_X4_mark ⟨by decide, by decide⟩ rfl (Nat.le_of_ble_eq_true rfl) ?_
  refine j_aload_n hK dX10_digs_14 0 rfl rfl ?_
  refine j_iload_n hK dX10_digs_15 1 rfl rfl ?_
  refine j_pc (pc' := 16) rfl ?_
  refine j_iload_n hK dX10_digs_16 2 rfl rfl ?_
  refine j_iload_n hK dX10_digs_17 3 rfl rfl ?_
  obtain ⟨r7, S8, h9, hf⟩ := bd_J hf
  refine k_callVi hK (c_X10_digPassage h9) dX10_digs_18 zclX10 zo_0 ml_X10_212 mi_X10_digPassage mx_X10_digPassage in_X10 mc_X10_digPassage hy_X10_digPassage ⟨by decide, by decide⟩ rfl (Nat.le_of_ble_eq_true rfl) ?_
  refine j_istore hK (L' := [(4, .int r7), (0, .ref 0), (1, .int p1), (2, .int p2), (3, .int p3)]) dX10_digs_21 (by decide) rfl ?_
  refine j_aload_n hK dX10_digs_23 1 rfl rfl ?_
  refine j_getR hK fl_X10_33 dX10_digs_24 zo_0 zf_10_3 zr_0_3 ?_
  refine j_iload hK dX10_digs_27 0 rfl ?_
  refine j_if_lt hK 36 dX10_digs_29 (by decide) (fun hc => ?_) (fun hc => ?_)
  · replace hf := if_1 hc hf
    refine j_iconst hK (0 : Int32) dX10_digs_36 ic_0 ?_
    refine j_sub [0] rfl ?_
    exact t_X10_digs_37 hK hA  hf
  · replace hf := if_2 hc hf
    refine j_iconst hK (1 : Int32) dX10_digs_32 ic_1 ?_
    refine j_goto hK 37 dX10_digs_33 (by decide) ?_
    refine j_sub [0] rfl ?_
    exact t_X10_digs_37 hK hA  hf
def f_X8_digitsOfAct (p1 : Int32) (S : St) : Option (Int32 × St) := bd (f_X8_within p1 (110 : Int32) (110 : Int32) S) (fun r1 S2 => (if r1 = 0 then bd (f_X8_within p1 (120 : Int32) (120 : Int32) S2) (fun r4 S5 => (if r4 = 0 then bd (f_X8_within p1 (115 : Int32) (115 : Int32) S5) (fun r7 S8 => (if r7 = 0 then bd (f_X8_within p1 (109 : Int32) (109 : Int32) S8) (fun r10 S11 => (if r10 = 0 then some ((0 : Int32), S11) else some ((3 : Int32), S11))) else some ((2 : Int32), S8))) else some ((1 : Int32), S5))) else some ((1 : Int32), S2)))
theorem c_X8_digitsOfAct {p1 : Int32} {S : St} {r : Int32} {S' : St} (hf : f_X8_digitsOfAct p1 S = some (r, S')) : zM yX8_digitsOfAct cX8_digitsOfAct 2 2 (some .int) [.ref 1, .int p1] S (some (.int r)) S' := by
  refine zM_of (zpl (by decide)) (Nat.le_of_ble_eq_true rfl) rfl (fun K hK hA => ?_)
  unfold f_X8_digitsOfAct at hf
  refine j_aload_n hK dX8_digitsOfAct_0 0 rfl rfl ?_
  refine j_iload_n hK dX8_digitsOfAct_1 1 rfl rfl ?_
  refine j_bipush hK (110 : Int32) dX8_digitsOfAct_2 bi_110 ?_
  refine j_bipush hK (110 : Int32) dX8_digitsOfAct_4 bi_110 ?_
  obtain ⟨r1, S2, h3, hf⟩ := bd_J hf
  refine k_callVi hK (c_X8_within h3) dX8_digitsOfAct_6 zclX8 zo_1 ml_X8_19 mi_X8_within mx_X8_within in_X8 mc_X8_within hy_X8_within ⟨by decide, by decide⟩ rfl (Nat.le_of_ble_eq_true rfl) ?_
  refine j_if_ne hK 24 dX8_digitsOfAct_9 (by decide) (fun hc => ?_) (fun hc => ?_)
  · replace hf := if_2 hc hf
    refine j_iconst hK (1 : Int32) dX8_digitsOfAct_24 ic_1 ?_
    exact j_iret hK dX8_digitsOfAct_25 rfl (rt_I hA hf)
  · replace hf := if_1 hc hf
    refine j_aload_n hK dX8_digitsOfAct_12 0 rfl rfl ?_
    refine j_iload_n hK dX8_digitsOfAct_13 1 rfl rfl ?_
    refine j_bipush hK (120 : Int32) dX8_digitsOfAct_14 bi_120 ?_
    refine j_bipush hK (120 : Int32) dX8_digitsOfAct_16 bi_120 ?_
    obtain ⟨r4, S5, h6, hf⟩ := bd_J hf
    refine k_callVi hK (c_X8_within h6) dX8_digitsOfAct_18 zclX8 zo_1 ml_X8_19 mi_X8_within mx_X8_within in_X8 mc_X8_within hy_X8_within ⟨by decide, by decide⟩ rfl (Nat.le_of_ble_eq_true rfl) ?_
    refine j_if_eq hK 26 dX8_digitsOfAct_21 (by decide) (fun hc => ?_) (fun hc => ?_)
    · replace hf := if_1 hc hf
      refine j_aload_n hK dX8_digitsOfAct_26 0 rfl rfl ?_
      refine j_iload_n hK dX8_digitsOfAct_27 1 rfl rfl ?_
      refine j_bipush hK (115 : Int32) dX8_digitsOfAct_28 bi_115 ?_
      refine j_bipush hK (115 : Int32) dX8_digitsOfAct_30 bi_115 ?_
      obtain ⟨r7, S8, h9, hf⟩ := bd_J hf
      refine k_callVi hK (c_X8_within h9) dX8_digitsOfAct_32 zclX8 zo_1 ml_X8_19 mi_X8_within mx_X8_within in_X8 mc_X8_within hy_X8_within ⟨by decide, by decide⟩ rfl (Nat.le_of_ble_eq_true rfl) ?_
      refine j_if_eq hK 40 dX8_digitsOfAct_35 (by decide) (fun hc => ?_) (fun hc => ?_)
      · replace hf := if_1 hc hf
        refine j_aload_n hK dX8_digitsOfAct_40 0 rfl rfl ?_
        refine j_iload_n hK dX8_digitsOfAct_41 1 rfl rfl ?_
        refine j_bipush hK (109 : Int32) dX8_digitsOfAct_42 bi_109 ?_
        refine j_bipush hK (109 : Int32) dX8_digitsOfAct_44 bi_109 ?_
        obtain ⟨r10, S11, h12, hf⟩ := bd_J hf
        refine k_callVi hK (c_X8_within h12) dX8_digitsOfAct_46 zclX8 zo_1 ml_X8_19 mi_X8_within mx_X8_within in_X8 mc_X8_within hy_X8_within ⟨by decide, by decide⟩ rfl (Nat.le_of_ble_eq_true rfl) ?_
        refine j_if_eq hK 56 dX8_digitsOfAct_49 (by decide) (fun hc => ?_) (fun hc => ?_)
        · replace hf := if_1 hc hf
          refine j_iconst hK (0 : Int32) dX8_digitsOfAct_56 ic_0 ?_
          exact j_iret hK dX8_digitsOfAct_57 rfl (rt_I hA hf)
        · replace hf := if_2 hc hf
          refine j_iconst hK (3 : Int32) dX8_digitsOfAct_52 ic_3 ?_
          refine j_goto hK 57 dX8_digitsOfAct_53 (by decide) ?_
          exact j_iret hK dX8_digitsOfAct_57 rfl (rt_I hA hf)
      · replace hf := if_2 hc hf
        refine j_iconst hK (2 : Int32) dX8_digitsOfAct_38 ic_2 ?_
        exact j_iret hK dX8_digitsOfAct_39 rfl (rt_I hA hf)
    · replace hf := if_2 hc hf
      refine j_iconst hK (1 : Int32) dX8_digitsOfAct_24 ic_1 ?_
      exact j_iret hK dX8_digitsOfAct_25 rfl (rt_I hA hf)
def f_X8_faultOfSeason_154 (x1 : Int32) (S : St) : Option (Int32 × St) := some (x1, S)
theorem t_X8_faultOfSeason_154 {K : CT} (hK : KO K cX8_faultOfSeason RX8 5 3 (some .int)) {r : Int32} {S' : St} (hA : zans K = (some (.int r), S')) {x1 : Int32} {S : St} (hf : f_X8_faultOfSeason_154 x1 S = some (r, S')) : J K 154 [(1, .int x1)] [] S := by
  unfold f_X8_faultOfSeason_154 at hf
  refine j_iload_n hK dX8_faultOfSeason_154 0 rfl rfl ?_
  refine j_goto hK 159 dX8_faultOfSeason_155 (by decide) ?_
  exact j_iret hK dX8_faultOfSeason_159 rfl (rt_I hA hf)
def f_X8_faultOfSeason_138 (x1 : Int32) (s0 : Int32) (S : St) : Option (Int32 × St) := (if s0 = 0 then (if (gI S 1 1) ≤ (60 : Int32) then some ((-1 : Int32), S) else f_X8_faultOfSeason_154 x1 S) else f_X8_faultOfSeason_154 x1 S)
theorem t_X8_faultOfSeason_138 {K : CT} (hK : KO K cX8_faultOfSeason RX8 5 3 (some .int)) {r : Int32} {S' : St} (hA : zans K = (some (.int r), S')) {x1 : Int32} {s0 : Int32} {S : St} (hf : f_X8_faultOfSeason_138 x1 s0 S = some (r, S')) : J K 138 [(0, .ref 1), (1, .int x1)] [.int s0] S := by
  unfold f_X8_faultOfSeason_138 at hf
  refine j_istore hK (L' := [(4, .int s0), (0, .ref 1), (1, .int x1)]) dX8_faultOfSeason_138 (by decide) rfl ?_
  refine j_iload hK dX8_faultOfSeason_140 0 rfl ?_
  refine j_if_ne hK 154 dX8_faultOfSeason_142 (by decide) (fun hc => ?_) (fun hc => ?_)
  · replace hf := if_2 hc hf
    refine j_sub [2] rfl ?_
    exact t_X8_faultOfSeason_154 hK hA  hf
  · replace hf := if_1 hc hf
    refine j_aload_n hK dX8_faultOfSeason_145 1 rfl rfl ?_
    refine j_getI hK fl_X8_15 dX8_faultOfSeason_146 zo_1 zf_8_1 ?_
    refine j_bipush hK (60 : Int32) dX8_faultOfSeason_149 bi_60 ?_
    refine j_icmp_le hK 158 dX8_faultOfSeason_151 (by decide) (fun hc => ?_) (fun hc => ?_)
    · replace hf := if_1 hc hf
      refine j_iconst hK (-1 : Int32) dX8_faultOfSeason_158 ic_m1 ?_
      exact j_iret hK dX8_faultOfSeason_159 rfl (rt_I hA hf)
    · replace hf := if_2 hc hf
      refine j_sub [2] rfl ?_
      exact t_X8_faultOfSeason_154 hK hA  hf
def f_X8_faultOfSeason_133 (x1 : Int32) (S : St) : Option (Int32 × St) := f_X8_faultOfSeason_138 x1 (1 : Int32) S
theorem t_X8_faultOfSeason_133 {K : CT} (hK : KO K cX8_faultOfSeason RX8 5 3 (some .int)) {r : Int32} {S' : St} (hA : zans K = (some (.int r), S')) {x1 : Int32} {S : St} (hf : f_X8_faultOfSeason_133 x1 S = some (r, S')) : J K 133 [(0, .ref 1), (1, .int x1)] [] S := by
  unfold f_X8_faultOfSeason_133 at hf
  refine j_iconst hK (1 : Int32) dX8_faultOfSeason_133 ic_1 ?_
  refine j_goto hK 138 dX8_faultOfSeason_134 (by decide) ?_
  exact t_X8_faultOfSeason_138 hK hA  hf
def f_X8_faultOfSeason_119 (x1 : Int32) (x2 : Int32) (x3 : Int32) (x4 : Int32) (k e : Int32 × Int32 × Int32 → St → Option (Int32 × St)) (S : St) : Option (Int32 × St) := k (x2, x3, (x4 + (1 : Int32))) S
theorem t_X8_faultOfSeason_119 {K : CT} (hK : KO K cX8_faultOfSeason RX8 5 3 (some .int)) {r : Int32} {S' : St} (hA : zans K = (some (.int r), S')) {x1 : Int32} {x2 : Int32} {x3 : Int32} {x4 : Int32} {k e : Int32 × Int32 × Int32 → St → Option (Int32 × St)} (hk : ∀ (v : Int32 × Int32 × Int32) (S : St), k v S = some (r, S') → J K 17 [(0, .ref 1), (1, .int x1), (2, .int v.1), (3, .int v.2.1), (4, .int v.2.2)] [] S) (he : ∀ (v : Int32 × Int32 × Int32) (S : St), e v S = some (r, S') → J K 125 [(0, .ref 1), (1, .int x1), (2, .int v.1), (3, .int v.2.1)] [] S) {S : St} (hf : f_X8_faultOfSeason_119 x1 x2 x3 x4 k e S = some (r, S')) : J K 119 [(0, .ref 1), (1, .int x1), (2, .int x2), (3, .int x3), (4, .int x4)] [] S := by
  unfold f_X8_faultOfSeason_119 at hf
  refine j_iinc hK (L' := [(4, .int (x4 + (1 : Int32))), (0, .ref 1), (1, .int x1), (2, .int x2), (3, .int x3)]) dX8_faultOfSeason_119 4 rfl (congrArg (fun y => x4 + y) ic_1) (by decide) rfl ?_
  refine j_goto hK 17 dX8_faultOfSeason_122 (by decide) ?_
  refine j_sub [1, 2, 3, 4, 0] rfl ?_
  exact hk _ _ hf
def f_X8_faultOfSeason_118 (x1 : Int32) (x2 : Int32) (x4 : Int32) (s0 : Int32) (k e : Int32 × Int32 × Int32 → St → Option (Int32 × St)) (S : St) : Option (Int32 × St) := f_X8_faultOfSeason_119 x1 x2 s0 x4 k e S
theorem t_X8_faultOfSeason_118 {K : CT} (hK : KO K cX8_faultOfSeason RX8 5 3 (some .int)) {r : Int32} {S' : St} (hA : zans K = (some (.int r), S')) {x1 : Int32} {x2 : Int32} {x4 : Int32} {s0 : Int32} {k e : Int32 × Int32 × Int32 → St → Option (Int32 × St)} (hk : ∀ (v : Int32 × Int32 × Int32) (S : St), k v S = some (r, S') → J K 17 [(0, .ref 1), (1, .int x1), (2, .int v.1), (3, .int v.2.1), (4, .int v.2.2)] [] S) (he : ∀ (v : Int32 × Int32 × Int32) (S : St), e v S = some (r, S') → J K 125 [(0, .ref 1), (1, .int x1), (2, .int v.1), (3, .int v.2.1)] [] S) {S : St} (hf : f_X8_faultOfSeason_118 x1 x2 x4 s0 k e S = some (r, S')) : J K 118 [(0, .ref 1), (1, .int x1), (2, .int x2), (4, .int x4)] [.int s0] S := by
  unfold f_X8_faultOfSeason_118 at hf
  refine j_istore_n hK (L' := [(3, .int s0), (0, .ref 1), (1, .int x1), (2, .int x2), (4, .int x4)]) dX8_faultOfSeason_118 rfl (by decide) rfl ?_
  refine j_sub [1, 2, 3, 0, 4] rfl ?_
  exact t_X8_faultOfSeason_119 hK hA hk he hf
def f_X8_faultOfSeason_82 (x1 : Int32) (x3 : Int32) (x4 : Int32) (k e : Int32 × Int32 × Int32 → St → Option (Int32 × St)) (S : St) : Option (Int32 × St) := bd (f_X8_digitsOfAct x4 S) (fun r1 S2 => (if r1 = 0 then some (x4, S2) else (if x3 = 0 then some (x4, S2) else bd (f_X8_within x4 (115 : Int32) (115 : Int32) S2) (fun r4 S5 => (if r4 = 0 then f_X8_faultOfSeason_118 x1 r1 x4 (-1 : Int32) k e S5 else f_X8_faultOfSeason_118 x1 r1 x4 (0 : Int32) k e S5)))))
theorem t_X8_faultOfSeason_82 {K : CT} (hK : KO K cX8_faultOfSeason RX8 5 3 (some .int)) {r : Int32} {S' : St} (hA : zans K = (some (.int r), S')) {x1 : Int32} {x3 : Int32} {x4 : Int32} {k e : Int32 × Int32 × Int32 → St → Option (Int32 × St)} (hk : ∀ (v : Int32 × Int32 × Int32) (S : St), k v S = some (r, S') → J K 17 [(0, .ref 1), (1, .int x1), (2, .int v.1), (3, .int v.2.1), (4, .int v.2.2)] [] S) (he : ∀ (v : Int32 × Int32 × Int32) (S : St), e v S = some (r, S') → J K 125 [(0, .ref 1), (1, .int x1), (2, .int v.1), (3, .int v.2.1)] [] S) {S : St} (hf : f_X8_faultOfSeason_82 x1 x3 x4 k e S = some (r, S')) : J K 82 [(0, .ref 1), (1, .int x1), (3, .int x3), (4, .int x4)] [] S := by
  unfold f_X8_faultOfSeason_82 at hf
  refine j_aload_n hK dX8_faultOfSeason_82 0 rfl rfl ?_
  refine j_iload hK dX8_faultOfSeason_83 3 rfl ?_
  obtain ⟨r1, S2, h3, hf⟩ := bd_J hf
  refine k_callVi hK (c_X8_digitsOfAct h3) dX8_faultOfSeason_85 zclX8 zo_1 ml_X8_40 mi_X8_digitsOfAct mx_X8_digitsOfAct in_X8 mc_X8_digitsOfAct hy_X8_digitsOfAct ⟨by decide, by decide⟩ rfl (Nat.le_of_ble_eq_true rfl) ?_
  refine j_istore_n hK (L' := [(2, .int r1), (0, .ref 1), (1, .int x1), (3, .int x3), (4, .int x4)]) dX8_faultOfSeason_88 rfl (by decide) rfl ?_
  refine j_iload_n hK dX8_faultOfSeason_89 0 rfl rfl ?_
  refine j_if_eq hK 97 dX8_faultOfSeason_90 (by decide) (fun hc => ?_) (fun hc => ?_)
  · replace hf := if_1 hc hf
    refine j_iload hK dX8_faultOfSeason_97 4 rfl ?_
    exact j_iret hK dX8_faultOfSeason_99 rfl (rt_I hA hf)
  · replace hf := if_2 hc hf
    refine j_iload_n hK dX8_faultOfSeason_93 3 rfl rfl ?_
    refine j_if_ne hK 100 dX8_faultOfSeason_94 (by decide) (fun hc => ?_) (fun hc => ?_)
    · replace hf := if_2 hc hf
      refine j_aload_n hK dX8_faultOfSeason_100 1 rfl rfl ?_
      refine j_iload hK dX8_faultOfSeason_101 4 rfl ?_
      refine j_bipush hK (115 : Int32) dX8_faultOfSeason_103 bi_115 ?_
      refine j_bipush hK (115 : Int32) dX8_faultOfSeason_105 bi_115 ?_
      obtain ⟨r4, S5, h6, hf⟩ := bd_J hf
      refine k_callVi hK (c_X8_within h6) dX8_faultOfSeason_107 zclX8 zo_1 ml_X8_19 mi_X8_within mx_X8_within in_X8 mc_X8_within hy_X8_within ⟨by decide, by decide⟩ rfl (Nat.le_of_ble_eq_true rfl) ?_
      refine j_if_eq hK 117 dX8_faultOfSeason_110 (by decide) (fun hc => ?_) (fun hc => ?_)
      · replace hf := if_1 hc hf
        refine j_iconst hK (-1 : Int32) dX8_faultOfSeason_117 ic_m1 ?_
        refine j_sub [1, 2, 0, 4] rfl ?_
        exact t_X8_faultOfSeason_118 hK hA hk he hf
      · replace hf := if_2 hc hf
        refine j_iconst hK (0 : Int32) dX8_faultOfSeason_113 ic_0 ?_
        refine j_goto hK 118 dX8_faultOfSeason_114 (by decide) ?_
        refine j_sub [1, 2, 0, 4] rfl ?_
        exact t_X8_faultOfSeason_118 hK hA hk he hf
    · replace hf := if_1 hc hf
      refine j_iload hK dX8_faultOfSeason_97 4 rfl ?_
      exact j_iret hK dX8_faultOfSeason_99 rfl (rt_I hA hf)
def f_X8_faultOfSeason_17b (x1 : Int32) (e : Int32 × Int32 × Int32 → St → Option (Int32 × St)) (k : Int32 × Int32 × Int32 → St → Option (Int32 × St)) (v : Int32 × Int32 × Int32) (S : St) : Option (Int32 × St) := (if x1 ≤ v.2.2 then e (v.1, v.2.1, v.2.2) S else (if v.1 ≤ 0 then (if v.2.1 = (-1 : Int32) then f_X8_faultOfSeason_82 x1 v.2.1 v.2.2 k e S else bd (f_X8_within v.2.2 (97 : Int32) (104 : Int32) S) (fun r7 S8 => (if r7 = 0 then f_X8_faultOfSeason_82 x1 v.2.1 v.2.2 k e S8 else (if v.2.1 = (6 : Int32) then some (v.2.2, S8) else f_X8_faultOfSeason_119 x1 v.1 (v.2.1 + (1 : Int32)) v.2.2 k e S8)))) else bd (f_X8_within v.2.2 (48 : Int32) (57 : Int32) S) (fun r10 S11 => (if r10 = 0 then some (v.2.2, S11) else f_X8_faultOfSeason_119 x1 (v.1 + (-1 : Int32)) v.2.1 v.2.2 k e S11))))
theorem t_X8_faultOfSeason_17 {K : CT} (hK : KO K cX8_faultOfSeason RX8 5 3 (some .int)) {r : Int32} {S' : St} (hA : zans K = (some (.int r), S')) {x1 : Int32} {e : Int32 × Int32 × Int32 → St → Option (Int32 × St)} (he : ∀ (v : Int32 × Int32 × Int32) (S : St), e v S = some (r, S') → J K 125 [(0, .ref 1), (1, .int x1), (2, .int v.1), (3, .int v.2.1)] [] S) : ∀ (n : Nat) (v : Int32 × Int32 × Int32) (S : St), lp (f_X8_faultOfSeason_17b x1 e) n v S = some (r, S') → J K 17 [(0, .ref 1), (1, .int x1), (2, .int v.1), (3, .int v.2.1), (4, .int v.2.2)] [] S :=
  lp_J (P := fun (v : Int32 × Int32 × Int32) (S : St) => J K 17 [(0, .ref 1), (1, .int x1), (2, .int v.1), (3, .int v.2.1), (4, .int v.2.2)] [] S) (fun k hk v S hf => by
    unfold f_X8_faultOfSeason_17b at hf
    refine j_iload hK dX8_faultOfSeason_17 4 rfl ?_
    refine j_iload_n hK dX8_faultOfSeason_19 1 rfl rfl ?_
    refine j_icmp_ge hK 125 dX8_faultOfSeason_20 (by decide) (fun hc => ?_) (fun hc => ?_)
    · replace hf := if_1 hc hf
      refine j_sub [0, 1, 2, 3] rfl ?_
      exact he _ _ hf
    · replace hf := if_2 hc hf
      refine j_iload_n hK dX8_faultOfSeason_23 2 rfl rfl ?_
      refine j_if_le hK 49 dX8_faultOfSeason_24 (by decide) (fun hc => ?_) (fun hc => ?_)
      · replace hf := if_1 hc hf
        refine j_iload_n hK dX8_faultOfSeason_49 3 rfl rfl ?_
        refine j_iconst hK (-1 : Int32) dX8_faultOfSeason_50 ic_m1 ?_
        refine j_icmp_eq hK 82 dX8_faultOfSeason_51 (by decide) (fun hc => ?_) (fun hc => ?_)
        · replace hf := if_1 hc hf
          refine j_sub [0, 1, 3, 4] rfl ?_
          exact t_X8_faultOfSeason_82 hK hA hk he hf
        · replace hf := if_2 hc hf
          refine j_aload_n hK dX8_faultOfSeason_54 0 rfl rfl ?_
          refine j_iload hK dX8_faultOfSeason_55 4 rfl ?_
          refine j_bipush hK (97 : Int32) dX8_faultOfSeason_57 bi_97 ?_
          refine j_bipush hK (104 : Int32) dX8_faultOfSeason_59 bi_104 ?_
          obtain ⟨r7, S8, h9, hf⟩ := bd_J hf
          refine k_callVi hK (c_X8_within h9) dX8_faultOfSeason_61 zclX8 zo_1 ml_X8_19 mi_X8_within mx_X8_within in_X8 mc_X8_within hy_X8_within ⟨by decide, by decide⟩ rfl (Nat.le_of_ble_eq_true rfl) ?_
          refine j_if_eq hK 82 dX8_faultOfSeason_64 (by decide) (fun hc => ?_) (fun hc => ?_)
          · replace hf := if_1 hc hf
            refine j_sub [0, 1, 3, 4] rfl ?_
            exact t_X8_faultOfSeason_82 hK hA hk he hf
          · replace hf := if_2 hc hf
            refine j_iload_n hK dX8_faultOfSeason_67 3 rfl rfl ?_
            refine j_bipush hK (6 : Int32) dX8_faultOfSeason_68 bi_6 ?_
            refine j_icmp_ne hK 76 dX8_faultOfSeason_70 (by decide) (fun hc => ?_) (fun hc => ?_)
            · replace hf := if_2 hc hf
              refine j_iinc hK (L' := [(3, .int (v.2.1 + (1 : Int32))), (0, .ref 1), (1, .int x1), (2, .int v.1), (4, .int v.2.2)]) dX8_faultOfSeason_76 3 rfl (congrArg (fun y => v.2.1 + y) ic_1) (by decide) rfl ?_
              refine j_goto hK 119 dX8_faultOfSeason_79 (by decide) ?_
              refine j_sub [1, 2, 3, 0, 4] rfl ?_
              exact t_X8_faultOfSeason_119 hK hA hk he hf
            · replace hf := if_1 hc hf
              refine j_iload hK dX8_faultOfSeason_73 4 rfl ?_
              exact j_iret hK dX8_faultOfSeason_75 rfl (rt_I hA hf)
      · replace hf := if_2 hc hf
        refine j_aload_n hK dX8_faultOfSeason_27 0 rfl rfl ?_
        refine j_iload hK dX8_faultOfSeason_28 4 rfl ?_
        refine j_bipush hK (48 : Int32) dX8_faultOfSeason_30 bi_48 ?_
        refine j_bipush hK (57 : Int32) dX8_faultOfSeason_32 bi_57 ?_
        obtain ⟨r10, S11, h12, hf⟩ := bd_J hf
        refine k_callVi hK (c_X8_within h12) dX8_faultOfSeason_34 zclX8 zo_1 ml_X8_19 mi_X8_within mx_X8_within in_X8 mc_X8_within hy_X8_within ⟨by decide, by decide⟩ rfl (Nat.le_of_ble_eq_true rfl) ?_
        refine j_if_ne hK 43 dX8_faultOfSeason_37 (by decide) (fun hc => ?_) (fun hc => ?_)
        · replace hf := if_2 hc hf
          refine j_iinc hK (L' := [(2, .int (v.1 + (-1 : Int32))), (0, .ref 1), (1, .int x1), (3, .int v.2.1), (4, .int v.2.2)]) dX8_faultOfSeason_43 2 rfl (congrArg (fun y => v.1 + y) ic_m1) (by decide) rfl ?_
          refine j_goto hK 119 dX8_faultOfSeason_46 (by decide) ?_
          refine j_sub [1, 2, 0, 3, 4] rfl ?_
          exact t_X8_faultOfSeason_119 hK hA hk he hf
        · replace hf := if_1 hc hf
          refine j_iload hK dX8_faultOfSeason_40 4 rfl ?_
          exact j_iret hK dX8_faultOfSeason_42 rfl (rt_I hA hf))
def f_X8_faultOfSeason (S : St) : Option (Int32 × St) := lt (mnI (gI S 1 1) (60 : Int32)) (fun y13 => lp (f_X8_faultOfSeason_17b y13 (fun v14 S15 => (if 0 < v14.1 then f_X8_faultOfSeason_133 y13 S15 else (if v14.2.1 = 0 then f_X8_faultOfSeason_133 y13 S15 else f_X8_faultOfSeason_138 y13 (0 : Int32) S15)))) FU ((0 : Int32), (-1 : Int32), (0 : Int32)) S)
theorem c_X8_faultOfSeason {S : St} {r : Int32} {S' : St} (hf : f_X8_faultOfSeason S = some (r, S')) : zM yX8_faultOfSeason cX8_faultOfSeason 5 3 (some .int) [.ref 1] S (some (.int r)) S' := by
  refine zM_of (zpl (by decide)) (Nat.le_of_ble_eq_true rfl) rfl (fun K hK hA => ?_)
  unfold f_X8_faultOfSeason at hf
  refine j_aload_n hK dX8_faultOfSeason_0 0 rfl rfl ?_
  refine j_getI hK fl_X8_15 dX8_faultOfSeason_1 zo_1 zf_8_1 ?_
  refine j_bipush hK (60 : Int32) dX8_faultOfSeason_4 bi_60 ?_
  refine j_min hK ml_X8_23 dX8_faultOfSeason_6 (by decide) (Nat.le_of_ble_eq_true rfl) ?_
  refine lt_I hf (fun y13 hf => ?_)
  refine j_istore_n hK (L' := [(1, .int y13), (0, .ref 1)]) dX8_faultOfSeason_9 rfl (by decide) rfl ?_
  refine j_iconst hK (0 : Int32) dX8_faultOfSeason_10 ic_0 ?_
  refine j_istore_n hK (L' := [(2, .int (0 : Int32)), (1, .int y13), (0, .ref 1)]) dX8_faultOfSeason_11 rfl (by decide) rfl ?_
  refine j_iconst hK (-1 : Int32) dX8_faultOfSeason_12 ic_m1 ?_
  refine j_pc (pc' := 13) rfl ?_
  refine j_istore_n hK (L' := [(3, .int (-1 : Int32)), (2, .int (0 : Int32)), (1, .int y13), (0, .ref 1)]) dX8_faultOfSeason_13 rfl (by decide) rfl ?_
  refine j_iconst hK (0 : Int32) dX8_faultOfSeason_14 ic_0 ?_
  refine j_istore hK (L' := [(4, .int (0 : Int32)), (3, .int (-1 : Int32)), (2, .int (0 : Int32)), (1, .int y13), (0, .ref 1)]) dX8_faultOfSeason_15 (by decide) rfl ?_
  refine j_sub [4, 3, 2, 1, 0] rfl ?_
  refine t_X8_faultOfSeason_17 hK hA  (fun v14 S15 hf => ?_) _ _ _ hf
  refine j_iload_n hK dX8_faultOfSeason_125 2 rfl rfl ?_
  refine j_if_gt hK 133 dX8_faultOfSeason_126 (by decide) (fun hc => ?_) (fun hc => ?_)
  · replace hf := if_1 hc hf
    refine j_sub [0, 1] rfl ?_
    exact t_X8_faultOfSeason_133 hK hA  hf
  · replace hf := if_2 hc hf
    refine j_iload_n hK dX8_faultOfSeason_129 3 rfl rfl ?_
    refine j_if_ne hK 137 dX8_faultOfSeason_130 (by decide) (fun hc => ?_) (fun hc => ?_)
    · replace hf := if_2 hc hf
      refine j_iconst hK (0 : Int32) dX8_faultOfSeason_137 ic_0 ?_
      refine j_sub [0, 1] rfl ?_
      exact t_X8_faultOfSeason_138 hK hA  hf
    · replace hf := if_1 hc hf
      refine j_sub [0, 1] rfl ?_
      exact t_X8_faultOfSeason_133 hK hA  hf
def f_X10_doAct (p1 : Int32) (S : St) : Option (Int32 × St) := if inb p1 80 then (if (gI S 2 p1.toNatClampNeg) = (109 : Int32) then bd (f_X8_digit (p1 + (1 : Int32)) S) (fun r3 S4 => bd (f_X8_digit (p1 + (2 : Int32)) S4) (fun r6 S7 => bd (f_X8_digit (p1 + (3 : Int32)) S7) (fun r9 S10 => bd (f_X10_digPassage r3 r6 r9 S10) (fun r12 S13 => some (r12, S13))))) else (if (gI S 2 p1.toNatClampNeg) = (110 : Int32) then bd (f_X8_digit (p1 + (1 : Int32)) S) (fun r16 S17 => bd (f_X10_passHours r16 S17) (fun r19 S20 => some (r19, S20))) else (if (gI S 2 p1.toNatClampNeg) = (120 : Int32) then bd (f_X8_digit (p1 + (1 : Int32)) S) (fun r23 S24 => bd (f_X10_turnPassage r23 S24) (fun r26 S27 => some (r26, S27))) else bd (f_X8_digit (p1 + (1 : Int32)) S) (fun r29 S30 => bd (f_X8_digit (p1 + (2 : Int32)) S30) (fun r32 S33 => bd (f_X2_goes r29 r32 S33) (fun r35 S36 => (if r35 = 0 then some ((-100 : Int32), S36) else bd (f_X10_wearByEcho S36) (fun r38 S39 => some (r38, S39))))))))) else none
theorem c_X10_doAct {p1 : Int32} {S : St} {r : Int32} {S' : St} (hf : f_X10_doAct p1 S = some (r, S')) : zM yX10_doAct cX10_doAct 2 5 (some .int) [.ref 0, .int p1] S (some (.int r)) S' := by
  refine zM_of (zpl (by decide)) (Nat.le_of_ble_eq_true rfl) rfl (fun K hK hA => ?_)
  unfold f_X10_doAct at hf
  refine j_aload_n hK dX10_doAct_0 0 rfl rfl ?_
  refine j_getR hK fl_X10_10 dX10_doAct_1 zo_0 zf_10_0 zr_0_0 ?_
  refine j_getR hK fl_X10_91 dX10_doAct_4 zo_1 zf_8_0 zr_1_0 ?_
  refine j_iload_n hK dX10_doAct_7 1 rfl rfl ?_
  obtain ⟨hi1, hf⟩ := gd hf
  refine k_cald hK dX10_doAct_8 zb_2 hi1 rfl ?_
  by_cases hs2 : (gI S 2 p1.toNatClampNeg) = (109 : Int32)
  · replace hf := if_1 hs2 hf
    refine j_lookC (off := 65) hK (109 : Int32) 74 dX10_doAct_9 hs2 (by decide) (by decide) (by decide) ?_
    refine j_aload_n hK dX10_doAct_74 0 rfl rfl ?_
    refine j_aload_n hK dX10_doAct_75 0 rfl rfl ?_
    refine j_getR hK fl_X10_10 dX10_doAct_76 zo_0 zf_10_0 zr_0_0 ?_
    refine j_iload_n hK dX10_doAct_79 1 rfl rfl ?_
    refine j_iconst hK (1 : Int32) dX10_doAct_80 ic_1 ?_
    refine j_iadd hK dX10_doAct_81 ?_
    obtain ⟨r3, S4, h5, hf⟩ := bd_J hf
    refine k_callVi hK (c_X8_digit h5) dX10_doAct_82 zclX8 zo_1 ml_X10_102 mi_X8_digit mx_X8_digit in_X8 mc_X8_digit hy_X8_digit ⟨by decide, by decide⟩ rfl (Nat.le_of_ble_eq_true rfl) ?_
    refine j_pc (pc' := 85) rfl ?_
    refine j_aload_n hK dX10_doAct_85 0 rfl rfl ?_
    refine j_getR hK fl_X10_10 dX10_doAct_86 zo_0 zf_10_0 zr_0_0 ?_
    refine j_iload_n hK dX10_doAct_89 1 rfl rfl ?_
    refine j_iconst hK (2 : Int32) dX10_doAct_90 ic_2 ?_
    refine j_iadd hK dX10_doAct_91 ?_
    obtain ⟨r6, S7, h8, hf⟩ := bd_J hf
    refine k_callVi hK (c_X8_digit h8) dX10_doAct_92 zclX8 zo_1 ml_X10_102 mi_X8_digit mx_X8_digit in_X8 mc_X8_digit hy_X8_digit ⟨by decide, by decide⟩ rfl (Nat.le_of_ble_eq_true rfl) ?_
    refine j_aload_n hK dX10_doAct_95 0 rfl rfl ?_
    refine j_getR hK fl_X10_10 dX10_doAct_96 zo_0 zf_10_0 zr_0_0 ?_
    refine j_pc (pc' := 99) rfl ?_
    refine j_iload_n hK dX10_doAct_99 1 rfl rfl ?_
    refine j_iconst hK (3 : Int32) dX10_doAct_100 ic_3 ?_
    refine j_iadd hK dX10_doAct_101 ?_
    obtain ⟨r9, S10, h11, hf⟩ := bd_J hf
    refine k_callVi hK (c_X8_digit h11) dX10_doAct_102 zclX8 zo_1 ml_X10_102 mi_X8_digit mx_X8_digit in_X8 mc_X8_digit hy_X8_digit ⟨by decide, by decide⟩ rfl (Nat.le_of_ble_eq_true rfl) ?_
    obtain ⟨r12, S13, h14, hf⟩ := bd_J hf
    refine k_callVi hK (c_X10_digPassage h14) dX10_doAct_105 zclX10 zo_0 ml_X10_212 mi_X10_digPassage mx_X10_digPassage in_X10 mc_X10_digPassage hy_X10_digPassage ⟨by decide, by decide⟩ rfl (Nat.le_of_ble_eq_true rfl) ?_
    exact j_iret hK dX10_doAct_108 rfl (rt_I hA hf)
  · replace hf := if_2 hs2 hf
    by_cases hs15 : (gI S 2 p1.toNatClampNeg) = (110 : Int32)
    · replace hf := if_1 hs15 hf
      refine j_lookC (off := 35) hK (110 : Int32) 44 dX10_doAct_9 hs15 (by decide) (by decide) (by decide) ?_
      refine j_aload_n hK dX10_doAct_44 0 rfl rfl ?_
      refine j_aload_n hK dX10_doAct_45 0 rfl rfl ?_
      refine j_getR hK fl_X10_10 dX10_doAct_46 zo_0 zf_10_0 zr_0_0 ?_
      refine j_iload_n hK dX10_doAct_49 1 rfl rfl ?_
      refine j_iconst hK (1 : Int32) dX10_doAct_50 ic_1 ?_
      refine j_iadd hK dX10_doAct_51 ?_
      obtain ⟨r16, S17, h18, hf⟩ := bd_J hf
      refine k_callVi hK (c_X8_digit h18) dX10_doAct_52 zclX8 zo_1 ml_X10_102 mi_X8_digit mx_X8_digit in_X8 mc_X8_digit hy_X8_digit ⟨by decide, by decide⟩ rfl (Nat.le_of_ble_eq_true rfl) ?_
      refine j_pc (pc' := 55) rfl ?_
      obtain ⟨r19, S20, h21, hf⟩ := bd_J hf
      refine k_callVi hK (c_X10_passHours h21) dX10_doAct_55 zclX10 zo_0 ml_X10_206 mi_X10_passHours mx_X10_passHours in_X10 mc_X10_passHours hy_X10_passHours ⟨by decide, by decide⟩ rfl (Nat.le_of_ble_eq_true rfl) ?_
      exact j_iret hK dX10_doAct_58 rfl (rt_I hA hf)
    · replace hf := if_2 hs15 hf
      by_cases hs22 : (gI S 2 p1.toNatClampNeg) = (120 : Int32)
      · replace hf := if_1 hs22 hf
        refine j_lookC (off := 50) hK (120 : Int32) 59 dX10_doAct_9 hs22 (by decide) (by decide) (by decide) ?_
        refine j_aload_n hK dX10_doAct_59 0 rfl rfl ?_
        refine j_aload_n hK dX10_doAct_60 0 rfl rfl ?_
        refine j_getR hK fl_X10_10 dX10_doAct_61 zo_0 zf_10_0 zr_0_0 ?_
        refine j_iload_n hK dX10_doAct_64 1 rfl rfl ?_
        refine j_iconst hK (1 : Int32) dX10_doAct_65 ic_1 ?_
        refine j_iadd hK dX10_doAct_66 ?_
        obtain ⟨r23, S24, h25, hf⟩ := bd_J hf
        refine k_callVi hK (c_X8_digit h25) dX10_doAct_67 zclX8 zo_1 ml_X10_102 mi_X8_digit mx_X8_digit in_X8 mc_X8_digit hy_X8_digit ⟨by decide, by decide⟩ rfl (Nat.le_of_ble_eq_true rfl) ?_
        refine j_pc (pc' := 70) rfl ?_
        obtain ⟨r26, S27, h28, hf⟩ := bd_J hf
        refine k_callVi hK (c_X10_turnPassage h28) dX10_doAct_70 zclX10 zo_0 ml_X10_209 mi_X10_turnPassage mx_X10_turnPassage in_X10 mc_X10_turnPassage hy_X10_turnPassage ⟨by decide, by decide⟩ rfl (Nat.le_of_ble_eq_true rfl) ?_
        exact j_iret hK dX10_doAct_73 rfl (rt_I hA hf)
      · replace hf := if_2 hs22 hf
        refine j_lookup (off := 100) hK 109 dX10_doAct_9 (by decide) ((lv_osw (k := (109 : Int32)) hs2 (by decide)).trans ((lv_osw (k := (110 : Int32)) hs15 (by decide)).trans ((lv_osw (k := (120 : Int32)) hs22 (by decide)).trans rfl))) (by decide) ?_
        refine j_aload_n hK dX10_doAct_109 0 rfl rfl ?_
        refine j_getR hK fl_X10_42 dX10_doAct_110 zo_0 zf_10_4 zr_0_4 ?_
        refine j_aload_n hK dX10_doAct_113 0 rfl rfl ?_
        refine j_getR hK fl_X10_10 dX10_doAct_114 zo_0 zf_10_0 zr_0_0 ?_
        refine j_iload_n hK dX10_doAct_117 1 rfl rfl ?_
        refine j_iconst hK (1 : Int32) dX10_doAct_118 ic_1 ?_
        refine j_iadd hK dX10_doAct_119 ?_
        refine j_pc (pc' := 120) rfl ?_
        obtain ⟨r29, S30, h31, hf⟩ := bd_J hf
        refine k_callVi hK (c_X8_digit h31) dX10_doAct_120 zclX8 zo_1 ml_X10_102 mi_X8_digit mx_X8_digit in_X8 mc_X8_digit hy_X8_digit ⟨by decide, by decide⟩ rfl (Nat.le_of_ble_eq_true rfl) ?_
        refine j_aload_n hK dX10_doAct_123 0 rfl rfl ?_
        refine j_getR hK fl_X10_10 dX10_doAct_124 zo_0 zf_10_0 zr_0_0 ?_
        refine j_iload_n hK dX10_doAct_127 1 rfl rfl ?_
        refine j_iconst hK (2 : Int32) dX10_doAct_128 ic_2 ?_
        refine j_iadd hK dX10_doAct_129 ?_
        obtain ⟨r32, S33, h34, hf⟩ := bd_J hf
        refine k_callVi hK (c_X8_digit h34) dX10_doAct_130 zclX8 zo_1 ml_X10_102 mi_X8_digit mx_X8_digit in_X8 mc_X8_digit hy_X8_digit ⟨by decide, by decide⟩ rfl (Nat.le_of_ble_eq_true rfl) ?_
        obtain ⟨r35, S36, h37, hf⟩ := bd_J hf
        refine k_callVi hK (c_X2_goes h37) dX10_doAct_133 zclX2 zo_92 ml_X10_236 mi_X2_goes mx_X2_goes in_X2 mc_X2_goes hy_X2_goes ⟨by decide, by decide⟩ rfl (Nat.le_of_ble_eq_true rfl) ?_
        refine j_pc (pc' := 136) rfl ?_
        refine j_if_eq hK 146 dX10_doAct_136 (by decide) (fun hc => ?_) (fun hc => ?_)
        · replace hf := if_1 hc hf
          refine j_bipush hK (-100 : Int32) dX10_doAct_146 bi_m100 ?_
          exact j_iret hK dX10_doAct_148 rfl (rt_I hA hf)
        · replace hf := if_2 hc hf
          refine j_aload_n hK dX10_doAct_139 0 rfl rfl ?_
          obtain ⟨r38, S39, h40, hf⟩ := bd_J hf
          refine k_callVi hK (c_X10_wearByEcho h40) dX10_doAct_140 zclX10 zo_0 ml_X10_199 mi_X10_wearByEcho mx_X10_wearByEcho in_X10 mc_X10_wearByEcho hy_X10_wearByEcho ⟨by decide, by decide⟩ rfl (Nat.le_of_ble_eq_true rfl) ?_
          refine j_goto hK 148 dX10_doAct_143 (by decide) ?_
          exact j_iret hK dX10_doAct_148 rfl (rt_I hA hf)
def f_X8_signsOfAct_29 (x2 : Int32) (s0 : Int32) (S : St) : Option (Int32 × St) := some ((((1 : Int32) + x2) + s0), S)
theorem t_X8_signsOfAct_29 {K : CT} (hK : KO K cX8_signsOfAct RX8 4 3 (some .int)) {r : Int32} {S' : St} (hA : zans K = (some (.int r), S')) {x2 : Int32} {s0 : Int32} {S : St} (hf : f_X8_signsOfAct_29 x2 s0 S = some (r, S')) : J K 29 [(2, .int x2)] [.int s0] S := by
  unfold f_X8_signsOfAct_29 at hf
  refine j_istore_n hK (L' := [(3, .int s0), (2, .int x2)]) dX8_signsOfAct_29 rfl (by decide) rfl ?_
  refine j_iconst hK (1 : Int32) dX8_signsOfAct_30 ic_1 ?_
  refine j_iload_n hK dX8_signsOfAct_31 1 rfl rfl ?_
  refine j_iadd hK dX8_signsOfAct_32 ?_
  refine j_iload_n hK dX8_signsOfAct_33 0 rfl rfl ?_
  refine j_iadd hK dX8_signsOfAct_34 ?_
  exact j_iret hK dX8_signsOfAct_35 rfl (rt_I hA hf)
def f_X8_signsOfAct (p1 : Int32) (S : St) : Option (Int32 × St) := bd (f_X8_digitsOfAct p1 S) (fun r1 S2 => bd (f_X8_within p1 (115 : Int32) (115 : Int32) S2) (fun r4 S5 => (if r4 = 0 then f_X8_signsOfAct_29 r1 (0 : Int32) S5 else bd (f_X8_lettersFrom (p1 + (3 : Int32)) S5) (fun r7 S8 => f_X8_signsOfAct_29 r1 r7 S8))))
theorem c_X8_signsOfAct {p1 : Int32} {S : St} {r : Int32} {S' : St} (hf : f_X8_signsOfAct p1 S = some (r, S')) : zM yX8_signsOfAct cX8_signsOfAct 4 3 (some .int) [.ref 1, .int p1] S (some (.int r)) S' := by
  refine zM_of (zpl (by decide)) (Nat.le_of_ble_eq_true rfl) rfl (fun K hK hA => ?_)
  unfold f_X8_signsOfAct at hf
  refine j_aload_n hK dX8_signsOfAct_0 0 rfl rfl ?_
  refine j_iload_n hK dX8_signsOfAct_1 1 rfl rfl ?_
  obtain ⟨r1, S2, h3, hf⟩ := bd_J hf
  refine k_callVi hK (c_X8_digitsOfAct h3) dX8_signsOfAct_2 zclX8 zo_1 ml_X8_40 mi_X8_digitsOfAct mx_X8_digitsOfAct in_X8 mc_X8_digitsOfAct hy_X8_digitsOfAct ⟨by decide, by decide⟩ rfl (Nat.le_of_ble_eq_true rfl) ?_
  refine j_istore_n hK (L' := [(2, .int r1), (0, .ref 1), (1, .int p1)]) dX8_signsOfAct_5 rfl (by decide) rfl ?_
  refine j_aload_n hK dX8_signsOfAct_6 1 rfl rfl ?_
  refine j_iload_n hK dX8_signsOfAct_7 2 rfl rfl ?_
  refine j_bipush hK (115 : Int32) dX8_signsOfAct_8 bi_115 ?_
  refine j_bipush hK (115 : Int32) dX8_signsOfAct_10 bi_115 ?_
  refine j_pc (pc' := 12) rfl ?_
  obtain ⟨r4, S5, h6, hf⟩ := bd_J hf
  refine k_callVi hK (c_X8_within h6) dX8_signsOfAct_12 zclX8 zo_1 ml_X8_19 mi_X8_within mx_X8_within in_X8 mc_X8_within hy_X8_within ⟨by decide, by decide⟩ rfl (Nat.le_of_ble_eq_true rfl) ?_
  refine j_if_eq hK 28 dX8_signsOfAct_15 (by decide) (fun hc => ?_) (fun hc => ?_)
  · replace hf := if_1 hc hf
    refine j_iconst hK (0 : Int32) dX8_signsOfAct_28 ic_0 ?_
    refine j_sub [0] rfl ?_
    exact t_X8_signsOfAct_29 hK hA  hf
  · replace hf := if_2 hc hf
    refine j_aload_n hK dX8_signsOfAct_18 1 rfl rfl ?_
    refine j_iload_n hK dX8_signsOfAct_19 2 rfl rfl ?_
    refine j_iconst hK (3 : Int32) dX8_signsOfAct_20 ic_3 ?_
    refine j_iadd hK dX8_signsOfAct_21 ?_
    obtain ⟨r7, S8, h9, hf⟩ := bd_J hf
    refine k_callVi hK (c_X8_lettersFrom h9) dX8_signsOfAct_22 zclX8 zo_1 ml_X8_37 mi_X8_lettersFrom mx_X8_lettersFrom in_X8 mc_X8_lettersFrom hy_X8_lettersFrom ⟨by decide, by decide⟩ rfl (Nat.le_of_ble_eq_true rfl) ?_
    refine j_goto hK 29 dX8_signsOfAct_25 (by decide) ?_
    refine j_sub [0] rfl ?_
    exact t_X8_signsOfAct_29 hK hA  hf
def f_X10_season_154 (x2 : Int32) (s1 : Int64) (S : St) : Option (Int32 × St) := bd (f_X5_put s1 S) (fun r1 S2 => bd (f_X5_put (gI S2 6 5).toInt64 S2) (fun r4 S5 => some (x2, S5)))
theorem t_X10_season_154 {K : CT} (hK : KO K cX10_season RX10 5 6 (some .int)) {r : Int32} {S' : St} (hA : zans K = (some (.int r), S')) {x2 : Int32} {s1 : Int64} {S : St} (hf : f_X10_season_154 x2 s1 S = some (r, S')) : J K 154 [(0, .ref 0), (2, .int x2)] [.long s1, .ref 10] S := by
  unfold f_X10_season_154 at hf
  obtain ⟨r1, S2, h3, hf⟩ := bd_J hf
  refine k_callVv hK (c_X5_put h3) dX10_season_154 zclX5 zo_10 ml_X10_191 mi_X5_put mx_X5_put in_X5 mc_X5_put hy_X5_put ⟨by decide, by decide⟩ rfl (Nat.le_of_ble_eq_true rfl) ?_
  refine j_aload_n hK dX10_season_157 0 rfl rfl ?_
  refine j_getR hK fl_X10_26 dX10_season_158 zo_0 zf_10_2 zr_0_2 ?_
  refine j_aload_n hK dX10_season_161 0 rfl rfl ?_
  refine j_getR hK fl_X10_19 dX10_season_162 zo_0 zf_10_1 zr_0_1 ?_
  refine j_getR hK fl_X10_129 dX10_season_165 zo_3 zf_0_3 zr_3_3 ?_
  refine j_getI hK fl_X10_225 dX10_season_168 zo_6 zf_7_5 ?_
  refine j_i2l hK dX10_season_171 ?_
  refine j_pc (pc' := 172) rfl ?_
  obtain ⟨r4, S5, h6, hf⟩ := bd_J hf
  refine k_callVv hK (c_X5_put h6) dX10_season_172 zclX5 zo_10 ml_X10_191 mi_X5_put mx_X5_put in_X5 mc_X5_put hy_X5_put ⟨by decide, by decide⟩ rfl (Nat.le_of_ble_eq_true rfl) ?_
  refine j_iload_n hK dX10_season_175 1 rfl rfl ?_
  exact j_iret hK dX10_season_176 rfl (rt_I hA hf)
def f_X10_season_131 (x2 : Int32) (x3 : Int32) (s1 : Int32) (S : St) : Option (Int32 × St) := bd (f_X4_settle s1 S) (fun r7 S8 => bd (f_X5_begin S8) (fun r10 S11 => (if x3 = 0 then f_X10_season_154 x2 (0 : Int64) S11 else f_X10_season_154 x2 (1 : Int64) S11)))
theorem t_X10_season_131 {K : CT} (hK : KO K cX10_season RX10 5 6 (some .int)) {r : Int32} {S' : St} (hA : zans K = (some (.int r), S')) {x2 : Int32} {x3 : Int32} {s1 : Int32} {S : St} (hf : f_X10_season_131 x2 x3 s1 S = some (r, S')) : J K 131 [(0, .ref 0), (2, .int x2), (3, .int x3)] [.int s1, .ref 12] S := by
  unfold f_X10_season_131 at hf
  obtain ⟨r7, S8, h9, hf⟩ := bd_J hf
  refine k_callVv hK (c_X4_settle h9) dX10_season_131 zclX4 zo_12 ml_X10_202 mi_X4_settle mx_X4_settle in_X4 mc_X4_settle hy_X4_settle ⟨by decide, by decide⟩ rfl (Nat.le_of_ble_eq_true rfl) ?_
  refine j_aload_n hK dX10_season_134 0 rfl rfl ?_
  refine j_getR hK fl_X10_26 dX10_season_135 zo_0 zf_10_2 zr_0_2 ?_
  obtain ⟨r10, S11, h12, hf⟩ := bd_J hf
  refine k_callVv hK (c_X5_begin h12) dX10_season_138 zclX5 zo_10 ml_X10_185 mi_X5_begin mx_X5_begin in_X5 mc_X5_begin hy_X5_begin ⟨by decide, by decide⟩ rfl (Nat.le_of_ble_eq_true rfl) ?_
  refine j_aload_n hK dX10_season_141 0 rfl rfl ?_
  refine j_getR hK fl_X10_26 dX10_season_142 zo_0 zf_10_2 zr_0_2 ?_
  refine j_iload_n hK dX10_season_145 2 rfl rfl ?_
  refine j_if_eq hK 153 dX10_season_146 (by decide) (fun hc => ?_) (fun hc => ?_)
  · replace hf := if_1 hc hf
    refine j_lconst hK (0 : Int64) dX10_season_153 lc_0 ?_
    refine j_sub [0, 1] rfl ?_
    exact t_X10_season_154 hK hA  hf
  · replace hf := if_2 hc hf
    refine j_lconst hK (1 : Int64) dX10_season_149 lc_1 ?_
    refine j_goto hK 154 dX10_season_150 (by decide) ?_
    refine j_sub [0, 1] rfl ?_
    exact t_X10_season_154 hK hA  hf
def f_X10_season_87 (x3 : Int32) (x4 : Int32) (s0 : Int32) (s1 : Int32) (k e : Int32 × Int32 × Int32 → St → Option (Int32 × St)) (S : St) : Option (Int32 × St) := lt (s0 + s1) (fun y13 => bd (f_X8_signsOfAct x4 S) (fun r14 S15 => lt (x4 + (mxI (1 : Int32) r14)) (fun y17 => k (y13, x3, y17) S15)))
theorem t_X10_season_87 {K : CT} (hK : KO K cX10_season RX10 5 6 (some .int)) {r : Int32} {S' : St} (hA : zans K = (some (.int r), S')) {x3 : Int32} {x4 : Int32} {s0 : Int32} {s1 : Int32} {k e : Int32 × Int32 × Int32 → St → Option (Int32 × St)} (hk : ∀ (v : Int32 × Int32 × Int32) (S : St), k v S = some (r, S') → J K 46 [(0, .ref 0), (2, .int v.1), (3, .int v.2.1), (4, .int v.2.2)] [] S) (he : ∀ (v : Int32 × Int32 × Int32) (S : St), e v S = some (r, S') → J K 110 [(0, .ref 0), (2, .int v.1), (3, .int v.2.1)] [] S) {S : St} (hf : f_X10_season_87 x3 x4 s0 s1 k e S = some (r, S')) : J K 87 [(0, .ref 0), (3, .int x3), (4, .int x4)] [.int s1, .int s0] S := by
  unfold f_X10_season_87 at hf
  refine j_iadd hK dX10_season_87 ?_
  refine lt_I hf (fun y13 hf => ?_)
  refine j_istore_n hK (L' := [(2, .int y13), (0, .ref 0), (3, .int x3), (4, .int x4)]) dX10_season_88 rfl (by decide) rfl ?_
  refine j_iload hK dX10_season_89 3 rfl ?_
  refine j_iconst hK (1 : Int32) dX10_season_91 ic_1 ?_
  refine j_aload_n hK dX10_season_92 1 rfl rfl ?_
  refine j_getR hK fl_X10_10 dX10_season_93 zo_0 zf_10_0 zr_0_0 ?_
  refine j_iload hK dX10_season_96 3 rfl ?_
  obtain ⟨r14, S15, h16, hf⟩ := bd_J hf
  refine k_callVi hK (c_X8_signsOfAct h16) dX10_season_98 zclX8 zo_1 ml_X10_222 mi_X8_signsOfAct mx_X8_signsOfAct in_X8 mc_X8_signsOfAct hy_X8_signsOfAct ⟨by decide, by decide⟩ rfl (Nat.le_of_ble_eq_true rfl) ?_
  refine j_pc (pc' := 101) rfl ?_
  refine j_max hK ml_X10_175 dX10_season_101 (by decide) (Nat.le_of_ble_eq_true rfl) ?_
  refine j_iadd hK dX10_season_104 ?_
  refine lt_I hf (fun y17 hf => ?_)
  refine j_istore hK (L' := [(4, .int y17), (2, .int y13), (0, .ref 0), (3, .int x3)]) dX10_season_105 (by decide) rfl ?_
  refine j_goto hK 46 dX10_season_107 (by decide) ?_
  refine j_sub [2, 1, 3, 0] rfl ?_
  exact hk _ _ hf
def f_X10_season_76 (x2 : Int32) (x4 : Int32) (s0 : Int32) (k e : Int32 × Int32 × Int32 → St → Option (Int32 × St)) (S : St) : Option (Int32 × St) := (if s0 = 0 then f_X10_season_87 s0 x4 x2 (1 : Int32) k e S else f_X10_season_87 s0 x4 x2 (0 : Int32) k e S)
theorem t_X10_season_76 {K : CT} (hK : KO K cX10_season RX10 5 6 (some .int)) {r : Int32} {S' : St} (hA : zans K = (some (.int r), S')) {x2 : Int32} {x4 : Int32} {s0 : Int32} {k e : Int32 × Int32 × Int32 → St → Option (Int32 × St)} (hk : ∀ (v : Int32 × Int32 × Int32) (S : St), k v S = some (r, S') → J K 46 [(0, .ref 0), (2, .int v.1), (3, .int v.2.1), (4, .int v.2.2)] [] S) (he : ∀ (v : Int32 × Int32 × Int32) (S : St), e v S = some (r, S') → J K 110 [(0, .ref 0), (2, .int v.1), (3, .int v.2.1)] [] S) {S : St} (hf : f_X10_season_76 x2 x4 s0 k e S = some (r, S')) : J K 76 [(0, .ref 0), (2, .int x2), (4, .int x4)] [.int s0] S := by
  unfold f_X10_season_76 at hf
  refine j_istore_n hK (L' := [(3, .int s0), (0, .ref 0), (2, .int x2), (4, .int x4)]) dX10_season_76 rfl (by decide) rfl ?_
  refine j_iload_n hK dX10_season_77 2 rfl rfl ?_
  refine j_iload_n hK dX10_season_78 0 rfl rfl ?_
  refine j_if_eq hK 86 dX10_season_79 (by decide) (fun hc => ?_) (fun hc => ?_)
  · replace hf := if_1 hc hf
    refine j_iconst hK (1 : Int32) dX10_season_86 ic_1 ?_
    refine j_sub [1, 0, 3] rfl ?_
    exact t_X10_season_87 hK hA hk he hf
  · replace hf := if_2 hc hf
    refine j_iconst hK (0 : Int32) dX10_season_82 ic_0 ?_
    refine j_goto hK 87 dX10_season_83 (by decide) ?_
    refine j_sub [1, 0, 3] rfl ?_
    exact t_X10_season_87 hK hA hk he hf
def f_X10_season_46b (e : Int32 × Int32 × Int32 → St → Option (Int32 × St)) (k : Int32 × Int32 × Int32 → St → Option (Int32 × St)) (v : Int32 × Int32 × Int32) (S : St) : Option (Int32 × St) := (if (gI S 1 1) ≤ v.2.2 then e (v.1, v.2.1, v.2.2) S else (if v.2.1 = 0 then bd (f_X10_doAct v.2.2 S) (fun r18 S19 => (if 0 ≤ r18 then f_X10_season_76 v.1 v.2.2 (0 : Int32) k e S19 else f_X10_season_76 v.1 v.2.2 (1 : Int32) k e S19)) else e (v.1, v.2.1, v.2.2) S))
theorem t_X10_season_46 {K : CT} (hK : KO K cX10_season RX10 5 6 (some .int)) {r : Int32} {S' : St} (hA : zans K = (some (.int r), S')) {e : Int32 × Int32 × Int32 → St → Option (Int32 × St)} (he : ∀ (v : Int32 × Int32 × Int32) (S : St), e v S = some (r, S') → J K 110 [(0, .ref 0), (2, .int v.1), (3, .int v.2.1)] [] S) : ∀ (n : Nat) (v : Int32 × Int32 × Int32) (S : St), lp (f_X10_season_46b  e) n v S = some (r, S') → J K 46 [(0, .ref 0), (2, .int v.1), (3, .int v.2.1), (4, .int v.2.2)] [] S :=
  lp_J (P := fun (v : Int32 × Int32 × Int32) (S : St) => J K 46 [(0, .ref 0), (2, .int v.1), (3, .int v.2.1), (4, .int v.2.2)] [] S) (fun k hk v S hf => by
    unfold f_X10_season_46b at hf
    refine j_iload hK dX10_season_46 3 rfl ?_
    refine j_aload_n hK dX10_season_48 0 rfl rfl ?_
    refine j_getR hK fl_X10_10 dX10_season_49 zo_0 zf_10_0 zr_0_0 ?_
    refine j_getI hK fl_X10_88 dX10_season_52 zo_1 zf_8_1 ?_
    refine j_icmp_ge hK 110 dX10_season_55 (by decide) (fun hc => ?_) (fun hc => ?_)
    · replace hf := if_1 hc hf
      refine j_sub [0, 1, 2] rfl ?_
      exact he _ _ hf
    · replace hf := if_2 hc hf
      refine j_iload_n hK dX10_season_58 2 rfl rfl ?_
      refine j_if_ne hK 110 dX10_season_59 (by decide) (fun hc => ?_) (fun hc => ?_)
      · replace hf := if_2 hc hf
        refine j_sub [0, 1, 2] rfl ?_
        exact he _ _ hf
      · replace hf := if_1 hc hf
        refine j_aload_n hK dX10_season_62 0 rfl rfl ?_
        refine j_iload hK dX10_season_63 3 rfl ?_
        obtain ⟨r18, S19, h20, hf⟩ := bd_J hf
        refine k_callVi hK (c_X10_doAct h20) dX10_season_65 zclX10 zo_0 ml_X10_219 mi_X10_doAct mx_X10_doAct in_X10 mc_X10_doAct hy_X10_doAct ⟨by decide, by decide⟩ rfl (Nat.le_of_ble_eq_true rfl) ?_
        refine j_if_ge hK 75 dX10_season_68 (by decide) (fun hc => ?_) (fun hc => ?_)
        · replace hf := if_1 hc hf
          refine j_iconst hK (0 : Int32) dX10_season_75 ic_0 ?_
          refine j_sub [0, 1, 3] rfl ?_
          exact t_X10_season_76 hK hA hk he hf
        · replace hf := if_2 hc hf
          refine j_iconst hK (1 : Int32) dX10_season_71 ic_1 ?_
          refine j_goto hK 76 dX10_season_72 (by decide) ?_
          refine j_sub [0, 1, 3] rfl ?_
          exact t_X10_season_76 hK hA hk he hf)
def f_X10_season (S : St) : Option (Int32 × St) := bd (f_X8_faultOfSeason S) (fun r21 S22 => (if r21 = (-1 : Int32) then bd (f_X4_mark S22) (fun r24 S25 => lp (f_X10_season_46b  (fun v27 S28 => lt (sI S28 1 1 (0 : Int32)) (fun S29 => (if v27.1 ≤ 0 then f_X10_season_131 v27.1 v27.2.1 (0 : Int32) S29 else f_X10_season_131 v27.1 v27.2.1 (1 : Int32) S29)))) FU ((0 : Int32), (0 : Int32), (0 : Int32)) S25) else lt (sI S22 1 1 (0 : Int32)) (fun S30 => some (((-1 : Int32) - r21), S30))))
theorem c_X10_season {S : St} {r : Int32} {S' : St} (hf : f_X10_season S = some (r, S')) : zM yX10_season cX10_season 5 6 (some .int) [.ref 0] S (some (.int r)) S' := by
  refine zM_of (zpl (by decide)) (Nat.le_of_ble_eq_true rfl) rfl (fun K hK hA => ?_)
  unfold f_X10_season at hf
  refine j_aload_n hK dX10_season_0 0 rfl rfl ?_
  refine j_getR hK fl_X10_10 dX10_season_1 zo_0 zf_10_0 zr_0_0 ?_
  obtain ⟨r21, S22, h23, hf⟩ := bd_J hf
  refine k_callVi hK (c_X8_faultOfSeason h23) dX10_season_4 zclX8 zo_1 ml_X10_216 mi_X8_faultOfSeason mx_X8_faultOfSeason in_X8 mc_X8_faultOfSeason hy_X8_faultOfSeason ⟨by decide, by decide⟩ rfl (Nat.le_of_ble_eq_true rfl) ?_
  refine j_istore_n hK (L' := [(1, .int r21), (0, .ref 0)]) dX10_season_7 rfl (by decide) rfl ?_
  refine j_iload_n hK dX10_season_8 0 rfl rfl ?_
  refine j_iconst hK (-1 : Int32) dX10_season_9 ic_m1 ?_
  refine j_icmp_eq hK 25 dX10_season_10 (by decide) (fun hc => ?_) (fun hc => ?_)
  · replace hf := if_1 hc hf
    refine j_aload_n hK dX10_season_25 1 rfl rfl ?_
    refine j_getR hK fl_X10_33 dX10_season_26 zo_0 zf_10_3 zr_0_3 ?_
    refine j_aload_n hK dX10_season_29 1 rfl rfl ?_
    refine j_getR hK fl_X10_19 dX10_season_30 zo_0 zf_10_1 zr_0_1 ?_
    refine j_getR hK fl_X10_129 dX10_season_33 zo_3 zf_0_3 zr_3_3 ?_
    obtain ⟨r24, S25, h26, hf⟩ := bd_J hf
    refine k_callVv hK (c_X4_mark h26) dX10_season_36 zclX4 zo_12 ml_X10_181 mi_X4_mark mx_X4_mark in_X4 mc_X4_mark hy_X4_mark ⟨by decide, by decide⟩ rfl (Nat.le_of_ble_eq_true rfl) ?_
    refine j_iconst hK (0 : Int32) dX10_season_39 ic_0 ?_
    refine j_pc (pc' := 40) rfl ?_
    refine j_istore_n hK (L' := [(2, .int (0 : Int32)), (1, .int r21), (0, .ref 0)]) dX10_season_40 rfl (by decide) rfl ?_
    refine j_iconst hK (0 : Int32) dX10_season_41 ic_0 ?_
    refine j_istore_n hK (L' := [(3, .int (0 : Int32)), (2, .int (0 : Int32)), (1, .int r21), (0, .ref 0)]) dX10_season_42 rfl (by decide) rfl ?_
    refine j_iconst hK (0 : Int32) dX10_season_43 ic_0 ?_
    refine j_istore hK (L' := [(4, .int (0 : Int32)), (3, .int (0 : Int32)), (2, .int (0 : Int32)), (1, .int r21), (0, .ref 0)]) dX10_season_44 (by decide) rfl ?_
    refine j_sub [4, 2, 1, 0] rfl ?_
    refine t_X10_season_46 hK hA  (fun v27 S28 hf => ?_) _ _ _ hf
    refine j_aload_n hK dX10_season_110 0 rfl rfl ?_
    refine j_getR hK fl_X10_10 dX10_season_111 zo_0 zf_10_0 zr_0_0 ?_
    refine j_iconst hK (0 : Int32) dX10_season_114 ic_0 ?_
    refine j_putI hK fl_X10_88 dX10_season_115 zo_1 zf_8_1 ?_
    refine lt_S hf (fun S29 hf => ?_)
    refine j_aload_n hK dX10_season_118 0 rfl rfl ?_
    refine j_getR hK fl_X10_33 dX10_season_119 zo_0 zf_10_3 zr_0_3 ?_
    refine j_iload_n hK dX10_season_122 1 rfl rfl ?_
    refine j_pc (pc' := 123) rfl ?_
    refine j_if_le hK 130 dX10_season_123 (by decide) (fun hc => ?_) (fun hc => ?_)
    · replace hf := if_1 hc hf
      refine j_iconst hK (0 : Int32) dX10_season_130 ic_0 ?_
      exact t_X10_season_131 hK hA  hf
    · replace hf := if_2 hc hf
      refine j_iconst hK (1 : Int32) dX10_season_126 ic_1 ?_
      refine j_goto hK 131 dX10_season_127 (by decide) ?_
      exact t_X10_season_131 hK hA  hf
  · replace hf := if_2 hc hf
    refine j_aload_n hK dX10_season_13 1 rfl rfl ?_
    refine j_getR hK fl_X10_10 dX10_season_14 zo_0 zf_10_0 zr_0_0 ?_
    refine j_iconst hK (0 : Int32) dX10_season_17 ic_0 ?_
    refine j_putI hK fl_X10_88 dX10_season_18 zo_1 zf_8_1 ?_
    refine lt_S hf (fun S30 hf => ?_)
    refine j_iconst hK (-1 : Int32) dX10_season_21 ic_m1 ?_
    refine j_iload_n hK dX10_season_22 0 rfl rfl ?_
    refine j_isub hK dX10_season_23 ?_
    refine j_pc (pc' := 24) rfl ?_
    exact j_iret hK dX10_season_24 rfl (rt_I hA hf)
def f_X4_latest (S : St) : Option (Nat × St) := lt (sI S 12 2 (mxI (0 : Int32) ((gI S 12 2) - (1 : Int32)))) (fun S1 => bd (f_X4_marked S1) (fun r2 S3 => if isState r2 then some (r2, S3) else none))
theorem c_X4_latest {S : St} {r : Nat} {S' : St} (hf : f_X4_latest S = some (r, S')) : zM yX4_latest cX4_latest 1 2 (some (.object "CaveAdvice$State")) [.ref 12] S (some (.ref r)) S' := by
  refine zM_of (zpl (by decide)) (Nat.le_of_ble_eq_true rfl) rfl (fun K hK hA => ?_)
  unfold f_X4_latest at hf
  refine j_aload_n hK dX4_latest_0 0 rfl rfl ?_
  refine j_iconst hK (0 : Int32) dX4_latest_1 ic_0 ?_
  refine j_aload_n hK dX4_latest_2 0 rfl rfl ?_
  refine j_getI hK fl_X4_20 dX4_latest_3 zo_12 zf_4_2 ?_
  refine j_iconst hK (1 : Int32) dX4_latest_6 ic_1 ?_
  refine j_isub hK dX4_latest_7 ?_
  refine j_max hK ml_X4_38 dX4_latest_8 (by decide) (Nat.le_of_ble_eq_true rfl) ?_
  refine j_putI hK fl_X4_20 dX4_latest_11 zo_12 zf_4_2 ?_
  refine lt_S hf (fun S1 hf => ?_)
  refine j_pc (pc' := 14) rfl ?_
  refine j_aload_n hK dX4_latest_14 0 rfl rfl ?_
  obtain ⟨r2, S3, h4, hf⟩ := bd_J hf
  obtain ⟨hq5, hf⟩ := gd hf
  refine k_callVr hK (c_X4_marked h4) dX4_latest_15 zclX4 zo_12 ml_X4_30 mi_X4_marked mx_X4_marked in_X4 mc_X4_marked hy_X4_marked ⟨by decide, by decide⟩ rfl (Nat.le_of_ble_eq_true rfl) ?_
  exact j_aret hK dX4_latest_18 rfl (rt_R hA hf)
def f_X10_undo (S : St) : Option (Int32 × St) := (if (gI S 12 2) = 0 then some ((-1 : Int32), S) else bd (f_X4_latest S) (fun r1 S2 => if isState r1 then bd (f_X7_take 6 r1 S2) (fun r5 S6 => some ((gI S6 12 2), S6)) else none))
theorem c_X10_undo {S : St} {r : Int32} {S' : St} (hf : f_X10_undo S = some (r, S')) : zM yX10_undo cX10_undo 1 3 (some .int) [.ref 0] S (some (.int r)) S' := by
  refine zM_of (zpl (by decide)) (Nat.le_of_ble_eq_true rfl) rfl (fun K hK hA => ?_)
  unfold f_X10_undo at hf
  refine j_aload_n hK dX10_undo_0 0 rfl rfl ?_
  refine j_getR hK fl_X10_33 dX10_undo_1 zo_0 zf_10_3 zr_0_3 ?_
  refine j_getI hK fl_X10_228 dX10_undo_4 zo_12 zf_4_2 ?_
  refine j_if_ne hK 12 dX10_undo_7 (by decide) (fun hc => ?_) (fun hc => ?_)
  · replace hf := if_2 hc hf
    refine j_aload_n hK dX10_undo_12 0 rfl rfl ?_
    refine j_getR hK fl_X10_19 dX10_undo_13 zo_0 zf_10_1 zr_0_1 ?_
    refine j_getR hK fl_X10_129 dX10_undo_16 zo_3 zf_0_3 zr_3_3 ?_
    refine j_aload_n hK dX10_undo_19 0 rfl rfl ?_
    refine j_getR hK fl_X10_33 dX10_undo_20 zo_0 zf_10_3 zr_0_3 ?_
    obtain ⟨r1, S2, h3, hf⟩ := bd_J hf
    obtain ⟨hq4, hf⟩ := gd hf
    refine k_callVr hK (c_X4_latest h3) dX10_undo_23 zclX4 zo_12 ml_X10_229 mi_X4_latest mx_X4_latest in_X4 mc_X4_latest hy_X4_latest ⟨by decide, by decide⟩ rfl (Nat.le_of_ble_eq_true rfl) ?_
    obtain ⟨r5, S6, h7, hf⟩ := bd_J hf
    refine k_callVv hK (c_X7_take zo_6 hq4 h7) dX10_undo_26 zclX7 zo_6 ml_X10_233 mi_X7_take mx_X7_take in_X7 mc_X7_take hy_X7_take ⟨by decide, by decide⟩ rfl (Nat.le_of_ble_eq_true rfl) ?_
    refine j_pc (pc' := 29) rfl ?_
    refine j_aload_n hK dX10_undo_29 0 rfl rfl ?_
    refine j_getR hK fl_X10_33 dX10_undo_30 zo_0 zf_10_3 zr_0_3 ?_
    refine j_getI hK fl_X10_228 dX10_undo_33 zo_12 zf_4_2 ?_
    exact j_iret hK dX10_undo_36 rfl (rt_I hA hf)
  · replace hf := if_1 hc hf
    refine j_iconst hK (-1 : Int32) dX10_undo_10 ic_m1 ?_
    exact j_iret hK dX10_undo_11 rfl (rt_I hA hf)
def f_X10_route_38b (e : Int32 → St → Option (Int32 × St)) (k : Int32 → St → Option (Int32 × St)) (v : Int32) (S : St) : Option (Int32 × St) := (if (gI S 92 3) ≤ v then e v S else if inb v 12 then bd (f_X5_put (gI S 93 v.toNatClampNeg).toInt64 S) (fun r2 S3 => k (v + (1 : Int32)) S3) else none)
theorem t_X10_route_38 {K : CT} (hK : KO K cX10_route RX10 4 5 (some .int)) {r : Int32} {S' : St} (hA : zans K = (some (.int r), S')) {e : Int32 → St → Option (Int32 × St)} (he : ∀ (v : Int32) (S : St), e v S = some (r, S') → J K 72 [(0, .ref 0)] [] S) : ∀ (n : Nat) (v : Int32) (S : St), lp (f_X10_route_38b  e) n v S = some (r, S') → J K 38 [(0, .ref 0), (3, .int v)] [] S :=
  lp_J (P := fun (v : Int32) (S : St) => J K 38 [(0, .ref 0), (3, .int v)] [] S) (fun k hk v S hf => by
    unfold f_X10_route_38b at hf
    refine j_iload_n hK dX10_route_38 1 rfl rfl ?_
    refine j_aload_n hK dX10_route_39 0 rfl rfl ?_
    refine j_getR hK fl_X10_42 dX10_route_40 zo_0 zf_10_4 zr_0_4 ?_
    refine j_getI hK fl_X10_268 dX10_route_43 zo_92 zf_2_3 ?_
    refine j_icmp_ge hK 72 dX10_route_46 (by decide) (fun hc => ?_) (fun hc => ?_)
    · replace hf := if_1 hc hf
      refine j_sub [0] rfl ?_
      exact he _ _ hf
    · replace hf := if_2 hc hf
      refine j_aload_n hK dX10_route_49 0 rfl rfl ?_
      refine j_getR hK fl_X10_26 dX10_route_50 zo_0 zf_10_2 zr_0_2 ?_
      refine j_aload_n hK dX10_route_53 0 rfl rfl ?_
      refine j_getR hK fl_X10_42 dX10_route_54 zo_0 zf_10_4 zr_0_4 ?_
      refine j_getR hK fl_X10_269 dX10_route_57 zo_92 zf_2_1 zr_92_1 ?_
      refine j_iload_n hK dX10_route_60 1 rfl rfl ?_
      obtain ⟨hi1, hf⟩ := gd hf
      refine k_iald hK dX10_route_61 zb_93 hi1 rfl ?_
      refine j_pc (pc' := 62) rfl ?_
      refine j_i2l hK dX10_route_62 ?_
      obtain ⟨r2, S3, h4, hf⟩ := bd_J hf
      refine k_callVv hK (c_X5_put h4) dX10_route_63 zclX5 zo_10 ml_X10_191 mi_X5_put mx_X5_put in_X5 mc_X5_put hy_X5_put ⟨by decide, by decide⟩ rfl (Nat.le_of_ble_eq_true rfl) ?_
      refine j_iinc hK (L' := [(3, .int (v + (1 : Int32))), (0, .ref 0)]) dX10_route_66 1 rfl (congrArg (fun y => v + y) ic_1) (by decide) rfl ?_
      refine j_goto hK 38 dX10_route_69 (by decide) ?_
      refine j_sub [1, 0] rfl ?_
      exact hk _ _ hf)
def f_X10_route (p1 : Int32) (p2 : Int32) (S : St) : Option (Int32 × St) := bd (f_X2_goes p1 p2 S) (fun r5 S6 => (if r5 = 0 then some ((-1 : Int32), S6) else bd (f_X5_begin S6) (fun r8 S9 => bd (f_X5_put (gI S9 92 4).toInt64 S9) (fun r11 S12 => lp (f_X10_route_38b  (fun v14 S15 => some ((gI S15 92 5), S15))) FU (0 : Int32) S12))))
theorem c_X10_route {p1 : Int32} {p2 : Int32} {S : St} {r : Int32} {S' : St} (hf : f_X10_route p1 p2 S = some (r, S')) : zM yX10_route cX10_route 4 5 (some .int) [.ref 0, .int p1, .int p2] S (some (.int r)) S' := by
  refine zM_of (zpl (by decide)) (Nat.le_of_ble_eq_true rfl) rfl (fun K hK hA => ?_)
  unfold f_X10_route at hf
  refine j_aload_n hK dX10_route_0 0 rfl rfl ?_
  refine j_getR hK fl_X10_42 dX10_route_1 zo_0 zf_10_4 zr_0_4 ?_
  refine j_iload_n hK dX10_route_4 1 rfl rfl ?_
  refine j_iload_n hK dX10_route_5 2 rfl rfl ?_
  obtain ⟨r5, S6, h7, hf⟩ := bd_J hf
  refine k_callVi hK (c_X2_goes h7) dX10_route_6 zclX2 zo_92 ml_X10_236 mi_X2_goes mx_X2_goes in_X2 mc_X2_goes hy_X2_goes ⟨by decide, by decide⟩ rfl (Nat.le_of_ble_eq_true rfl) ?_
  refine j_if_ne hK 14 dX10_route_9 (by decide) (fun hc => ?_) (fun hc => ?_)
  · replace hf := if_2 hc hf
    refine j_aload_n hK dX10_route_14 0 rfl rfl ?_
    refine j_getR hK fl_X10_26 dX10_route_15 zo_0 zf_10_2 zr_0_2 ?_
    obtain ⟨r8, S9, h10, hf⟩ := bd_J hf
    refine k_callVv hK (c_X5_begin h10) dX10_route_18 zclX5 zo_10 ml_X10_185 mi_X5_begin mx_X5_begin in_X5 mc_X5_begin hy_X5_begin ⟨by decide, by decide⟩ rfl (Nat.le_of_ble_eq_true rfl) ?_
    refine j_aload_n hK dX10_route_21 0 rfl rfl ?_
    refine j_getR hK fl_X10_26 dX10_route_22 zo_0 zf_10_2 zr_0_2 ?_
    refine j_aload_n hK dX10_route_25 0 rfl rfl ?_
    refine j_getR hK fl_X10_42 dX10_route_26 zo_0 zf_10_4 zr_0_4 ?_
    refine j_pc (pc' := 29) rfl ?_
    refine j_getI hK fl_X10_188 dX10_route_29 zo_92 zf_2_4 ?_
    refine j_i2l hK dX10_route_32 ?_
    obtain ⟨r11, S12, h13, hf⟩ := bd_J hf
    refine k_callVv hK (c_X5_put h13) dX10_route_33 zclX5 zo_10 ml_X10_191 mi_X5_put mx_X5_put in_X5 mc_X5_put hy_X5_put ⟨by decide, by decide⟩ rfl (Nat.le_of_ble_eq_true rfl) ?_
    refine j_iconst hK (0 : Int32) dX10_route_36 ic_0 ?_
    refine j_istore_n hK (L' := [(3, .int (0 : Int32)), (0, .ref 0), (1, .int p1), (2, .int p2)]) dX10_route_37 rfl (by decide) rfl ?_
    refine j_sub [1, 0] rfl ?_
    refine t_X10_route_38 hK hA  (fun v14 S15 hf => ?_) _ _ _ hf
    refine j_aload_n hK dX10_route_72 0 rfl rfl ?_
    refine j_getR hK fl_X10_42 dX10_route_73 zo_0 zf_10_4 zr_0_4 ?_
    refine j_getI hK fl_X10_254 dX10_route_76 zo_92 zf_2_5 ?_
    exact j_iret hK dX10_route_79 rfl (rt_I hA hf)
  · replace hf := if_1 hc hf
    refine j_iconst hK (-1 : Int32) dX10_route_12 ic_m1 ?_
    exact j_iret hK dX10_route_13 rfl (rt_I hA hf)
def f_X5_at (p1 : Int32) (S : St) : Option (Int64 × St) := (if p1 < 0 then some ((0 : Int64), S) else (if (gI S 10 1) ≤ p1 then some ((0 : Int64), S) else if inb p1 16 then some ((gL S 11 p1.toNatClampNeg), S) else none))
theorem c_X5_at {p1 : Int32} {S : St} {r : Int64} {S' : St} (hf : f_X5_at p1 S = some (r, S')) : zM yX5_at cX5_at 2 1 (some .long) [.ref 10, .int p1] S (some (.long r)) S' := by
  refine zM_of (zpl (by decide)) (Nat.le_of_ble_eq_true rfl) rfl (fun K hK hA => ?_)
  unfold f_X5_at at hf
  refine j_iload_n hK dX5_at_0 1 rfl rfl ?_
  refine j_if_lt hK 21 dX5_at_1 (by decide) (fun hc => ?_) (fun hc => ?_)
  · replace hf := if_1 hc hf
    refine j_lconst hK (0 : Int64) dX5_at_21 lc_0 ?_
    exact j_lret hK dX5_at_22 rfl (rt_L hA hf)
  · replace hf := if_2 hc hf
    refine j_iload_n hK dX5_at_4 1 rfl rfl ?_
    refine j_aload_n hK dX5_at_5 0 rfl rfl ?_
    refine j_getI hK fl_X5_13 dX5_at_6 zo_10 zf_5_1 ?_
    refine j_icmp_ge hK 21 dX5_at_9 (by decide) (fun hc => ?_) (fun hc => ?_)
    · replace hf := if_1 hc hf
      refine j_lconst hK (0 : Int64) dX5_at_21 lc_0 ?_
      exact j_lret hK dX5_at_22 rfl (rt_L hA hf)
    · replace hf := if_2 hc hf
      refine j_aload_n hK dX5_at_12 0 rfl rfl ?_
      refine j_getR hK fl_X5_9 dX5_at_13 zo_10 zf_5_0 zr_10_0 ?_
      refine j_iload_n hK dX5_at_16 1 rfl rfl ?_
      obtain ⟨hi1, hf⟩ := gd hf
      refine k_lald hK dX5_at_17 zb_11 hi1 rfl ?_
      refine j_goto hK 22 dX5_at_18 (by decide) ?_
      exact j_lret hK dX5_at_22 rfl (rt_L hA hf)
def f_X10_hears_86 (x4 : Int32) (x6 : Int32) (s0 : Int32) (s1 : Int32) (k e : Int32 × Int32 → St → Option (Int32 × St)) (S : St) : Option (Int32 × St) := lt (s0 + s1) (fun y1 => k (y1, (x6 + (1 : Int32))) S)
theorem t_X10_hears_86 {K : CT} (hK : KO K cX10_hears RX10 7 6 (some .int)) {r : Int32} {S' : St} (hA : zans K = (some (.int r), S')) {x4 : Int32} {x6 : Int32} {s0 : Int32} {s1 : Int32} {k e : Int32 × Int32 → St → Option (Int32 × St)} (hk : ∀ (v : Int32 × Int32) (S : St), k v S = some (r, S') → J K 49 [(0, .ref 0), (4, .int x4), (5, .int v.1), (6, .int v.2)] [] S) (he : ∀ (v : Int32 × Int32) (S : St), e v S = some (r, S') → J K 95 [(5, .int v.1)] [] S) {S : St} (hf : f_X10_hears_86 x4 x6 s0 s1 k e S = some (r, S')) : J K 86 [(0, .ref 0), (4, .int x4), (6, .int x6)] [.int s1, .int s0] S := by
  unfold f_X10_hears_86 at hf
  refine j_iadd hK dX10_hears_86 ?_
  refine lt_I hf (fun y1 hf => ?_)
  refine j_istore hK (L' := [(5, .int y1), (0, .ref 0), (4, .int x4), (6, .int x6)]) dX10_hears_87 (by decide) rfl ?_
  refine j_iinc hK (L' := [(6, .int (x6 + (1 : Int32))), (5, .int y1), (0, .ref 0), (4, .int x4)]) dX10_hears_89 3 rfl (congrArg (fun y => x6 + y) ic_1) (by decide) rfl ?_
  refine j_goto hK 49 dX10_hears_92 (by decide) ?_
  refine j_sub [2, 3, 1, 0] rfl ?_
  exact hk _ _ hf
def f_X10_hears_49b (x4 : Int32) (e : Int32 × Int32 → St → Option (Int32 × St)) (k : Int32 × Int32 → St → Option (Int32 × St)) (v : Int32 × Int32) (S : St) : Option (Int32 × St) := (if x4 ≤ v.2 then e (v.1, v.2) S else bd (f_X5_at v.2 S) (fun r2 S3 => bd (f_X8_letter v.2 S3) (fun r5 S6 => (if (lg_cmp r2 r5.toInt64) = 0 then f_X10_hears_86 x4 v.2 v.1 (1 : Int32) k e S6 else f_X10_hears_86 x4 v.2 v.1 (0 : Int32) k e S6))))
theorem t_X10_hears_49 {K : CT} (hK : KO K cX10_hears RX10 7 6 (some .int)) {r : Int32} {S' : St} (hA : zans K = (some (.int r), S')) {x4 : Int32} {e : Int32 × Int32 → St → Option (Int32 × St)} (he : ∀ (v : Int32 × Int32) (S : St), e v S = some (r, S') → J K 95 [(5, .int v.1)] [] S) : ∀ (n : Nat) (v : Int32 × Int32) (S : St), lp (f_X10_hears_49b x4 e) n v S = some (r, S') → J K 49 [(0, .ref 0), (4, .int x4), (5, .int v.1), (6, .int v.2)] [] S :=
  lp_J (P := fun (v : Int32 × Int32) (S : St) => J K 49 [(0, .ref 0), (4, .int x4), (5, .int v.1), (6, .int v.2)] [] S) (fun k hk v S hf => by
    unfold f_X10_hears_49b at hf
    refine j_iload hK dX10_hears_49 3 rfl ?_
    refine j_iload hK dX10_hears_51 1 rfl ?_
    refine j_icmp_ge hK 95 dX10_hears_53 (by decide) (fun hc => ?_) (fun hc => ?_)
    · replace hf := if_1 hc hf
      refine j_sub [2] rfl ?_
      exact he _ _ hf
    · replace hf := if_2 hc hf
      refine j_iload hK dX10_hears_56 2 rfl ?_
      refine j_aload_n hK dX10_hears_58 0 rfl rfl ?_
      refine j_getR hK fl_X10_26 dX10_hears_59 zo_0 zf_10_2 zr_0_2 ?_
      refine j_iload hK dX10_hears_62 3 rfl ?_
      obtain ⟨r2, S3, h4, hf⟩ := bd_J hf
      refine k_callVl hK (c_X5_at h4) dX10_hears_64 zclX5 zo_10 ml_X10_272 mi_X5_at mx_X5_at in_X5 mc_X5_at hy_X5_at ⟨by decide, by decide⟩ rfl (Nat.le_of_ble_eq_true rfl) ?_
      refine j_aload_n hK dX10_hears_67 0 rfl rfl ?_
      refine j_getR hK fl_X10_10 dX10_hears_68 zo_0 zf_10_0 zr_0_0 ?_
      refine j_pc (pc' := 71) rfl ?_
      refine j_iload hK dX10_hears_71 3 rfl ?_
      obtain ⟨r5, S6, h7, hf⟩ := bd_J hf
      refine k_callVi hK (c_X8_letter h7) dX10_hears_73 zclX8 zo_1 ml_X10_243 mi_X8_letter mx_X8_letter in_X8 mc_X8_letter hy_X8_letter ⟨by decide, by decide⟩ rfl (Nat.le_of_ble_eq_true rfl) ?_
      refine j_i2l hK dX10_hears_76 ?_
      refine j_lcmp hK dX10_hears_77 ?_
      refine j_if_ne hK 85 dX10_hears_78 (by decide) (fun hc => ?_) (fun hc => ?_)
      · replace hf := if_2 hc hf
        refine j_iconst hK (0 : Int32) dX10_hears_85 ic_0 ?_
        refine j_sub [0, 1, 3] rfl ?_
        exact t_X10_hears_86 hK hA hk he hf
      · replace hf := if_1 hc hf
        refine j_iconst hK (1 : Int32) dX10_hears_81 ic_1 ?_
        refine j_goto hK 86 dX10_hears_82 (by decide) ?_
        refine j_sub [0, 1, 3] rfl ?_
        exact t_X10_hears_86 hK hA hk he hf)
def f_X10_hears (p1 : Int32) (p2 : Int32) (S : St) : Option (Int32 × St) := bd (f_X10_refusalOfCall p1 p2 S) (fun r8 S9 => lt (gI S9 1 1) (fun y11 => lt (sI S9 1 1 (0 : Int32)) (fun S12 => (if r8 = 0 then bd (f_X5_begin S12) (fun r13 S14 => bd (f_X10_putLetters y11 S14) (fun r16 S17 => lp (f_X10_hears_49b y11 (fun v19 S20 => some (v19.1, S20))) FU ((0 : Int32), (0 : Int32)) S17)) else some (r8, S12)))))
theorem c_X10_hears {p1 : Int32} {p2 : Int32} {S : St} {r : Int32} {S' : St} (hf : f_X10_hears p1 p2 S = some (r, S')) : zM yX10_hears cX10_hears 7 6 (some .int) [.ref 0, .int p1, .int p2] S (some (.int r)) S' := by
  refine zM_of (zpl (by decide)) (Nat.le_of_ble_eq_true rfl) rfl (fun K hK hA => ?_)
  unfold f_X10_hears at hf
  refine j_aload_n hK dX10_hears_0 0 rfl rfl ?_
  refine j_iload_n hK dX10_hears_1 1 rfl rfl ?_
  refine j_iload_n hK dX10_hears_2 2 rfl rfl ?_
  obtain ⟨r8, S9, h10, hf⟩ := bd_J hf
  refine k_callVi hK (c_X10_refusalOfCall h10) dX10_hears_3 zclX10 zo_0 ml_X10_178 mi_X10_refusalOfCall mx_X10_refusalOfCall in_X10 mc_X10_refusalOfCall hy_X10_refusalOfCall ⟨by decide, by decide⟩ rfl (Nat.le_of_ble_eq_true rfl) ?_
  refine j_istore_n hK (L' := [(3, .int r8), (0, .ref 0), (1, .int p1), (2, .int p2)]) dX10_hears_6 rfl (by decide) rfl ?_
  refine j_aload_n hK dX10_hears_7 1 rfl rfl ?_
  refine j_getR hK fl_X10_10 dX10_hears_8 zo_0 zf_10_0 zr_0_0 ?_
  refine j_getI hK fl_X10_88 dX10_hears_11 zo_1 zf_8_1 ?_
  refine j_pc (pc' := 14) rfl ?_
  refine lt_I hf (fun y11 hf => ?_)
  refine j_istore hK (L' := [(4, .int y11), (3, .int r8), (0, .ref 0), (1, .int p1), (2, .int p2)]) dX10_hears_14 (by decide) rfl ?_
  refine j_aload_n hK dX10_hears_16 2 rfl rfl ?_
  refine j_getR hK fl_X10_10 dX10_hears_17 zo_0 zf_10_0 zr_0_0 ?_
  refine j_iconst hK (0 : Int32) dX10_hears_20 ic_0 ?_
  refine j_putI hK fl_X10_88 dX10_hears_21 zo_1 zf_8_1 ?_
  refine lt_S hf (fun S12 hf => ?_)
  refine j_iload_n hK dX10_hears_24 1 rfl rfl ?_
  refine j_if_eq hK 30 dX10_hears_25 (by decide) (fun hc => ?_) (fun hc => ?_)
  · replace hf := if_1 hc hf
    refine j_aload_n hK dX10_hears_30 2 rfl rfl ?_
    refine j_getR hK fl_X10_26 dX10_hears_31 zo_0 zf_10_2 zr_0_2 ?_
    obtain ⟨r13, S14, h15, hf⟩ := bd_J hf
    refine k_callVv hK (c_X5_begin h15) dX10_hears_34 zclX5 zo_10 ml_X10_185 mi_X5_begin mx_X5_begin in_X5 mc_X5_begin hy_X5_begin ⟨by decide, by decide⟩ rfl (Nat.le_of_ble_eq_true rfl) ?_
    refine j_aload_n hK dX10_hears_37 2 rfl rfl ?_
    refine j_iload hK dX10_hears_38 0 rfl ?_
    obtain ⟨r16, S17, h18, hf⟩ := bd_J hf
    refine k_callVv hK (c_X10_putLetters h18) dX10_hears_40 zclX10 zo_0 ml_X10_195 mi_X10_putLetters mx_X10_putLetters in_X10 mc_X10_putLetters hy_X10_putLetters ⟨by decide, by decide⟩ rfl (Nat.le_of_ble_eq_true rfl) ?_
    refine j_iconst hK (0 : Int32) dX10_hears_43 ic_0 ?_
    refine j_pc (pc' := 44) rfl ?_
    refine j_istore hK (L' := [(5, .int (0 : Int32)), (4, .int y11), (3, .int r8), (0, .ref 0), (1, .int p1), (2, .int p2)]) dX10_hears_44 (by decide) rfl ?_
    refine j_iconst hK (0 : Int32) dX10_hears_46 ic_0 ?_
    refine j_istore hK (L' := [(6, .int (0 : Int32)), (5, .int (0 : Int32)), (4, .int y11), (3, .int r8), (0, .ref 0), (1, .int p1), (2, .int p2)]) dX10_hears_47 (by decide) rfl ?_
    refine j_sub [4, 2, 1, 0] rfl ?_
    refine t_X10_hears_49 hK hA  (fun v19 S20 hf => ?_) _ _ _ hf
    refine j_iload hK dX10_hears_95 0 rfl ?_
    exact j_iret hK dX10_hears_97 rfl (rt_I hA hf)
  · replace hf := if_2 hc hf
    refine j_iload_n hK dX10_hears_28 1 rfl rfl ?_
    exact j_iret hK dX10_hears_29 rfl (rt_I hA hf)
def f_X2_imagesAt_3b (ru : Nat) (x2 : Int32) (e : Int32 → St → Option (Unit × St)) (k : Int32 → St → Option (Unit × St)) (v : Int32) (S : St) : Option (Unit × St) := (if (8 : Int32) ≤ v then e v S else bd (f_X2_comesOut ru v x2 S) (fun r1 S2 => if inb v 8 then lt (sI S2 120 v.toNatClampNeg r1) (fun S5 => k (v + (1 : Int32)) S5) else none))
theorem t_X2_imagesAt_3 {K : CT} (hK : KO K cX2_imagesAt RX2 5 5 none) {r : Unit} {S' : St} (hA : zans K = (none, S')) {ru : Nat} (hru : isRule ru) {x2 : Int32} {e : Int32 → St → Option (Unit × St)} (he : ∀ (v : Int32) (S : St), e v S = some (r, S') → J K 28 [] [] S) : ∀ (n : Nat) (v : Int32) (S : St), lp (f_X2_imagesAt_3b ru x2 e) n v S = some (r, S') → J K 3 [(0, .ref 92), (1, .ref ru), (2, .int x2), (3, .ref 120), (4, .int v)] [] S :=
  lp_J (P := fun (v : Int32) (S : St) => J K 3 [(0, .ref 92), (1, .ref ru), (2, .int x2), (3, .ref 120), (4, .int v)] [] S) (fun k hk v S hf => by
    unfold f_X2_imagesAt_3b at hf
    refine j_iload hK dX2_imagesAt_3 4 rfl ?_
    refine j_aload_n hK dX2_imagesAt_5 3 rfl rfl ?_
    refine j_alen (ki := 0) (v := (8 : Int32)) hK dX2_imagesAt_6 zb_120 (by decide) ?_
    refine j_icmp_ge hK 28 dX2_imagesAt_7 (by decide) (fun hc => ?_) (fun hc => ?_)
    · replace hf := if_1 hc hf
      refine j_sub [] rfl ?_
      exact he _ _ hf
    · replace hf := if_2 hc hf
      refine j_aload_n hK dX2_imagesAt_10 3 rfl rfl ?_
      refine j_iload hK dX2_imagesAt_11 4 rfl ?_
      refine j_aload_n hK dX2_imagesAt_13 0 rfl rfl ?_
      refine j_aload_n hK dX2_imagesAt_14 1 rfl rfl ?_
      refine j_iload hK dX2_imagesAt_15 4 rfl ?_
      refine j_iload_n hK dX2_imagesAt_17 2 rfl rfl ?_
      obtain ⟨r1, S2, h3, hf⟩ := bd_J hf
      refine k_callVi hK (c_X2_comesOut hru h3) dX2_imagesAt_18 zclX2 zo_92 ml_X2_92 mi_X2_comesOut mx_X2_comesOut in_X2 mc_X2_comesOut hy_X2_comesOut ⟨by decide, by decide⟩ rfl (Nat.le_of_ble_eq_true rfl) ?_
      refine j_pc (pc' := 21) rfl ?_
      obtain ⟨hi4, hf⟩ := gd hf
      refine k_iast hK dX2_imagesAt_21 zb_120 hi4 rfl ?_
      refine lt_S hf (fun S5 hf => ?_)
      refine j_iinc hK (L' := [(4, .int (v + (1 : Int32))), (0, .ref 92), (1, .ref ru), (2, .int x2), (3, .ref 120)]) dX2_imagesAt_22 4 rfl (congrArg (fun y => v + y) ic_1) (by decide) rfl ?_
      refine j_goto hK 3 dX2_imagesAt_25 (by decide) ?_
      refine j_sub [1, 2, 3, 4, 0] rfl ?_
      exact hk _ _ hf)
def f_X2_imagesAt (ru : Nat) (p2 : Int32) (S : St) : Option (Unit × St) := lp (f_X2_imagesAt_3b ru p2 (fun v6 S7 => some ((), S7))) FU (0 : Int32) S
theorem c_X2_imagesAt {ru : Nat} (hru : isRule ru) {p2 : Int32} {S : St} {r : Unit} {S' : St} (hf : f_X2_imagesAt ru p2 S = some (r, S')) : zM yX2_imagesAt cX2_imagesAt 5 5 none [.ref 92, .ref ru, .int p2, .ref 120] S (none) S' := by
  refine zM_of (zpl (by decide)) (Nat.le_of_ble_eq_true rfl) rfl (fun K hK hA => ?_)
  unfold f_X2_imagesAt at hf
  refine j_iconst hK (0 : Int32) dX2_imagesAt_0 ic_0 ?_
  refine j_istore hK (L' := [(4, .int (0 : Int32)), (0, .ref 92), (1, .ref ru), (2, .int p2), (3, .ref 120)]) dX2_imagesAt_1 (by decide) rfl ?_
  refine j_sub [1, 2, 3, 4, 0] rfl ?_
  refine t_X2_imagesAt_3 hK hA hru (fun v6 S7 hf => ?_) _ _ _ hf
  exact j_vret hK dX2_imagesAt_28 rfl (rt_V hA hf)
def f_X10_timesAmongImages_26 (x1 : Int32) (x3 : Int32) (s0 : Int32) (s1 : Int32) (k e : Int32 × Int32 → St → Option (Int32 × St)) (S : St) : Option (Int32 × St) := lt (s0 + s1) (fun y1 => k (y1, (x3 + (1 : Int32))) S)
theorem t_X10_timesAmongImages_26 {K : CT} (hK : KO K cX10_timesAmongImages RX10 4 1 (some .int)) {r : Int32} {S' : St} (hA : zans K = (some (.int r), S')) {x1 : Int32} {x3 : Int32} {s0 : Int32} {s1 : Int32} {k e : Int32 × Int32 → St → Option (Int32 × St)} (hk : ∀ (v : Int32 × Int32) (S : St), k v S = some (r, S') → J K 4 [(0, .ref 0), (1, .int x1), (2, .int v.1), (3, .int v.2)] [] S) (he : ∀ (v : Int32 × Int32) (S : St), e v S = some (r, S') → J K 34 [(2, .int v.1)] [] S) {S : St} (hf : f_X10_timesAmongImages_26 x1 x3 s0 s1 k e S = some (r, S')) : J K 26 [(0, .ref 0), (1, .int x1), (3, .int x3)] [.int s1, .int s0] S := by
  unfold f_X10_timesAmongImages_26 at hf
  refine j_iadd hK dX10_timesAmongImages_26 ?_
  refine lt_I hf (fun y1 hf => ?_)
  refine j_istore_n hK (L' := [(2, .int y1), (0, .ref 0), (1, .int x1), (3, .int x3)]) dX10_timesAmongImages_27 rfl (by decide) rfl ?_
  refine j_iinc hK (L' := [(3, .int (x3 + (1 : Int32))), (2, .int y1), (0, .ref 0), (1, .int x1)]) dX10_timesAmongImages_28 3 rfl (congrArg (fun y => x3 + y) ic_1) (by decide) rfl ?_
  refine j_goto hK 4 dX10_timesAmongImages_31 (by decide) ?_
  refine j_sub [2, 3, 1, 0] rfl ?_
  exact hk _ _ hf
def f_X10_timesAmongImages_4b (x1 : Int32) (e : Int32 × Int32 → St → Option (Int32 × St)) (k : Int32 × Int32 → St → Option (Int32 × St)) (v : Int32 × Int32) (S : St) : Option (Int32 × St) := (if (8 : Int32) ≤ v.2 then e (v.1, v.2) S else if inb v.2 8 then (if (gI S 120 v.2.toNatClampNeg) = x1 then f_X10_timesAmongImages_26 x1 v.2 v.1 (1 : Int32) k e S else f_X10_timesAmongImages_26 x1 v.2 v.1 (0 : Int32) k e S) else none)
theorem t_X10_timesAmongImages_4 {K : CT} (hK : KO K cX10_timesAmongImages RX10 4 1 (some .int)) {r : Int32} {S' : St} (hA : zans K = (some (.int r), S')) {x1 : Int32} {e : Int32 × Int32 → St → Option (Int32 × St)} (he : ∀ (v : Int32 × Int32) (S : St), e v S = some (r, S') → J K 34 [(2, .int v.1)] [] S) : ∀ (n : Nat) (v : Int32 × Int32) (S : St), lp (f_X10_timesAmongImages_4b x1 e) n v S = some (r, S') → J K 4 [(0, .ref 0), (1, .int x1), (2, .int v.1), (3, .int v.2)] [] S :=
  lp_J (P := fun (v : Int32 × Int32) (S : St) => J K 4 [(0, .ref 0), (1, .int x1), (2, .int v.1), (3, .int v.2)] [] S) (fun k hk v S hf => by
    unfold f_X10_timesAmongImages_4b at hf
    refine j_iload_n hK dX10_timesAmongImages_4 3 rfl rfl ?_
    refine j_bipush hK (8 : Int32) dX10_timesAmongImages_5 bi_8 ?_
    refine j_icmp_ge hK 34 dX10_timesAmongImages_7 (by decide) (fun hc => ?_) (fun hc => ?_)
    · replace hf := if_1 hc hf
      refine j_sub [2] rfl ?_
      exact he _ _ hf
    · replace hf := if_2 hc hf
      refine j_iload_n hK dX10_timesAmongImages_10 2 rfl rfl ?_
      refine j_aload_n hK dX10_timesAmongImages_11 0 rfl rfl ?_
      refine j_getR hK fl_X10_77 dX10_timesAmongImages_12 zo_0 zf_10_10 zr_0_10 ?_
      refine j_iload_n hK dX10_timesAmongImages_15 3 rfl rfl ?_
      obtain ⟨hi2, hf⟩ := gd hf
      refine k_iald hK dX10_timesAmongImages_16 zb_120 hi2 rfl ?_
      refine j_iload_n hK dX10_timesAmongImages_17 1 rfl rfl ?_
      refine j_icmp_ne hK 25 dX10_timesAmongImages_18 (by decide) (fun hc => ?_) (fun hc => ?_)
      · replace hf := if_2 hc hf
        refine j_iconst hK (0 : Int32) dX10_timesAmongImages_25 ic_0 ?_
        refine j_sub [0, 1, 3] rfl ?_
        exact t_X10_timesAmongImages_26 hK hA hk he hf
      · replace hf := if_1 hc hf
        refine j_iconst hK (1 : Int32) dX10_timesAmongImages_21 ic_1 ?_
        refine j_goto hK 26 dX10_timesAmongImages_22 (by decide) ?_
        refine j_sub [0, 1, 3] rfl ?_
        exact t_X10_timesAmongImages_26 hK hA hk he hf)
def f_X10_timesAmongImages (p1 : Int32) (S : St) : Option (Int32 × St) := lp (f_X10_timesAmongImages_4b p1 (fun v3 S4 => some (v3.1, S4))) FU ((0 : Int32), (0 : Int32)) S
theorem c_X10_timesAmongImages {p1 : Int32} {S : St} {r : Int32} {S' : St} (hf : f_X10_timesAmongImages p1 S = some (r, S')) : zM yX10_timesAmongImages cX10_timesAmongImages 4 1 (some .int) [.ref 0, .int p1] S (some (.int r)) S' := by
  refine zM_of (zpl (by decide)) (Nat.le_of_ble_eq_true rfl) rfl (fun K hK hA => ?_)
  unfold f_X10_timesAmongImages at hf
  refine j_iconst hK (0 : Int32) dX10_timesAmongImages_0 ic_0 ?_
  refine j_istore_n hK (L' := [(2, .int (0 : Int32)), (0, .ref 0), (1, .int p1)]) dX10_timesAmongImages_1 rfl (by decide) rfl ?_
  refine j_iconst hK (0 : Int32) dX10_timesAmongImages_2 ic_0 ?_
  refine j_istore_n hK (L' := [(3, .int (0 : Int32)), (2, .int (0 : Int32)), (0, .ref 0), (1, .int p1)]) dX10_timesAmongImages_3 rfl (by decide) rfl ?_
  refine j_sub [2, 3, 1, 0] rfl ?_
  refine t_X10_timesAmongImages_4 hK hA  (fun v3 S4 hf => ?_) _ _ _ hf
  refine j_iload_n hK dX10_timesAmongImages_34 0 rfl rfl ?_
  exact j_iret hK dX10_timesAmongImages_35 rfl (rt_I hA hf)
def f_X10_firstImage_2b (x1 : Int32) (e : Int32 → St → Option (Int32 × St)) (k : Int32 → St → Option (Int32 × St)) (v : Int32) (S : St) : Option (Int32 × St) := (if (8 : Int32) ≤ v then e v S else if inb v 8 then (if (gI S 120 v.toNatClampNeg) = x1 then some (v, S) else k (v + (1 : Int32)) S) else none)
theorem t_X10_firstImage_2 {K : CT} (hK : KO K cX10_firstImage RX10 3 1 (some .int)) {r : Int32} {S' : St} (hA : zans K = (some (.int r), S')) {x1 : Int32} {e : Int32 → St → Option (Int32 × St)} (he : ∀ (v : Int32) (S : St), e v S = some (r, S') → J K 26 [] [] S) : ∀ (n : Nat) (v : Int32) (S : St), lp (f_X10_firstImage_2b x1 e) n v S = some (r, S') → J K 2 [(0, .ref 0), (1, .int x1), (2, .int v)] [] S :=
  lp_J (P := fun (v : Int32) (S : St) => J K 2 [(0, .ref 0), (1, .int x1), (2, .int v)] [] S) (fun k hk v S hf => by
    unfold f_X10_firstImage_2b at hf
    refine j_iload_n hK dX10_firstImage_2 2 rfl rfl ?_
    refine j_bipush hK (8 : Int32) dX10_firstImage_3 bi_8 ?_
    refine j_icmp_ge hK 26 dX10_firstImage_5 (by decide) (fun hc => ?_) (fun hc => ?_)
    · replace hf := if_1 hc hf
      refine j_sub [] rfl ?_
      exact he _ _ hf
    · replace hf := if_2 hc hf
      refine j_aload_n hK dX10_firstImage_8 0 rfl rfl ?_
      refine j_getR hK fl_X10_77 dX10_firstImage_9 zo_0 zf_10_10 zr_0_10 ?_
      refine j_iload_n hK dX10_firstImage_12 2 rfl rfl ?_
      obtain ⟨hi1, hf⟩ := gd hf
      refine k_iald hK dX10_firstImage_13 zb_120 hi1 rfl ?_
      refine j_iload_n hK dX10_firstImage_14 1 rfl rfl ?_
      refine j_icmp_ne hK 20 dX10_firstImage_15 (by decide) (fun hc => ?_) (fun hc => ?_)
      · replace hf := if_2 hc hf
        refine j_iinc hK (L' := [(2, .int (v + (1 : Int32))), (0, .ref 0), (1, .int x1)]) dX10_firstImage_20 2 rfl (congrArg (fun y => v + y) ic_1) (by decide) rfl ?_
        refine j_goto hK 2 dX10_firstImage_23 (by decide) ?_
        refine j_sub [1, 2, 0] rfl ?_
        exact hk _ _ hf
      · replace hf := if_1 hc hf
        refine j_iload_n hK dX10_firstImage_18 2 rfl rfl ?_
        exact j_iret hK dX10_firstImage_19 rfl (rt_I hA hf))
def f_X10_firstImage (p1 : Int32) (S : St) : Option (Int32 × St) := lp (f_X10_firstImage_2b p1 (fun v2 S3 => some ((-1 : Int32), S3))) FU (0 : Int32) S
theorem c_X10_firstImage {p1 : Int32} {S : St} {r : Int32} {S' : St} (hf : f_X10_firstImage p1 S = some (r, S')) : zM yX10_firstImage cX10_firstImage 3 1 (some .int) [.ref 0, .int p1] S (some (.int r)) S' := by
  refine zM_of (zpl (by decide)) (Nat.le_of_ble_eq_true rfl) rfl (fun K hK hA => ?_)
  unfold f_X10_firstImage at hf
  refine j_iconst hK (0 : Int32) dX10_firstImage_0 ic_0 ?_
  refine j_istore_n hK (L' := [(2, .int (0 : Int32)), (0, .ref 0), (1, .int p1)]) dX10_firstImage_1 rfl (by decide) rfl ?_
  refine j_sub [1, 2, 0] rfl ?_
  refine t_X10_firstImage_2 hK hA  (fun v2 S3 hf => ?_) _ _ _ hf
  refine j_iconst hK (-1 : Int32) dX10_firstImage_26 ic_m1 ?_
  exact j_iret hK dX10_firstImage_27 rfl (rt_I hA hf)
def f_X10_asks_43b (x4 : Int32) (e : Int32 × Int32 → St → Option (Int32 × St)) (k : Int32 × Int32 → St → Option (Int32 × St)) (v : Int32 × Int32) (S : St) : Option (Int32 × St) := (if x4 ≤ v.2 then e (v.1, v.2) S else if isRule (gI S 0 8).toNatClampNeg then bd (f_X2_imagesAt (gI S 0 8).toNatClampNeg v.2 S) (fun r2 S3 => bd (f_X8_letter v.2 S3) (fun r5 S6 => bd (f_X10_timesAmongImages r5 S6) (fun r8 S9 => lt (v.1 * r8) (fun y11 => bd (f_X8_letter v.2 S9) (fun r12 S13 => bd (f_X10_firstImage r12 S13) (fun r15 S16 => bd (f_X5_put r15.toInt64 S16) (fun r18 S19 => k (y11, (v.2 + (1 : Int32))) S19))))))) else none)
theorem t_X10_asks_43 {K : CT} (hK : KO K cX10_asks RX10 7 6 (some .int)) {r : Int32} {S' : St} (hA : zans K = (some (.int r), S')) {x4 : Int32} {e : Int32 × Int32 → St → Option (Int32 × St)} (he : ∀ (v : Int32 × Int32) (S : St), e v S = some (r, S') → J K 112 [(0, .ref 0), (5, .int v.1)] [] S) : ∀ (n : Nat) (v : Int32 × Int32) (S : St), lp (f_X10_asks_43b x4 e) n v S = some (r, S') → J K 43 [(0, .ref 0), (4, .int x4), (5, .int v.1), (6, .int v.2)] [] S :=
  lp_J (P := fun (v : Int32 × Int32) (S : St) => J K 43 [(0, .ref 0), (4, .int x4), (5, .int v.1), (6, .int v.2)] [] S) (fun k hk v S hf => by
    unfold f_X10_asks_43b at hf
    refine j_iload hK dX10_asks_43 3 rfl ?_
    refine j_iload hK dX10_asks_45 1 rfl ?_
    refine j_icmp_ge hK 112 dX10_asks_47 (by decide) (fun hc => ?_) (fun hc => ?_)
    · replace hf := if_1 hc hf
      refine j_sub [0, 2] rfl ?_
      exact he _ _ hf
    · replace hf := if_2 hc hf
      refine j_aload_n hK dX10_asks_50 0 rfl rfl ?_
      refine j_getR hK fl_X10_42 dX10_asks_51 zo_0 zf_10_4 zr_0_4 ?_
      refine j_aload_n hK dX10_asks_54 0 rfl rfl ?_
      obtain ⟨hr1, hf⟩ := gd hf
      refine j_getD hK fl_X10_70 dX10_asks_55 zo_0 zf_10_8 ?_
      refine j_iload hK dX10_asks_58 3 rfl ?_
      refine j_aload_n hK dX10_asks_60 0 rfl rfl ?_
      refine j_getR hK fl_X10_77 dX10_asks_61 zo_0 zf_10_10 zr_0_10 ?_
      refine j_pc (pc' := 64) rfl ?_
      obtain ⟨r2, S3, h4, hf⟩ := bd_J hf
      refine k_callVv hK (c_X2_imagesAt hr1 h4) dX10_asks_64 zclX2 zo_92 ml_X10_276 mi_X2_imagesAt mx_X2_imagesAt in_X2 mc_X2_imagesAt hy_X2_imagesAt ⟨by decide, by decide⟩ rfl (Nat.le_of_ble_eq_true rfl) ?_
      refine j_iload hK dX10_asks_67 2 rfl ?_
      refine j_aload_n hK dX10_asks_69 0 rfl rfl ?_
      refine j_aload_n hK dX10_asks_70 0 rfl rfl ?_
      refine j_getR hK fl_X10_10 dX10_asks_71 zo_0 zf_10_0 zr_0_0 ?_
      refine j_iload hK dX10_asks_74 3 rfl ?_
      obtain ⟨r5, S6, h7, hf⟩ := bd_J hf
      refine k_callVi hK (c_X8_letter h7) dX10_asks_76 zclX8 zo_1 ml_X10_243 mi_X8_letter mx_X8_letter in_X8 mc_X8_letter hy_X8_letter ⟨by decide, by decide⟩ rfl (Nat.le_of_ble_eq_true rfl) ?_
      obtain ⟨r8, S9, h10, hf⟩ := bd_J hf
      refine k_callVi hK (c_X10_timesAmongImages h10) dX10_asks_79 zclX10 zo_0 ml_X10_280 mi_X10_timesAmongImages mx_X10_timesAmongImages in_X10 mc_X10_timesAmongImages hy_X10_timesAmongImages ⟨by decide, by decide⟩ rfl (Nat.le_of_ble_eq_true rfl) ?_
      refine j_pc (pc' := 82) rfl ?_
      refine j_imul hK dX10_asks_82 ?_
      refine lt_I hf (fun y11 hf => ?_)
      refine j_istore hK (L' := [(5, .int y11), (0, .ref 0), (4, .int x4), (6, .int v.2)]) dX10_asks_83 (by decide) rfl ?_
      refine j_aload_n hK dX10_asks_85 1 rfl rfl ?_
      refine j_getR hK fl_X10_26 dX10_asks_86 zo_0 zf_10_2 zr_0_2 ?_
      refine j_aload_n hK dX10_asks_89 1 rfl rfl ?_
      refine j_aload_n hK dX10_asks_90 1 rfl rfl ?_
      refine j_getR hK fl_X10_10 dX10_asks_91 zo_0 zf_10_0 zr_0_0 ?_
      refine j_iload hK dX10_asks_94 3 rfl ?_
      refine j_pc (pc' := 96) rfl ?_
      obtain ⟨r12, S13, h14, hf⟩ := bd_J hf
      refine k_callVi hK (c_X8_letter h14) dX10_asks_96 zclX8 zo_1 ml_X10_243 mi_X8_letter mx_X8_letter in_X8 mc_X8_letter hy_X8_letter ⟨by decide, by decide⟩ rfl (Nat.le_of_ble_eq_true rfl) ?_
      obtain ⟨r15, S16, h17, hf⟩ := bd_J hf
      refine k_callVi hK (c_X10_firstImage h17) dX10_asks_99 zclX10 zo_0 ml_X10_283 mi_X10_firstImage mx_X10_firstImage in_X10 mc_X10_firstImage hy_X10_firstImage ⟨by decide, by decide⟩ rfl (Nat.le_of_ble_eq_true rfl) ?_
      refine j_i2l hK dX10_asks_102 ?_
      obtain ⟨r18, S19, h20, hf⟩ := bd_J hf
      refine k_callVv hK (c_X5_put h20) dX10_asks_103 zclX5 zo_10 ml_X10_191 mi_X5_put mx_X5_put in_X5 mc_X5_put hy_X5_put ⟨by decide, by decide⟩ rfl (Nat.le_of_ble_eq_true rfl) ?_
      refine j_iinc hK (L' := [(6, .int (v.2 + (1 : Int32))), (5, .int y11), (0, .ref 0), (4, .int x4)]) dX10_asks_106 3 rfl (congrArg (fun y => v.2 + y) ic_1) (by decide) rfl ?_
      refine j_goto hK 43 dX10_asks_109 (by decide) ?_
      refine j_sub [2, 3, 1, 0] rfl ?_
      exact hk _ _ hf)
def f_X10_asks (p1 : Int32) (p2 : Int32) (S : St) : Option (Int32 × St) := bd (f_X10_refusalOfCall p1 p2 S) (fun r21 S22 => lt (gI S22 1 1) (fun y24 => lt (sI S22 1 1 (0 : Int32)) (fun S25 => (if r21 = 0 then bd (f_X5_begin S25) (fun r26 S27 => lp (f_X10_asks_43b y24 (fun v29 S30 => (if v29.1 = 0 then bd (f_X5_begin S30) (fun r31 S32 => some (v29.1, S32)) else some (v29.1, S30)))) FU ((1 : Int32), (0 : Int32)) S27) else some (r21, S25)))))
theorem c_X10_asks {p1 : Int32} {p2 : Int32} {S : St} {r : Int32} {S' : St} (hf : f_X10_asks p1 p2 S = some (r, S')) : zM yX10_asks cX10_asks 7 6 (some .int) [.ref 0, .int p1, .int p2] S (some (.int r)) S' := by
  refine zM_of (zpl (by decide)) (Nat.le_of_ble_eq_true rfl) rfl (fun K hK hA => ?_)
  unfold f_X10_asks at hf
  refine j_aload_n hK dX10_asks_0 0 rfl rfl ?_
  refine j_iload_n hK dX10_asks_1 1 rfl rfl ?_
  refine j_iload_n hK dX10_asks_2 2 rfl rfl ?_
  obtain ⟨r21, S22, h23, hf⟩ := bd_J hf
  refine k_callVi hK (c_X10_refusalOfCall h23) dX10_asks_3 zclX10 zo_0 ml_X10_178 mi_X10_refusalOfCall mx_X10_refusalOfCall in_X10 mc_X10_refusalOfCall hy_X10_refusalOfCall ⟨by decide, by decide⟩ rfl (Nat.le_of_ble_eq_true rfl) ?_
  refine j_istore_n hK (L' := [(3, .int r21), (0, .ref 0), (1, .int p1), (2, .int p2)]) dX10_asks_6 rfl (by decide) rfl ?_
  refine j_aload_n hK dX10_asks_7 1 rfl rfl ?_
  refine j_getR hK fl_X10_10 dX10_asks_8 zo_0 zf_10_0 zr_0_0 ?_
  refine j_getI hK fl_X10_88 dX10_asks_11 zo_1 zf_8_1 ?_
  refine j_pc (pc' := 14) rfl ?_
  refine lt_I hf (fun y24 hf => ?_)
  refine j_istore hK (L' := [(4, .int y24), (3, .int r21), (0, .ref 0), (1, .int p1), (2, .int p2)]) dX10_asks_14 (by decide) rfl ?_
  refine j_aload_n hK dX10_asks_16 2 rfl rfl ?_
  refine j_getR hK fl_X10_10 dX10_asks_17 zo_0 zf_10_0 zr_0_0 ?_
  refine j_iconst hK (0 : Int32) dX10_asks_20 ic_0 ?_
  refine j_putI hK fl_X10_88 dX10_asks_21 zo_1 zf_8_1 ?_
  refine lt_S hf (fun S25 hf => ?_)
  refine j_iload_n hK dX10_asks_24 1 rfl rfl ?_
  refine j_if_eq hK 30 dX10_asks_25 (by decide) (fun hc => ?_) (fun hc => ?_)
  · replace hf := if_1 hc hf
    refine j_aload_n hK dX10_asks_30 2 rfl rfl ?_
    refine j_getR hK fl_X10_26 dX10_asks_31 zo_0 zf_10_2 zr_0_2 ?_
    obtain ⟨r26, S27, h28, hf⟩ := bd_J hf
    refine k_callVv hK (c_X5_begin h28) dX10_asks_34 zclX5 zo_10 ml_X10_185 mi_X5_begin mx_X5_begin in_X5 mc_X5_begin hy_X5_begin ⟨by decide, by decide⟩ rfl (Nat.le_of_ble_eq_true rfl) ?_
    refine j_iconst hK (1 : Int32) dX10_asks_37 ic_1 ?_
    refine j_istore hK (L' := [(5, .int (1 : Int32)), (4, .int y24), (3, .int r21), (0, .ref 0), (1, .int p1), (2, .int p2)]) dX10_asks_38 (by decide) rfl ?_
    refine j_iconst hK (0 : Int32) dX10_asks_40 ic_0 ?_
    refine j_istore hK (L' := [(6, .int (0 : Int32)), (5, .int (1 : Int32)), (4, .int y24), (3, .int r21), (0, .ref 0), (1, .int p1), (2, .int p2)]) dX10_asks_41 (by decide) rfl ?_
    refine j_sub [4, 2, 1, 0] rfl ?_
    refine t_X10_asks_43 hK hA  (fun v29 S30 hf => ?_) _ _ _ hf
    refine j_iload hK dX10_asks_112 1 rfl ?_
    refine j_if_ne hK 124 dX10_asks_114 (by decide) (fun hc => ?_) (fun hc => ?_)
    · replace hf := if_2 hc hf
      refine j_iload hK dX10_asks_124 1 rfl ?_
      exact j_iret hK dX10_asks_126 rfl (rt_I hA hf)
    · replace hf := if_1 hc hf
      refine j_aload_n hK dX10_asks_117 0 rfl rfl ?_
      refine j_getR hK fl_X10_26 dX10_asks_118 zo_0 zf_10_2 zr_0_2 ?_
      obtain ⟨r31, S32, h33, hf⟩ := bd_J hf
      refine k_callVv hK (c_X5_begin h33) dX10_asks_121 zclX5 zo_10 ml_X10_185 mi_X5_begin mx_X5_begin in_X5 mc_X5_begin hy_X5_begin ⟨by decide, by decide⟩ rfl (Nat.le_of_ble_eq_true rfl) ?_
      refine j_iload hK dX10_asks_124 1 rfl ?_
      exact j_iret hK dX10_asks_126 rfl (rt_I hA hf)
  · replace hf := if_2 hc hf
    refine j_iload_n hK dX10_asks_28 1 rfl rfl ?_
    exact j_iret hK dX10_asks_29 rfl (rt_I hA hf)
def f_X8_faultOfPair_70 (x2 : Int32) (S : St) : Option (Int32 × St) := some (x2, S)
theorem t_X8_faultOfPair_70 {K : CT} (hK : KO K cX8_faultOfPair RX8 3 3 (some .int)) {r : Int32} {S' : St} (hA : zans K = (some (.int r), S')) {x2 : Int32} {S : St} (hf : f_X8_faultOfPair_70 x2 S = some (r, S')) : J K 70 [(2, .int x2)] [] S := by
  unfold f_X8_faultOfPair_70 at hf
  refine j_iload_n hK dX8_faultOfPair_70 0 rfl rfl ?_
  refine j_goto hK 75 dX8_faultOfPair_71 (by decide) ?_
  exact j_iret hK dX8_faultOfPair_75 rfl (rt_I hA hf)
def f_X8_faultOfPair (S : St) : Option (Int32 × St) := bd (f_X8_lettersFrom (0 : Int32) S) (fun r1 S2 => lt (mnI r1 (6 : Int32)) (fun y4 => (if y4 = 0 then some (y4, S2) else (if (gI S2 1 1) ≤ y4 then some (y4, S2) else bd (f_X8_within y4 (59 : Int32) (59 : Int32) S2) (fun r5 S6 => (if r5 = 0 then some (y4, S6) else bd (f_X8_lettersFrom (y4 + (1 : Int32)) S6) (fun r8 S9 => lt ((y4 + (1 : Int32)) + (mnI r8 y4)) (fun y11 => (if y11 < (((2 : Int32) * y4) + (1 : Int32)) then f_X8_faultOfPair_70 y11 S9 else (if (gI S9 1 1) ≤ y11 then some ((-1 : Int32), S9) else f_X8_faultOfPair_70 y11 S9))))))))))
theorem c_X8_faultOfPair {S : St} {r : Int32} {S' : St} (hf : f_X8_faultOfPair S = some (r, S')) : zM yX8_faultOfPair cX8_faultOfPair 3 3 (some .int) [.ref 1] S (some (.int r)) S' := by
  refine zM_of (zpl (by decide)) (Nat.le_of_ble_eq_true rfl) rfl (fun K hK hA => ?_)
  unfold f_X8_faultOfPair at hf
  refine j_aload_n hK dX8_faultOfPair_0 0 rfl rfl ?_
  refine j_iconst hK (0 : Int32) dX8_faultOfPair_1 ic_0 ?_
  obtain ⟨r1, S2, h3, hf⟩ := bd_J hf
  refine k_callVi hK (c_X8_lettersFrom h3) dX8_faultOfPair_2 zclX8 zo_1 ml_X8_37 mi_X8_lettersFrom mx_X8_lettersFrom in_X8 mc_X8_lettersFrom hy_X8_lettersFrom ⟨by decide, by decide⟩ rfl (Nat.le_of_ble_eq_true rfl) ?_
  refine j_bipush hK (6 : Int32) dX8_faultOfPair_5 bi_6 ?_
  refine j_min hK ml_X8_23 dX8_faultOfPair_7 (by decide) (Nat.le_of_ble_eq_true rfl) ?_
  refine lt_I hf (fun y4 hf => ?_)
  refine j_istore_n hK (L' := [(1, .int y4), (0, .ref 1)]) dX8_faultOfPair_10 rfl (by decide) rfl ?_
  refine j_iload_n hK dX8_faultOfPair_11 0 rfl rfl ?_
  refine j_if_eq hK 35 dX8_faultOfPair_12 (by decide) (fun hc => ?_) (fun hc => ?_)
  · replace hf := if_1 hc hf
    refine j_iload_n hK dX8_faultOfPair_35 0 rfl rfl ?_
    exact j_iret hK dX8_faultOfPair_36 rfl (rt_I hA hf)
  · replace hf := if_2 hc hf
    refine j_iload_n hK dX8_faultOfPair_15 0 rfl rfl ?_
    refine j_aload_n hK dX8_faultOfPair_16 1 rfl rfl ?_
    refine j_getI hK fl_X8_15 dX8_faultOfPair_17 zo_1 zf_8_1 ?_
    refine j_icmp_ge hK 35 dX8_faultOfPair_20 (by decide) (fun hc => ?_) (fun hc => ?_)
    · replace hf := if_1 hc hf
      refine j_iload_n hK dX8_faultOfPair_35 0 rfl rfl ?_
      exact j_iret hK dX8_faultOfPair_36 rfl (rt_I hA hf)
    · replace hf := if_2 hc hf
      refine j_aload_n hK dX8_faultOfPair_23 1 rfl rfl ?_
      refine j_iload_n hK dX8_faultOfPair_24 0 rfl rfl ?_
      refine j_bipush hK (59 : Int32) dX8_faultOfPair_25 bi_59 ?_
      refine j_bipush hK (59 : Int32) dX8_faultOfPair_27 bi_59 ?_
      obtain ⟨r5, S6, h7, hf⟩ := bd_J hf
      refine k_callVi hK (c_X8_within h7) dX8_faultOfPair_29 zclX8 zo_1 ml_X8_19 mi_X8_within mx_X8_within in_X8 mc_X8_within hy_X8_within ⟨by decide, by decide⟩ rfl (Nat.le_of_ble_eq_true rfl) ?_
      refine j_if_ne hK 37 dX8_faultOfPair_32 (by decide) (fun hc => ?_) (fun hc => ?_)
      · replace hf := if_2 hc hf
        refine j_iload_n hK dX8_faultOfPair_37 0 rfl rfl ?_
        refine j_iconst hK (1 : Int32) dX8_faultOfPair_38 ic_1 ?_
        refine j_iadd hK dX8_faultOfPair_39 ?_
        refine j_aload_n hK dX8_faultOfPair_40 1 rfl rfl ?_
        refine j_iload_n hK dX8_faultOfPair_41 0 rfl rfl ?_
        refine j_iconst hK (1 : Int32) dX8_faultOfPair_42 ic_1 ?_
        refine j_iadd hK dX8_faultOfPair_43 ?_
        refine j_pc (pc' := 44) rfl ?_
        obtain ⟨r8, S9, h10, hf⟩ := bd_J hf
        refine k_callVi hK (c_X8_lettersFrom h10) dX8_faultOfPair_44 zclX8 zo_1 ml_X8_37 mi_X8_lettersFrom mx_X8_lettersFrom in_X8 mc_X8_lettersFrom hy_X8_lettersFrom ⟨by decide, by decide⟩ rfl (Nat.le_of_ble_eq_true rfl) ?_
        refine j_iload_n hK dX8_faultOfPair_47 0 rfl rfl ?_
        refine j_min hK ml_X8_23 dX8_faultOfPair_48 (by decide) (Nat.le_of_ble_eq_true rfl) ?_
        refine j_iadd hK dX8_faultOfPair_51 ?_
        refine lt_I hf (fun y11 hf => ?_)
        refine j_istore_n hK (L' := [(2, .int y11), (1, .int y4), (0, .ref 1)]) dX8_faultOfPair_52 rfl (by decide) rfl ?_
        refine j_iload_n hK dX8_faultOfPair_53 0 rfl rfl ?_
        refine j_iconst hK (2 : Int32) dX8_faultOfPair_54 ic_2 ?_
        refine j_iload_n hK dX8_faultOfPair_55 1 rfl rfl ?_
        refine j_pc (pc' := 56) rfl ?_
        refine j_imul hK dX8_faultOfPair_56 ?_
        refine j_iconst hK (1 : Int32) dX8_faultOfPair_57 ic_1 ?_
        refine j_iadd hK dX8_faultOfPair_58 ?_
        refine j_icmp_lt hK 70 dX8_faultOfPair_59 (by decide) (fun hc => ?_) (fun hc => ?_)
        · replace hf := if_1 hc hf
          refine j_sub [0] rfl ?_
          exact t_X8_faultOfPair_70 hK hA  hf
        · replace hf := if_2 hc hf
          refine j_iload_n hK dX8_faultOfPair_62 0 rfl rfl ?_
          refine j_aload_n hK dX8_faultOfPair_63 2 rfl rfl ?_
          refine j_getI hK fl_X8_15 dX8_faultOfPair_64 zo_1 zf_8_1 ?_
          refine j_icmp_ge hK 74 dX8_faultOfPair_67 (by decide) (fun hc => ?_) (fun hc => ?_)
          · replace hf := if_1 hc hf
            refine j_iconst hK (-1 : Int32) dX8_faultOfPair_74 ic_m1 ?_
            exact j_iret hK dX8_faultOfPair_75 rfl (rt_I hA hf)
          · replace hf := if_2 hc hf
            refine j_sub [0] rfl ?_
            exact t_X8_faultOfPair_70 hK hA  hf
      · replace hf := if_1 hc hf
        refine j_iload_n hK dX8_faultOfPair_35 0 rfl rfl ?_
        exact j_iret hK dX8_faultOfPair_36 rfl (rt_I hA hf)
