def f_X2_leastOf (p1 : Int32) (S : St) : Option (Int32 × St) := (if p1 = 0 then some ((-1 : Int32), S) else bd (f_J6_numberOfTrailingZeros_0f7a4 p1 S) (fun r1 S2 => some (r1, S2)))
theorem c_X2_leastOf {p1 : Int32} {S : St} {r : Int32} {S' : St} (hf : f_X2_leastOf p1 S = some (r, S')) : zM yX2_leastOf cX2_leastOf 2 2 (some .int) [.ref 92, .int p1] S (some (.int r)) S' := by
  refine zM_of (zpl (by decide)) (Nat.le_of_ble_eq_true rfl) rfl (fun K hK hA => ?_)
  unfold f_X2_leastOf at hf
  refine j_iload_n hK dX2_leastOf_0 1 rfl rfl ?_
  refine j_if_ne hK 8 dX2_leastOf_1 (by decide) (fun hc => ?_) (fun hc => ?_)
  · replace hf := if_2 hc hf
    refine j_iload_n hK dX2_leastOf_8 1 rfl rfl ?_
    obtain ⟨r1, S2, h3, hf⟩ := bd_J hf
    refine k_callSi hK (c_J6_numberOfTrailingZeros_0f7a4 h3) dX2_leastOf_9 ml_X2_81 ms_J6_numberOfTrailingZeros_0f7a4 in_J6 mc_J6_numberOfTrailingZeros_0f7a4 hy_J6_numberOfTrailingZeros_0f7a4 ⟨by decide, by decide⟩ rfl (Nat.le_of_ble_eq_true rfl) ?_
    exact j_iret hK dX2_leastOf_12 rfl (rt_I hA hf)
  · replace hf := if_1 hc hf
    refine j_iconst hK (-1 : Int32) dX2_leastOf_4 ic_m1 ?_
    refine j_goto hK 12 dX2_leastOf_5 (by decide) ?_
    exact j_iret hK dX2_leastOf_12 rfl (rt_I hA hf)
def f_X2_goes_209 (x1 : Int32) (x3 : Int32) (s0 : Int32) (k e : Int32 × Int32 → St → Option (Int32 × St)) (S : St) : Option (Int32 × St) := k (x3, s0) S
theorem t_X2_goes_209 {K : CT} (hK : KO K cX2_goes RX2 5 4 (some .boolean)) {r : Int32} {S' : St} (hA : zans K = (some (.int r), S')) {x1 : Int32} {x3 : Int32} {s0 : Int32} {k e : Int32 × Int32 → St → Option (Int32 × St)} (hk : ∀ (v : Int32 × Int32) (S : St), k v S = some (r, S') → J K 65 [(0, .ref 92), (1, .int x1), (3, .int v.1), (4, .int v.2)] [] S) (he : ∀ (v : Int32 × Int32) (S : St), e v S = some (r, S') → J K 214 [] [] S) {S : St} (hf : f_X2_goes_209 x1 x3 s0 k e S = some (r, S')) : J K 209 [(0, .ref 92), (1, .int x1), (3, .int x3)] [.int s0] S := by
  unfold f_X2_goes_209 at hf
  refine j_istore hK (L' := [(4, .int s0), (0, .ref 92), (1, .int x1), (3, .int x3)]) dX2_goes_209 (by decide) rfl ?_
  refine j_goto hK 65 dX2_goes_211 (by decide) ?_
  refine j_sub [1, 2, 3, 0] rfl ?_
  exact hk _ _ hf
def f_X2_goes_121 (x1 : Int32) (x3 : Int32) (x4 : Int32) (s1 : Int32) (s2 : Int32) (k e : Int32 × Int32 → St → Option (Int32 × St)) (S : St) : Option (Int32 × St) := if inb s1 12 then lt (sI S 94 s1.toNatClampNeg s2) (fun S2 => lt (sI S2 92 3 ((gI S2 92 3) + (1 : Int32))) (fun S3 => if inb x4 12 then lt (sI S3 92 4 ((gI S3 92 4) + (gI S3 7 x4.toNatClampNeg))) (fun S5 => lt (x3 &&& (((1 : Int32) <<< (x4 &&& 31)) ^^^ (-1 : Int32))) (fun y6 => bd (f_X0_acrossFrom (gI S5 92 5) x4 S5) (fun r7 S8 => lt (sI S8 92 5 r7) (fun S10 => (if (gI S10 92 5) = x1 then f_X2_goes_209 x1 y6 (-1 : Int32) k e S10 else bd (f_X0_openOf (gI S10 92 5) S10) (fun r11 S12 => bd (f_X2_leastOf (y6 &&& r11) S12) (fun r14 S15 => f_X2_goes_209 x1 y6 r14 k e S15))))))) else none)) else none
theorem t_X2_goes_121 {K : CT} (hK : KO K cX2_goes RX2 5 4 (some .boolean)) {r : Int32} {S' : St} (hA : zans K = (some (.int r), S')) {x1 : Int32} {x3 : Int32} {x4 : Int32} {s1 : Int32} {s2 : Int32} {k e : Int32 × Int32 → St → Option (Int32 × St)} (hk : ∀ (v : Int32 × Int32) (S : St), k v S = some (r, S') → J K 65 [(0, .ref 92), (1, .int x1), (3, .int v.1), (4, .int v.2)] [] S) (he : ∀ (v : Int32 × Int32) (S : St), e v S = some (r, S') → J K 214 [] [] S) {S : St} (hf : f_X2_goes_121 x1 x3 x4 s1 s2 k e S = some (r, S')) : J K 121 [(0, .ref 92), (1, .int x1), (3, .int x3), (4, .int x4)] [.int s2, .int s1, .ref 94] S := by
  unfold f_X2_goes_121 at hf
  obtain ⟨hi1, hf⟩ := gd hf
  refine k_iast hK dX2_goes_121 zb_94 hi1 rfl ?_
  refine lt_S hf (fun S2 hf => ?_)
  refine j_aload_n hK dX2_goes_122 0 rfl rfl ?_
  refine j_dup hK dX2_goes_123 rfl ?_
  refine j_getI hK fl_X2_22 dX2_goes_124 zo_92 zf_2_3 ?_
  refine j_iconst hK (1 : Int32) dX2_goes_127 ic_1 ?_
  refine j_iadd hK dX2_goes_128 ?_
  refine j_putI hK fl_X2_22 dX2_goes_129 zo_92 zf_2_3 ?_
  refine lt_S hf (fun S3 hf => ?_)
  refine j_aload_n hK dX2_goes_132 0 rfl rfl ?_
  refine j_pc (pc' := 133) rfl ?_
  refine j_dup hK dX2_goes_133 rfl ?_
  refine j_getI hK fl_X2_26 dX2_goes_134 zo_92 zf_2_4 ?_
  refine j_aload_n hK dX2_goes_137 0 rfl rfl ?_
  refine j_getR hK fl_X2_9 dX2_goes_138 zo_92 zf_2_0 zr_92_0 ?_
  refine j_getR hK fl_X2_55 dX2_goes_141 zo_3 zf_0_3 zr_3_3 ?_
  refine j_getR hK fl_X2_67 dX2_goes_144 zo_6 zf_7_0 zr_6_0 ?_
  refine j_iload hK dX2_goes_147 3 rfl ?_
  obtain ⟨hi4, hf⟩ := gd hf
  refine k_iald hK dX2_goes_149 zb_7 hi4 rfl ?_
  refine j_pc (pc' := 150) rfl ?_
  refine j_iadd hK dX2_goes_150 ?_
  refine j_putI hK fl_X2_26 dX2_goes_151 zo_92 zf_2_4 ?_
  refine lt_S hf (fun S5 hf => ?_)
  refine j_iload_n hK dX2_goes_154 2 rfl rfl ?_
  refine j_iconst hK (1 : Int32) dX2_goes_155 ic_1 ?_
  refine j_iload hK dX2_goes_156 3 rfl ?_
  refine j_ishl hK dX2_goes_158 ?_
  refine j_iconst hK (-1 : Int32) dX2_goes_159 ic_m1 ?_
  refine j_ixor hK dX2_goes_160 ?_
  refine j_pc (pc' := 161) rfl ?_
  refine j_iand hK dX2_goes_161 ?_
  refine lt_I hf (fun y6 hf => ?_)
  refine j_istore_n hK (L' := [(3, .int y6), (0, .ref 92), (1, .int x1), (4, .int x4)]) dX2_goes_162 rfl (by decide) rfl ?_
  refine j_aload_n hK dX2_goes_163 1 rfl rfl ?_
  refine j_aload_n hK dX2_goes_164 1 rfl rfl ?_
  refine j_getR hK fl_X2_9 dX2_goes_165 zo_92 zf_2_0 zr_92_0 ?_
  refine j_aload_n hK dX2_goes_168 1 rfl rfl ?_
  refine j_getI hK fl_X2_29 dX2_goes_169 zo_92 zf_2_5 ?_
  refine j_iload hK dX2_goes_172 3 rfl ?_
  refine j_pc (pc' := 174) rfl ?_
  obtain ⟨r7, S8, h9, hf⟩ := bd_J hf
  refine k_callVi hK (c_X0_acrossFrom h9) dX2_goes_174 zclX0 zo_3 ml_X2_70 mi_X0_acrossFrom mx_X0_acrossFrom in_X0 mc_X0_acrossFrom hy_X0_acrossFrom ⟨by decide, by decide⟩ rfl (Nat.le_of_ble_eq_true rfl) ?_
  refine j_putI hK fl_X2_29 dX2_goes_177 zo_92 zf_2_5 ?_
  refine lt_S hf (fun S10 hf => ?_)
  refine j_aload_n hK dX2_goes_180 1 rfl rfl ?_
  refine j_getI hK fl_X2_29 dX2_goes_181 zo_92 zf_2_5 ?_
  refine j_iload_n hK dX2_goes_184 2 rfl rfl ?_
  refine j_icmp_ne hK 192 dX2_goes_185 (by decide) (fun hc => ?_) (fun hc => ?_)
  · replace hf := if_2 hc hf
    refine j_aload_n hK dX2_goes_192 1 rfl rfl ?_
    refine j_iload_n hK dX2_goes_193 0 rfl rfl ?_
    refine j_aload_n hK dX2_goes_194 1 rfl rfl ?_
    refine j_getR hK fl_X2_9 dX2_goes_195 zo_92 zf_2_0 zr_92_0 ?_
    refine j_aload_n hK dX2_goes_198 1 rfl rfl ?_
    refine j_getI hK fl_X2_29 dX2_goes_199 zo_92 zf_2_5 ?_
    obtain ⟨r11, S12, h13, hf⟩ := bd_J hf
    refine k_callVi hK (c_X0_openOf h13) dX2_goes_202 zclX0 zo_3 ml_X2_74 mi_X0_openOf mx_X0_openOf in_X0 mc_X0_openOf hy_X0_openOf ⟨by decide, by decide⟩ rfl (Nat.le_of_ble_eq_true rfl) ?_
    refine j_pc (pc' := 205) rfl ?_
    refine j_iand hK dX2_goes_205 ?_
    obtain ⟨r14, S15, h16, hf⟩ := bd_J hf
    refine k_callVi hK (c_X2_leastOf h16) dX2_goes_206 zclX2 zo_92 ml_X2_78 mi_X2_leastOf mx_X2_leastOf in_X2 mc_X2_leastOf hy_X2_leastOf ⟨by decide, by decide⟩ rfl (Nat.le_of_ble_eq_true rfl) ?_
    refine j_sub [1, 2, 0] rfl ?_
    exact t_X2_goes_209 hK hA hk he hf
  · replace hf := if_1 hc hf
    refine j_iconst hK (-1 : Int32) dX2_goes_188 ic_m1 ?_
    refine j_goto hK 209 dX2_goes_189 (by decide) ?_
    refine j_sub [1, 2, 0] rfl ?_
    exact t_X2_goes_209 hK hA hk he hf
def f_X2_goes_65b (x1 : Int32) (e : Int32 × Int32 → St → Option (Int32 × St)) (k : Int32 × Int32 → St → Option (Int32 × St)) (v : Int32 × Int32) (S : St) : Option (Int32 × St) := (if v.2 = (-1 : Int32) then e (v.1, v.2) S else (if (12 : Int32) ≤ (gI S 92 3) then e (v.1, v.2) S else if inb (gI S 92 3) 12 then lt (sI S 93 (gI S 92 3).toNatClampNeg v.2) (fun S18 => if inb v.2 12 then (if (gI S18 5 v.2.toNatClampNeg) = (gI S18 92 5) then f_X2_goes_121 x1 v.1 v.2 (gI S18 92 3) (1 : Int32) k e S18 else f_X2_goes_121 x1 v.1 v.2 (gI S18 92 3) (0 : Int32) k e S18) else none) else none))
theorem t_X2_goes_65 {K : CT} (hK : KO K cX2_goes RX2 5 4 (some .boolean)) {r : Int32} {S' : St} (hA : zans K = (some (.int r), S')) {x1 : Int32} {e : Int32 × Int32 → St → Option (Int32 × St)} (he : ∀ (v : Int32 × Int32) (S : St), e v S = some (r, S') → J K 214 [] [] S) : ∀ (n : Nat) (v : Int32 × Int32) (S : St), lp (f_X2_goes_65b x1 e) n v S = some (r, S') → J K 65 [(0, .ref 92), (1, .int x1), (3, .int v.1), (4, .int v.2)] [] S :=
  lp_J (P := fun (v : Int32 × Int32) (S : St) => J K 65 [(0, .ref 92), (1, .int x1), (3, .int v.1), (4, .int v.2)] [] S) (fun k hk v S hf => by
    unfold f_X2_goes_65b at hf
    refine j_iload hK dX2_goes_65 3 rfl ?_
    refine j_iconst hK (-1 : Int32) dX2_goes_67 ic_m1 ?_
    refine j_icmp_eq hK 214 dX2_goes_68 (by decide) (fun hc => ?_) (fun hc => ?_)
    · replace hf := if_1 hc hf
      refine j_sub [] rfl ?_
      exact he _ _ hf
    · replace hf := if_2 hc hf
      refine j_aload_n hK dX2_goes_71 0 rfl rfl ?_
      refine j_getI hK fl_X2_22 dX2_goes_72 zo_92 zf_2_3 ?_
      refine j_bipush hK (12 : Int32) dX2_goes_75 bi_12 ?_
      refine j_icmp_ge hK 214 dX2_goes_77 (by decide) (fun hc => ?_) (fun hc => ?_)
      · replace hf := if_1 hc hf
        refine j_sub [] rfl ?_
        exact he _ _ hf
      · replace hf := if_2 hc hf
        refine j_aload_n hK dX2_goes_80 0 rfl rfl ?_
        refine j_getR hK fl_X2_15 dX2_goes_81 zo_92 zf_2_1 zr_92_1 ?_
        refine j_aload_n hK dX2_goes_84 0 rfl rfl ?_
        refine j_getI hK fl_X2_22 dX2_goes_85 zo_92 zf_2_3 ?_
        refine j_iload hK dX2_goes_88 3 rfl ?_
        obtain ⟨hi17, hf⟩ := gd hf
        refine k_iast hK dX2_goes_90 zb_93 hi17 rfl ?_
        refine lt_S hf (fun S18 hf => ?_)
        refine j_aload_n hK dX2_goes_91 0 rfl rfl ?_
        refine j_pc (pc' := 92) rfl ?_
        refine j_getR hK fl_X2_19 dX2_goes_92 zo_92 zf_2_2 zr_92_2 ?_
        refine j_aload_n hK dX2_goes_95 0 rfl rfl ?_
        refine j_getI hK fl_X2_22 dX2_goes_96 zo_92 zf_2_3 ?_
        refine j_aload_n hK dX2_goes_99 0 rfl rfl ?_
        refine j_getR hK fl_X2_9 dX2_goes_100 zo_92 zf_2_0 zr_92_0 ?_
        refine j_getR hK fl_X2_64 dX2_goes_103 zo_3 zf_0_1 zr_3_1 ?_
        refine j_iload hK dX2_goes_106 3 rfl ?_
        obtain ⟨hi19, hf⟩ := gd hf
        refine k_iald hK dX2_goes_108 zb_5 hi19 rfl ?_
        refine j_pc (pc' := 109) rfl ?_
        refine j_aload_n hK dX2_goes_109 0 rfl rfl ?_
        refine j_getI hK fl_X2_29 dX2_goes_110 zo_92 zf_2_5 ?_
        refine j_icmp_ne hK 120 dX2_goes_113 (by decide) (fun hc => ?_) (fun hc => ?_)
        · replace hf := if_2 hc hf
          refine j_iconst hK (0 : Int32) dX2_goes_120 ic_0 ?_
          exact t_X2_goes_121 hK hA hk he hf
        · replace hf := if_1 hc hf
          refine j_iconst hK (1 : Int32) dX2_goes_116 ic_1 ?_
          refine j_goto hK 121 dX2_goes_117 (by decide) ?_
          exact t_X2_goes_121 hK hA hk he hf)
def f_X2_goes (p1 : Int32) (p2 : Int32) (S : St) : Option (Int32 × St) := bd (f_X0_has p2 S) (fun r20 S21 => (if r20 = 0 then some ((0 : Int32), S21) else bd (f_X0_isOpen p2 S21) (fun r23 S24 => (if r23 = 0 then some ((0 : Int32), S24) else bd (f_X0_isEnd p1 p2 S24) (fun r26 S27 => (if r26 = 0 then some ((0 : Int32), S27) else lt (sI S27 92 3 (0 : Int32)) (fun S29 => lt (sI S29 92 4 (0 : Int32)) (fun S30 => lt (sI S30 92 5 p1) (fun S31 => lt (gI S31 6 3) (fun y32 => lp (f_X2_goes_65b p1 (fun v33 S34 => some ((1 : Int32), S34))) FU (y32, p2) S31))))))))))
theorem c_X2_goes {p1 : Int32} {p2 : Int32} {S : St} {r : Int32} {S' : St} (hf : f_X2_goes p1 p2 S = some (r, S')) : zM yX2_goes cX2_goes 5 4 (some .boolean) [.ref 92, .int p1, .int p2] S (some (.int r)) S' := by
  refine zM_of (zpl (by decide)) (Nat.le_of_ble_eq_true rfl) rfl (fun K hK hA => ?_)
  unfold f_X2_goes at hf
  refine j_aload_n hK dX2_goes_0 0 rfl rfl ?_
  refine j_getR hK fl_X2_9 dX2_goes_1 zo_92 zf_2_0 zr_92_0 ?_
  refine j_iload_n hK dX2_goes_4 2 rfl rfl ?_
  obtain ⟨r20, S21, h22, hf⟩ := bd_J hf
  refine k_callVi hK (c_X0_has h22) dX2_goes_5 zclX0 zo_3 ml_X2_42 mi_X0_has mx_X0_has in_X0 mc_X0_has hy_X0_has ⟨by decide, by decide⟩ rfl (Nat.le_of_ble_eq_true rfl) ?_
  refine j_if_eq hK 34 dX2_goes_8 (by decide) (fun hc => ?_) (fun hc => ?_)
  · replace hf := if_1 hc hf
    refine j_iconst hK (0 : Int32) dX2_goes_34 ic_0 ?_
    exact j_zret hK dX2_goes_35 rfl rfl (rt_I hA hf)
  · replace hf := if_2 hc hf
    refine j_aload_n hK dX2_goes_11 0 rfl rfl ?_
    refine j_getR hK fl_X2_9 dX2_goes_12 zo_92 zf_2_0 zr_92_0 ?_
    refine j_iload_n hK dX2_goes_15 2 rfl rfl ?_
    obtain ⟨r23, S24, h25, hf⟩ := bd_J hf
    refine k_callVi hK (c_X0_isOpen h25) dX2_goes_16 zclX0 zo_3 ml_X2_48 mi_X0_isOpen mx_X0_isOpen in_X0 mc_X0_isOpen hy_X0_isOpen ⟨by decide, by decide⟩ rfl (Nat.le_of_ble_eq_true rfl) ?_
    refine j_if_eq hK 34 dX2_goes_19 (by decide) (fun hc => ?_) (fun hc => ?_)
    · replace hf := if_1 hc hf
      refine j_iconst hK (0 : Int32) dX2_goes_34 ic_0 ?_
      exact j_zret hK dX2_goes_35 rfl rfl (rt_I hA hf)
    · replace hf := if_2 hc hf
      refine j_aload_n hK dX2_goes_22 0 rfl rfl ?_
      refine j_getR hK fl_X2_9 dX2_goes_23 zo_92 zf_2_0 zr_92_0 ?_
      refine j_iload_n hK dX2_goes_26 1 rfl rfl ?_
      refine j_iload_n hK dX2_goes_27 2 rfl rfl ?_
      obtain ⟨r26, S27, h28, hf⟩ := bd_J hf
      refine k_callVi hK (c_X0_isEnd h28) dX2_goes_28 zclX0 zo_3 ml_X2_51 mi_X0_isEnd mx_X0_isEnd in_X0 mc_X0_isEnd hy_X0_isEnd ⟨by decide, by decide⟩ rfl (Nat.le_of_ble_eq_true rfl) ?_
      refine j_if_ne hK 36 dX2_goes_31 (by decide) (fun hc => ?_) (fun hc => ?_)
      · replace hf := if_2 hc hf
        refine j_aload_n hK dX2_goes_36 0 rfl rfl ?_
        refine j_iconst hK (0 : Int32) dX2_goes_37 ic_0 ?_
        refine j_putI hK fl_X2_22 dX2_goes_38 zo_92 zf_2_3 ?_
        refine lt_S hf (fun S29 hf => ?_)
        refine j_aload_n hK dX2_goes_41 0 rfl rfl ?_
        refine j_iconst hK (0 : Int32) dX2_goes_42 ic_0 ?_
        refine j_putI hK fl_X2_26 dX2_goes_43 zo_92 zf_2_4 ?_
        refine lt_S hf (fun S30 hf => ?_)
        refine j_aload_n hK dX2_goes_46 0 rfl rfl ?_
        refine j_pc (pc' := 47) rfl ?_
        refine j_iload_n hK dX2_goes_47 1 rfl rfl ?_
        refine j_putI hK fl_X2_29 dX2_goes_48 zo_92 zf_2_5 ?_
        refine lt_S hf (fun S31 hf => ?_)
        refine j_aload_n hK dX2_goes_51 0 rfl rfl ?_
        refine j_getR hK fl_X2_9 dX2_goes_52 zo_92 zf_2_0 zr_92_0 ?_
        refine j_getR hK fl_X2_55 dX2_goes_55 zo_3 zf_0_3 zr_3_3 ?_
        refine j_getI hK fl_X2_59 dX2_goes_58 zo_6 zf_7_3 ?_
        refine lt_I hf (fun y32 hf => ?_)
        refine j_istore_n hK (L' := [(3, .int y32), (0, .ref 92), (1, .int p1), (2, .int p2)]) dX2_goes_61 rfl (by decide) rfl ?_
        refine j_iload_n hK dX2_goes_62 3 rfl rfl ?_
        refine j_pc (pc' := 63) rfl ?_
        refine j_istore hK (L' := [(4, .int p2), (3, .int y32), (0, .ref 92), (1, .int p1), (2, .int p2)]) dX2_goes_63 (by decide) rfl ?_
        refine j_sub [2, 3, 1, 0] rfl ?_
        refine t_X2_goes_65 hK hA  (fun v33 S34 hf => ?_) _ _ _ hf
        refine j_iconst hK (1 : Int32) dX2_goes_214 ic_1 ?_
        exact j_zret hK dX2_goes_215 rfl rfl (rt_I hA hf)
      · replace hf := if_1 hc hf
        refine j_iconst hK (0 : Int32) dX2_goes_34 ic_0 ?_
        exact j_zret hK dX2_goes_35 rfl rfl (rt_I hA hf)
def f_X2_comesOut_6b (ru : Nat) (x3 : Int32) (e : Int32 × Int32 → St → Option (Int32 × St)) (k : Int32 × Int32 → St → Option (Int32 × St)) (v : Int32 × Int32) (S : St) : Option (Int32 × St) := (if (gI S 92 3) ≤ v.2 then e (v.1, v.2) S else if inb v.2 12 then if inb v.2 12 then bd (f_X6_changed ru (gI S 93 v.2.toNatClampNeg) (gI S 94 v.2.toNatClampNeg) x3 v.1 S) (fun r3 S4 => k (r3, (v.2 + (1 : Int32))) S4) else none else none)
theorem t_X2_comesOut_6 {K : CT} (hK : KO K cX2_comesOut RX2 6 4 (some .int)) {r : Int32} {S' : St} (hA : zans K = (some (.int r), S')) {ru : Nat} (hru : isRule ru) {x3 : Int32} {e : Int32 × Int32 → St → Option (Int32 × St)} (he : ∀ (v : Int32 × Int32) (S : St), e v S = some (r, S') → J K 51 [(4, .int v.1)] [] S) : ∀ (n : Nat) (v : Int32 × Int32) (S : St), lp (f_X2_comesOut_6b ru x3 e) n v S = some (r, S') → J K 6 [(0, .ref 92), (1, .ref ru), (3, .int x3), (4, .int v.1), (5, .int v.2)] [] S :=
  lp_J (P := fun (v : Int32 × Int32) (S : St) => J K 6 [(0, .ref 92), (1, .ref ru), (3, .int x3), (4, .int v.1), (5, .int v.2)] [] S) (fun k hk v S hf => by
    unfold f_X2_comesOut_6b at hf
    refine j_iload hK dX2_comesOut_6 4 rfl ?_
    refine j_aload_n hK dX2_comesOut_8 0 rfl rfl ?_
    refine j_getI hK fl_X2_22 dX2_comesOut_9 zo_92 zf_2_3 ?_
    refine j_icmp_ge hK 51 dX2_comesOut_12 (by decide) (fun hc => ?_) (fun hc => ?_)
    · replace hf := if_1 hc hf
      refine j_sub [3] rfl ?_
      exact he _ _ hf
    · replace hf := if_2 hc hf
      refine j_aload_n hK dX2_comesOut_15 1 rfl rfl ?_
      refine j_aload_n hK dX2_comesOut_16 0 rfl rfl ?_
      refine j_getR hK fl_X2_9 dX2_comesOut_17 zo_92 zf_2_0 zr_92_0 ?_
      refine j_getR hK fl_X2_55 dX2_comesOut_20 zo_3 zf_0_3 zr_3_3 ?_
      refine j_aload_n hK dX2_comesOut_23 0 rfl rfl ?_
      refine j_getR hK fl_X2_15 dX2_comesOut_24 zo_92 zf_2_1 zr_92_1 ?_
      refine j_iload hK dX2_comesOut_27 4 rfl ?_
      refine j_pc (pc' := 29) rfl ?_
      obtain ⟨hi1, hf⟩ := gd hf
      refine k_iald hK dX2_comesOut_29 zb_93 hi1 rfl ?_
      refine j_aload_n hK dX2_comesOut_30 0 rfl rfl ?_
      refine j_getR hK fl_X2_19 dX2_comesOut_31 zo_92 zf_2_2 zr_92_2 ?_
      refine j_iload hK dX2_comesOut_34 4 rfl ?_
      obtain ⟨hi2, hf⟩ := gd hf
      refine k_iald hK dX2_comesOut_36 zb_94 hi2 rfl ?_
      refine j_iload_n hK dX2_comesOut_37 2 rfl rfl ?_
      refine j_iload hK dX2_comesOut_38 3 rfl ?_
      obtain ⟨r3, S4, h5, hf⟩ := bd_J hf
      refine k_callVi hK (c_X6_changed hru h5) dX2_comesOut_40 zclX6 (ru_o hru) ml_X2_86 mi_X6_changed mx_X6_changed in_X6 mc_X6_changed hy_X6_changed ⟨by decide, by decide⟩ rfl (Nat.le_of_ble_eq_true rfl) ?_
      refine j_pc (pc' := 43) rfl ?_
      refine j_istore hK (L' := [(4, .int r3), (0, .ref 92), (1, .ref ru), (3, .int x3), (5, .int v.2)]) dX2_comesOut_43 (by decide) rfl ?_
      refine j_iinc hK (L' := [(5, .int (v.2 + (1 : Int32))), (4, .int r3), (0, .ref 92), (1, .ref ru), (3, .int x3)]) dX2_comesOut_45 4 rfl (congrArg (fun y => v.2 + y) ic_1) (by decide) rfl ?_
      refine j_goto hK 6 dX2_comesOut_48 (by decide) ?_
      refine j_sub [2, 3, 4, 1, 0] rfl ?_
      exact hk _ _ hf)
def f_X2_comesOut (ru : Nat) (p2 : Int32) (p3 : Int32) (S : St) : Option (Int32 × St) := lp (f_X2_comesOut_6b ru p3 (fun v6 S7 => some (v6.1, S7))) FU (p2, (0 : Int32)) S
theorem c_X2_comesOut {ru : Nat} (hru : isRule ru) {p2 : Int32} {p3 : Int32} {S : St} {r : Int32} {S' : St} (hf : f_X2_comesOut ru p2 p3 S = some (r, S')) : zM yX2_comesOut cX2_comesOut 6 4 (some .int) [.ref 92, .ref ru, .int p2, .int p3] S (some (.int r)) S' := by
  refine zM_of (zpl (by decide)) (Nat.le_of_ble_eq_true rfl) rfl (fun K hK hA => ?_)
  unfold f_X2_comesOut at hf
  refine j_iload_n hK dX2_comesOut_0 2 rfl rfl ?_
  refine j_istore hK (L' := [(4, .int p2), (0, .ref 92), (1, .ref ru), (2, .int p2), (3, .int p3)]) dX2_comesOut_1 (by decide) rfl ?_
  refine j_iconst hK (0 : Int32) dX2_comesOut_3 ic_0 ?_
  refine j_istore hK (L' := [(5, .int (0 : Int32)), (4, .int p2), (0, .ref 92), (1, .ref ru), (2, .int p2), (3, .int p3)]) dX2_comesOut_4 (by decide) rfl ?_
  refine j_sub [2, 3, 5, 1, 0] rfl ?_
  refine t_X2_comesOut_6 hK hA hru (fun v6 S7 hf => ?_) _ _ _ hf
  refine j_iload hK dX2_comesOut_51 0 rfl ?_
  exact j_iret hK dX2_comesOut_53 rfl (rt_I hA hf)
def f_X2_imagesAt_3b (ru : Nat) (x2 : Int32) (e : Int32 → St → Option (Unit × St)) (k : Int32 → St → Option (Unit × St)) (v : Int32) (S : St) : Option (Unit × St) := (if (8 : Int32) ≤ v then e v S else bd (f_X2_comesOut ru v x2 S) (fun r1 S2 => if inb v 8 then lt (sI S2 120 v.toNatClampNeg r1) (fun S5 => k (v + (1 : Int32)) S5) else none))
theorem t_X2_imagesAt_3 {K : CT} (hK : KO K cX2_imagesAt RX2 5 5 none) {r : Unit} {S' : St} (hA : zans K = (none, S')) {ru : Nat} (hru : isRule ru) {x2 : Int32} {e : Int32 → St → Option (Unit × St)} (he : ∀ (v : Int32) (S : St), e v S = some (r, S') → J K 28 [] [] S) : ∀ (n : Nat) (v : Int32) (S : St), lp (f_X2_imagesAt_3b ru x2 e) n v S = some (r, S') → J K 3 [(0, .ref 92), (1, .ref ru), (2, .int x2), (3, .ref 120), (4, .int v)] [] S :=
  lp_J (P := fun (v : Int32) (S : St) => J K 3 [(0, .ref 92), (1, .ref ru), (2, .int x2), (3, .ref 120), (4, .int v)] [] S) (fun k hk v S hf => by
    unfold f_X2_imagesAt_3b at hf
    refine j_iload hK dX2_imagesAt_3 4 rfl ?_
    refine j_aload_n hK dX2_imagesAt_5 3 rfl rfl ?_
    refine j_alen (ki := 0) hK dX2_imagesAt_6 zb_120 (by decide) ?_
    refine j_icmp_ge hK 28 dX2_imagesAt_7 (by decide) (fun hc => ?_) (fun hc => ?_)
    · replace hf := if_1 hc hf
      refine j_sub [] rfl ?_
      exact he _ _ hf
    · replace hf := if_2 hc hf
      refine j_aload_n hK dX2_imagesAt_10 3 rfl rfl ?_
      refine j_iload hK dX2_imagesAt_11 4 rfl ?_
      refine j_aload_n hK dX2_imagesAt_13 0 rfl rfl ?_
      refine j_aload_n hK dX2_imagesAt_14 1 rfl rfl ?_
      refine j_iload hK dX2_imagesAt_15 4 rfl ?_
      refine j_iload_n hK dX2_imagesAt_17 2 rfl rfl ?_
      obtain ⟨r1, S2, h3, hf⟩ := bd_J hf
      refine k_callVi hK (c_X2_comesOut hru h3) dX2_imagesAt_18 zclX2 zo_92 ml_X2_92 mi_X2_comesOut mx_X2_comesOut in_X2 mc_X2_comesOut hy_X2_comesOut ⟨by decide, by decide⟩ rfl (Nat.le_of_ble_eq_true rfl) ?_
      refine j_pc (pc' := 21) rfl ?_
      obtain ⟨hi4, hf⟩ := gd hf
      refine k_iast hK dX2_imagesAt_21 zb_120 hi4 rfl ?_
      refine lt_S hf (fun S5 hf => ?_)
      refine j_iinc hK (L' := [(4, .int (v + (1 : Int32))), (0, .ref 92), (1, .ref ru), (2, .int x2), (3, .ref 120)]) dX2_imagesAt_22 4 rfl (congrArg (fun y => v + y) ic_1) (by decide) rfl ?_
      refine j_goto hK 3 dX2_imagesAt_25 (by decide) ?_
      refine j_sub [1, 2, 3, 4, 0] rfl ?_
      exact hk _ _ hf)
def f_X2_imagesAt (ru : Nat) (p2 : Int32) (S : St) : Option (Unit × St) := lp (f_X2_imagesAt_3b ru p2 (fun v6 S7 => some ((), S7))) FU (0 : Int32) S
theorem c_X2_imagesAt {ru : Nat} (hru : isRule ru) {p2 : Int32} {S : St} {r : Unit} {S' : St} (hf : f_X2_imagesAt ru p2 S = some (r, S')) : zM yX2_imagesAt cX2_imagesAt 5 5 none [.ref 92, .ref ru, .int p2, .ref 120] S (none) S' := by
  refine zM_of (zpl (by decide)) (Nat.le_of_ble_eq_true rfl) rfl (fun K hK hA => ?_)
  unfold f_X2_imagesAt at hf
  refine j_iconst hK (0 : Int32) dX2_imagesAt_0 ic_0 ?_
  refine j_istore hK (L' := [(4, .int (0 : Int32)), (0, .ref 92), (1, .ref ru), (2, .int p2), (3, .ref 120)]) dX2_imagesAt_1 (by decide) rfl ?_
  refine j_sub [1, 2, 3, 4, 0] rfl ?_
  refine t_X2_imagesAt_3 hK hA hru (fun v6 S7 hf => ?_) _ _ _ hf
  exact j_vret hK dX2_imagesAt_28 rfl (rt_V hA hf)
def f_X2_spread_85b (ru : Nat) (x3 : Int32) (x4 : Int64) (x6 : Int32) (e : Int32 → St → Option (Int64 × St)) (k : Int32 → St → Option (Int64 × St)) (v : Int32) (S : St) : Option (Int64 × St) := (if (8 : Int32) ≤ v then e v S else if inb x6 12 then if inb x6 12 then bd (f_X6_changed ru (gI S 93 x6.toNatClampNeg) (gI S 94 x6.toNatClampNeg) (0 : Int32) v S) (fun r3 S4 => if inb r3 8 then if inb v 8 then lt ((gL S4 97 r3.toNatClampNeg) + ((gL S4 96 v.toNatClampNeg) * ((10 : Int32) - x3).toInt64)) (fun y8 => if inb r3 8 then lt (sL S4 97 r3.toNatClampNeg y8) (fun S10 => k (v + (1 : Int32)) S10) else none) else none else none) else none else none)
theorem t_X2_spread_85 {K : CT} (hK : KO K cX2_spread RX2 8 4 (some .long)) {r : Int64} {S' : St} (hA : zans K = (some (.long r), S')) {ru : Nat} (hru : isRule ru) {x3 : Int32} {x4 : Int64} {x6 : Int32} {e : Int32 → St → Option (Int64 × St)} (he : ∀ (v : Int32) (S : St), e v S = some (r, S') → J K 147 [(0, .ref 92), (1, .ref ru), (3, .int x3), (4, .long x4), (6, .int x6)] [] S) : ∀ (n : Nat) (v : Int32) (S : St), lp (f_X2_spread_85b ru x3 x4 x6 e) n v S = some (r, S') → J K 85 [(0, .ref 92), (1, .ref ru), (3, .int x3), (4, .long x4), (6, .int x6), (7, .int v)] [] S :=
  lp_J (P := fun (v : Int32) (S : St) => J K 85 [(0, .ref 92), (1, .ref ru), (3, .int x3), (4, .long x4), (6, .int x6), (7, .int v)] [] S) (fun k hk v S hf => by
    unfold f_X2_spread_85b at hf
    refine j_iload hK dX2_spread_85 5 rfl ?_
    refine j_bipush hK (8 : Int32) dX2_spread_87 bi_8 ?_
    refine j_icmp_ge hK 147 dX2_spread_89 (by decide) (fun hc => ?_) (fun hc => ?_)
    · replace hf := if_1 hc hf
      refine j_sub [0, 1, 2, 3, 4] rfl ?_
      exact he _ _ hf
    · replace hf := if_2 hc hf
      refine j_aload_n hK dX2_spread_92 0 rfl rfl ?_
      refine j_getR hK fl_X2_39 dX2_spread_93 zo_92 zf_2_8 zr_92_8 ?_
      refine j_aload_n hK dX2_spread_96 1 rfl rfl ?_
      refine j_aload_n hK dX2_spread_97 0 rfl rfl ?_
      refine j_getR hK fl_X2_9 dX2_spread_98 zo_92 zf_2_0 zr_92_0 ?_
      refine j_getR hK fl_X2_55 dX2_spread_101 zo_3 zf_0_3 zr_3_3 ?_
      refine j_aload_n hK dX2_spread_104 0 rfl rfl ?_
      refine j_pc (pc' := 105) rfl ?_
      refine j_getR hK fl_X2_15 dX2_spread_105 zo_92 zf_2_1 zr_92_1 ?_
      refine j_iload hK dX2_spread_108 4 rfl ?_
      obtain ⟨hi1, hf⟩ := gd hf
      refine k_iald hK dX2_spread_110 zb_93 hi1 rfl ?_
      refine j_aload_n hK dX2_spread_111 0 rfl rfl ?_
      refine j_getR hK fl_X2_19 dX2_spread_112 zo_92 zf_2_2 zr_92_2 ?_
      refine j_iload hK dX2_spread_115 4 rfl ?_
      obtain ⟨hi2, hf⟩ := gd hf
      refine k_iald hK dX2_spread_117 zb_94 hi2 rfl ?_
      refine j_iconst hK (0 : Int32) dX2_spread_118 ic_0 ?_
      refine j_pc (pc' := 119) rfl ?_
      refine j_iload hK dX2_spread_119 5 rfl ?_
      obtain ⟨r3, S4, h5, hf⟩ := bd_J hf
      refine k_callVi hK (c_X6_changed hru h5) dX2_spread_121 zclX6 (ru_o hru) ml_X2_86 mi_X6_changed mx_X6_changed in_X6 mc_X6_changed hy_X6_changed ⟨by decide, by decide⟩ rfl (Nat.le_of_ble_eq_true rfl) ?_
      refine j_dup2 hK dX2_spread_124 rfl rfl ?_
      obtain ⟨hi6, hf⟩ := gd hf
      refine k_lald hK dX2_spread_125 zb_97 hi6 rfl ?_
      refine j_aload_n hK dX2_spread_126 0 rfl rfl ?_
      refine j_getR hK fl_X2_35 dX2_spread_127 zo_92 zf_2_7 zr_92_7 ?_
      refine j_iload hK dX2_spread_130 5 rfl ?_
      obtain ⟨hi7, hf⟩ := gd hf
      refine k_lald hK dX2_spread_132 zb_96 hi7 rfl ?_
      refine j_pc (pc' := 133) rfl ?_
      refine j_bipush hK (10 : Int32) dX2_spread_133 bi_10 ?_
      refine j_iload_n hK dX2_spread_135 2 rfl rfl ?_
      refine j_isub hK dX2_spread_136 ?_
      refine j_i2l hK dX2_spread_137 ?_
      refine j_lmul hK dX2_spread_138 ?_
      refine j_ladd hK dX2_spread_139 ?_
      refine lt_L hf (fun y8 hf => ?_)
      obtain ⟨hi9, hf⟩ := gd hf
      refine k_last hK dX2_spread_140 zb_97 hi9 rfl ?_
      refine lt_S hf (fun S10 hf => ?_)
      refine j_iinc hK (L' := [(7, .int (v + (1 : Int32))), (0, .ref 92), (1, .ref ru), (3, .int x3), (4, .long x4), (6, .int x6)]) dX2_spread_141 5 rfl (congrArg (fun y => v + y) ic_1) (by decide) rfl ?_
      refine j_pc (pc' := 144) rfl ?_
      refine j_goto hK 85 dX2_spread_144 (by decide) ?_
      refine j_sub [1, 2, 3, 4, 5, 0] rfl ?_
      exact hk _ _ hf)
def f_X2_spread_52b (ru : Nat) (x3 : Int32) (x4 : Int64) (x6 : Int32) (e : Int32 → St → Option (Int64 × St)) (k : Int32 → St → Option (Int64 × St)) (v : Int32) (S : St) : Option (Int64 × St) := (if (8 : Int32) ≤ v then e v S else if inb v 8 then if inb v 8 then lt (sL S 97 v.toNatClampNeg ((gL S 96 v.toNatClampNeg) * x3.toInt64)) (fun S13 => k (v + (1 : Int32)) S13) else none else none)
theorem t_X2_spread_52 {K : CT} (hK : KO K cX2_spread RX2 8 4 (some .long)) {r : Int64} {S' : St} (hA : zans K = (some (.long r), S')) {ru : Nat} (hru : isRule ru) {x3 : Int32} {x4 : Int64} {x6 : Int32} {e : Int32 → St → Option (Int64 × St)} (he : ∀ (v : Int32) (S : St), e v S = some (r, S') → J K 82 [(0, .ref 92), (1, .ref ru), (3, .int x3), (4, .long x4), (6, .int x6)] [] S) : ∀ (n : Nat) (v : Int32) (S : St), lp (f_X2_spread_52b ru x3 x4 x6 e) n v S = some (r, S') → J K 52 [(0, .ref 92), (1, .ref ru), (3, .int x3), (4, .long x4), (6, .int x6), (7, .int v)] [] S :=
  lp_J (P := fun (v : Int32) (S : St) => J K 52 [(0, .ref 92), (1, .ref ru), (3, .int x3), (4, .long x4), (6, .int x6), (7, .int v)] [] S) (fun k hk v S hf => by
    unfold f_X2_spread_52b at hf
    refine j_iload hK dX2_spread_52 5 rfl ?_
    refine j_bipush hK (8 : Int32) dX2_spread_54 bi_8 ?_
    refine j_icmp_ge hK 82 dX2_spread_56 (by decide) (fun hc => ?_) (fun hc => ?_)
    · replace hf := if_1 hc hf
      refine j_sub [0, 1, 2, 3, 4] rfl ?_
      exact he _ _ hf
    · replace hf := if_2 hc hf
      refine j_aload_n hK dX2_spread_59 0 rfl rfl ?_
      refine j_getR hK fl_X2_39 dX2_spread_60 zo_92 zf_2_8 zr_92_8 ?_
      refine j_iload hK dX2_spread_63 5 rfl ?_
      refine j_aload_n hK dX2_spread_65 0 rfl rfl ?_
      refine j_getR hK fl_X2_35 dX2_spread_66 zo_92 zf_2_7 zr_92_7 ?_
      refine j_iload hK dX2_spread_69 5 rfl ?_
      obtain ⟨hi11, hf⟩ := gd hf
      refine k_lald hK dX2_spread_71 zb_96 hi11 rfl ?_
      refine j_pc (pc' := 72) rfl ?_
      refine j_iload_n hK dX2_spread_72 2 rfl rfl ?_
      refine j_i2l hK dX2_spread_73 ?_
      refine j_lmul hK dX2_spread_74 ?_
      obtain ⟨hi12, hf⟩ := gd hf
      refine k_last hK dX2_spread_75 zb_97 hi12 rfl ?_
      refine lt_S hf (fun S13 hf => ?_)
      refine j_iinc hK (L' := [(7, .int (v + (1 : Int32))), (0, .ref 92), (1, .ref ru), (3, .int x3), (4, .long x4), (6, .int x6)]) dX2_spread_76 5 rfl (congrArg (fun y => v + y) ic_1) (by decide) rfl ?_
      refine j_goto hK 52 dX2_spread_79 (by decide) ?_
      refine j_sub [1, 2, 3, 4, 5, 0] rfl ?_
      exact hk _ _ hf)
def f_X2_spread_40b (ru : Nat) (x3 : Int32) (e : Int64 × Int32 → St → Option (Int64 × St)) (k : Int64 × Int32 → St → Option (Int64 × St)) (v : Int64 × Int32) (S : St) : Option (Int64 × St) := (if (gI S 92 3) ≤ v.2 then e (v.1, v.2) S else lp (f_X2_spread_52b ru x3 v.1 v.2 (fun v14 S15 => lp (f_X2_spread_85b ru x3 v.1 v.2 (fun v16 S17 => lt (sM S17 97 0 96 0 8) (fun S18 => lt (v.1 * (10 : Int64)) (fun y19 => k (y19, (v.2 + (1 : Int32))) S18)))) FU (0 : Int32) S15)) FU (0 : Int32) S)
theorem t_X2_spread_40 {K : CT} (hK : KO K cX2_spread RX2 8 4 (some .long)) {r : Int64} {S' : St} (hA : zans K = (some (.long r), S')) {ru : Nat} (hru : isRule ru) {x3 : Int32} {e : Int64 × Int32 → St → Option (Int64 × St)} (he : ∀ (v : Int64 × Int32) (S : St), e v S = some (r, S') → J K 176 [(4, .long v.1)] [] S) : ∀ (n : Nat) (v : Int64 × Int32) (S : St), lp (f_X2_spread_40b ru x3 e) n v S = some (r, S') → J K 40 [(0, .ref 92), (1, .ref ru), (3, .int x3), (4, .long v.1), (6, .int v.2)] [] S :=
  lp_J (P := fun (v : Int64 × Int32) (S : St) => J K 40 [(0, .ref 92), (1, .ref ru), (3, .int x3), (4, .long v.1), (6, .int v.2)] [] S) (fun k hk v S hf => by
    unfold f_X2_spread_40b at hf
    refine j_iload hK dX2_spread_40 4 rfl ?_
    refine j_aload_n hK dX2_spread_42 0 rfl rfl ?_
    refine j_getI hK fl_X2_22 dX2_spread_43 zo_92 zf_2_3 ?_
    refine j_icmp_ge hK 176 dX2_spread_46 (by decide) (fun hc => ?_) (fun hc => ?_)
    · replace hf := if_1 hc hf
      refine j_sub [3] rfl ?_
      exact he _ _ hf
    · replace hf := if_2 hc hf
      refine j_iconst hK (0 : Int32) dX2_spread_49 ic_0 ?_
      refine j_istore hK (L' := [(7, .int (0 : Int32)), (0, .ref 92), (1, .ref ru), (3, .int x3), (4, .long v.1), (6, .int v.2)]) dX2_spread_50 (by decide) rfl ?_
      refine j_sub [1, 2, 3, 4, 5, 0] rfl ?_
      refine t_X2_spread_52 hK hA hru (fun v14 S15 hf => ?_) _ _ _ hf
      refine j_iconst hK (0 : Int32) dX2_spread_82 ic_0 ?_
      refine j_istore hK (L' := [(7, .int (0 : Int32)), (0, .ref 92), (1, .ref ru), (3, .int x3), (4, .long v.1), (6, .int v.2)]) dX2_spread_83 (by decide) rfl ?_
      refine j_sub [1, 2, 3, 4, 5, 0] rfl ?_
      refine t_X2_spread_85 hK hA hru (fun v16 S17 hf => ?_) _ _ _ hf
      refine j_aload_n hK dX2_spread_147 0 rfl rfl ?_
      refine j_getR hK fl_X2_39 dX2_spread_148 zo_92 zf_2_8 zr_92_8 ?_
      refine j_iconst hK (0 : Int32) dX2_spread_151 ic_0 ?_
      refine j_aload_n hK dX2_spread_152 0 rfl rfl ?_
      refine j_getR hK fl_X2_35 dX2_spread_153 zo_92 zf_2_7 zr_92_7 ?_
      refine j_iconst hK (0 : Int32) dX2_spread_156 ic_0 ?_
      refine j_bipush hK (8 : Int32) dX2_spread_157 bi_8 ?_
      refine j_pc (pc' := 159) rfl ?_
      refine k_copyL hK ml_X2_103 dX2_spread_159 zb_97 zb_96 (by decide) (by decide) (by decide) (by decide) (by decide) tn_0 tn_0 tn_8 (by decide) (Nat.le_of_ble_eq_true rfl) ?_
      refine lt_S hf (fun S18 hf => ?_)
      refine j_lload hK dX2_spread_162 3 rfl ?_
      refine j_ldc2 hK (v := (10 : Int64)) cl_X2_109 dX2_spread_164 ?_
      refine j_lmul hK dX2_spread_167 ?_
      refine lt_L hf (fun y19 hf => ?_)
      refine j_lstore hK (L' := [(4, .long y19), (0, .ref 92), (1, .ref ru), (3, .int x3), (6, .int v.2)]) dX2_spread_168 (by decide) rfl ?_
      refine j_iinc hK (L' := [(6, .int (v.2 + (1 : Int32))), (4, .long y19), (0, .ref 92), (1, .ref ru), (3, .int x3)]) dX2_spread_170 4 rfl (congrArg (fun y => v.2 + y) ic_1) (by decide) rfl ?_
      refine j_goto hK 40 dX2_spread_173 (by decide) ?_
      refine j_sub [2, 3, 4, 1, 0] rfl ?_
      exact hk _ _ hf)
def f_X2_spread_27 (ru : Nat) (x2 : Int32) (x3 : Int32) (x4 : Int32) (s1 : Int32) (s2 : Int64) (k e : Int32 → St → Option (Int64 × St)) (S : St) : Option (Int64 × St) := if inb s1 8 then lt (sL S 96 s1.toNatClampNeg s2) (fun S21 => k (x4 + (1 : Int32)) S21) else none
theorem t_X2_spread_27 {K : CT} (hK : KO K cX2_spread RX2 8 4 (some .long)) {r : Int64} {S' : St} (hA : zans K = (some (.long r), S')) {ru : Nat} (hru : isRule ru) {x2 : Int32} {x3 : Int32} {x4 : Int32} {s1 : Int32} {s2 : Int64} {k e : Int32 → St → Option (Int64 × St)} (hk : ∀ (v : Int32) (S : St), k v S = some (r, S') → J K 3 [(0, .ref 92), (1, .ref ru), (2, .int x2), (3, .int x3), (4, .int v)] [] S) (he : ∀ (v : Int32) (S : St), e v S = some (r, S') → J K 34 [(0, .ref 92), (1, .ref ru), (3, .int x3)] [] S) {S : St} (hf : f_X2_spread_27 ru x2 x3 x4 s1 s2 k e S = some (r, S')) : J K 27 [(0, .ref 92), (1, .ref ru), (2, .int x2), (3, .int x3), (4, .int x4)] [.long s2, .int s1, .ref 96] S := by
  unfold f_X2_spread_27 at hf
  obtain ⟨hi20, hf⟩ := gd hf
  refine k_last hK dX2_spread_27 zb_96 hi20 rfl ?_
  refine lt_S hf (fun S21 hf => ?_)
  refine j_iinc hK (L' := [(4, .int (x4 + (1 : Int32))), (0, .ref 92), (1, .ref ru), (2, .int x2), (3, .int x3)]) dX2_spread_28 4 rfl (congrArg (fun y => x4 + y) ic_1) (by decide) rfl ?_
  refine j_goto hK 3 dX2_spread_31 (by decide) ?_
  refine j_sub [1, 2, 3, 4, 0] rfl ?_
  exact hk _ _ hf
def f_X2_spread_3b (ru : Nat) (x2 : Int32) (x3 : Int32) (e : Int32 → St → Option (Int64 × St)) (k : Int32 → St → Option (Int64 × St)) (v : Int32) (S : St) : Option (Int64 × St) := (if (8 : Int32) ≤ v then e v S else (if v = x2 then f_X2_spread_27 ru x2 x3 v v (1 : Int64) k e S else f_X2_spread_27 ru x2 x3 v v (0 : Int64) k e S))
theorem t_X2_spread_3 {K : CT} (hK : KO K cX2_spread RX2 8 4 (some .long)) {r : Int64} {S' : St} (hA : zans K = (some (.long r), S')) {ru : Nat} (hru : isRule ru) {x2 : Int32} {x3 : Int32} {e : Int32 → St → Option (Int64 × St)} (he : ∀ (v : Int32) (S : St), e v S = some (r, S') → J K 34 [(0, .ref 92), (1, .ref ru), (3, .int x3)] [] S) : ∀ (n : Nat) (v : Int32) (S : St), lp (f_X2_spread_3b ru x2 x3 e) n v S = some (r, S') → J K 3 [(0, .ref 92), (1, .ref ru), (2, .int x2), (3, .int x3), (4, .int v)] [] S :=
  lp_J (P := fun (v : Int32) (S : St) => J K 3 [(0, .ref 92), (1, .ref ru), (2, .int x2), (3, .int x3), (4, .int v)] [] S) (fun k hk v S hf => by
    unfold f_X2_spread_3b at hf
    refine j_iload hK dX2_spread_3 4 rfl ?_
    refine j_bipush hK (8 : Int32) dX2_spread_5 bi_8 ?_
    refine j_icmp_ge hK 34 dX2_spread_7 (by decide) (fun hc => ?_) (fun hc => ?_)
    · replace hf := if_1 hc hf
      refine j_sub [0, 1, 3] rfl ?_
      exact he _ _ hf
    · replace hf := if_2 hc hf
      refine j_aload_n hK dX2_spread_10 0 rfl rfl ?_
      refine j_getR hK fl_X2_35 dX2_spread_11 zo_92 zf_2_7 zr_92_7 ?_
      refine j_iload hK dX2_spread_14 4 rfl ?_
      refine j_iload hK dX2_spread_16 4 rfl ?_
      refine j_iload_n hK dX2_spread_18 2 rfl rfl ?_
      refine j_icmp_ne hK 26 dX2_spread_19 (by decide) (fun hc => ?_) (fun hc => ?_)
      · replace hf := if_2 hc hf
        refine j_lconst hK (0 : Int64) dX2_spread_26 lc_0 ?_
        exact t_X2_spread_27 hK hA hru hk he hf
      · replace hf := if_1 hc hf
        refine j_lconst hK (1 : Int64) dX2_spread_22 lc_1 ?_
        refine j_goto hK 27 dX2_spread_23 (by decide) ?_
        exact t_X2_spread_27 hK hA hru hk he hf)
def f_X2_spread (ru : Nat) (p2 : Int32) (p3 : Int32) (S : St) : Option (Int64 × St) := lp (f_X2_spread_3b ru p2 p3 (fun v22 S23 => lp (f_X2_spread_40b ru p3 (fun v24 S25 => some (v24.1, S25))) FU ((1 : Int64), (0 : Int32)) S23)) FU (0 : Int32) S
theorem c_X2_spread {ru : Nat} (hru : isRule ru) {p2 : Int32} {p3 : Int32} {S : St} {r : Int64} {S' : St} (hf : f_X2_spread ru p2 p3 S = some (r, S')) : zM yX2_spread cX2_spread 8 4 (some .long) [.ref 92, .ref ru, .int p2, .int p3] S (some (.long r)) S' := by
  refine zM_of (zpl (by decide)) (Nat.le_of_ble_eq_true rfl) rfl (fun K hK hA => ?_)
  unfold f_X2_spread at hf
  refine j_iconst hK (0 : Int32) dX2_spread_0 ic_0 ?_
  refine j_istore hK (L' := [(4, .int (0 : Int32)), (0, .ref 92), (1, .ref ru), (2, .int p2), (3, .int p3)]) dX2_spread_1 (by decide) rfl ?_
  refine j_sub [1, 2, 3, 4, 0] rfl ?_
  refine t_X2_spread_3 hK hA hru (fun v22 S23 hf => ?_) _ _ _ hf
  refine j_lconst hK (1 : Int64) dX2_spread_34 lc_1 ?_
  refine j_lstore hK (L' := [(4, .long (1 : Int64)), (0, .ref 92), (1, .ref ru), (3, .int p3)]) dX2_spread_35 (by decide) rfl ?_
  refine j_iconst hK (0 : Int32) dX2_spread_37 ic_0 ?_
  refine j_istore hK (L' := [(6, .int (0 : Int32)), (4, .long (1 : Int64)), (0, .ref 92), (1, .ref ru), (3, .int p3)]) dX2_spread_38 (by decide) rfl ?_
  refine j_sub [2, 3, 4, 1, 0] rfl ?_
  refine t_X2_spread_40 hK hA hru (fun v24 S25 hf => ?_) _ _ _ hf
  refine j_lload hK dX2_spread_176 0 rfl ?_
  exact j_lret hK dX2_spread_178 rfl (rt_L hA hf)
def f_X2_stepAt (p0 : Int32) (p1 : Int32) (p2 : Int32) (S : St) : Option (Int32 × St) := some (((((p0 * (2 : Int32)) + p1) * (8 : Int32)) + p2), S)
theorem c_X2_stepAt {p0 : Int32} {p1 : Int32} {p2 : Int32} {S : St} {r : Int32} {S' : St} (hf : f_X2_stepAt p0 p1 p2 S = some (r, S')) : zM yX2_stepAt cX2_stepAt 3 1 (some .int) [.int p0, .int p1, .int p2] S (some (.int r)) S' := by
  refine zM_of (zpl (by decide)) (Nat.le_of_ble_eq_true rfl) rfl (fun K hK hA => ?_)
  unfold f_X2_stepAt at hf
  refine j_iload_n hK dX2_stepAt_0 0 rfl rfl ?_
  refine j_iconst hK (2 : Int32) dX2_stepAt_1 ic_2 ?_
  refine j_imul hK dX2_stepAt_2 ?_
  refine j_iload_n hK dX2_stepAt_3 1 rfl rfl ?_
  refine j_iadd hK dX2_stepAt_4 ?_
  refine j_bipush hK (8 : Int32) dX2_stepAt_5 bi_8 ?_
  refine j_imul hK dX2_stepAt_7 ?_
  refine j_iload_n hK dX2_stepAt_8 2 rfl rfl ?_
  refine j_pc (pc' := 9) rfl ?_
  refine j_iadd hK dX2_stepAt_9 ?_
  exact j_iret hK dX2_stepAt_10 rfl (rt_I hA hf)
def f_X2_learnSteps_15b (ru : Nat) (x2 : Int32) (e : Int32 → St → Option (Unit × St)) (k : Int32 → St → Option (Unit × St)) (v : Int32) (S : St) : Option (Unit × St) := (if (8 : Int32) ≤ v then e v S else bd (f_X2_stepAt x2 (0 : Int32) v S) (fun r1 S2 => bd (f_X6_changed ru x2 (0 : Int32) (0 : Int32) v S2) (fun r4 S5 => if inb r1 192 then lt (sI S5 95 r1.toNatClampNeg r4) (fun S8 => bd (f_X2_stepAt x2 (1 : Int32) v S8) (fun r9 S10 => bd (f_X6_changed ru x2 (1 : Int32) (0 : Int32) v S10) (fun r12 S13 => if inb r9 192 then lt (sI S13 95 r9.toNatClampNeg r12) (fun S16 => k (v + (1 : Int32)) S16) else none))) else none)))
theorem t_X2_learnSteps_15 {K : CT} (hK : KO K cX2_learnSteps RX2 4 4 none) {r : Unit} {S' : St} (hA : zans K = (none, S')) {ru : Nat} (hru : isRule ru) {x2 : Int32} {e : Int32 → St → Option (Unit × St)} (he : ∀ (v : Int32) (S : St), e v S = some (r, S') → J K 79 [(0, .ref 92), (1, .ref ru), (2, .int x2)] [] S) : ∀ (n : Nat) (v : Int32) (S : St), lp (f_X2_learnSteps_15b ru x2 e) n v S = some (r, S') → J K 15 [(0, .ref 92), (1, .ref ru), (2, .int x2), (3, .int v)] [] S :=
  lp_J (P := fun (v : Int32) (S : St) => J K 15 [(0, .ref 92), (1, .ref ru), (2, .int x2), (3, .int v)] [] S) (fun k hk v S hf => by
    unfold f_X2_learnSteps_15b at hf
    refine j_iload_n hK dX2_learnSteps_15 3 rfl rfl ?_
    refine j_bipush hK (8 : Int32) dX2_learnSteps_16 bi_8 ?_
    refine j_icmp_ge hK 79 dX2_learnSteps_18 (by decide) (fun hc => ?_) (fun hc => ?_)
    · replace hf := if_1 hc hf
      refine j_sub [0, 1, 2] rfl ?_
      exact he _ _ hf
    · replace hf := if_2 hc hf
      refine j_aload_n hK dX2_learnSteps_21 0 rfl rfl ?_
      refine j_getR hK fl_X2_32 dX2_learnSteps_22 zo_92 zf_2_6 zr_92_6 ?_
      refine j_iload_n hK dX2_learnSteps_25 2 rfl rfl ?_
      refine j_iconst hK (0 : Int32) dX2_learnSteps_26 ic_0 ?_
      refine j_iload_n hK dX2_learnSteps_27 3 rfl rfl ?_
      obtain ⟨r1, S2, h3, hf⟩ := bd_J hf
      refine k_callSi hK (c_X2_stepAt h3) dX2_learnSteps_28 ml_X2_99 ms_X2_stepAt in_X2 mc_X2_stepAt hy_X2_stepAt ⟨by decide, by decide⟩ rfl (Nat.le_of_ble_eq_true rfl) ?_
      refine j_aload_n hK dX2_learnSteps_31 1 rfl rfl ?_
      refine j_pc (pc' := 32) rfl ?_
      refine j_aload_n hK dX2_learnSteps_32 0 rfl rfl ?_
      refine j_getR hK fl_X2_9 dX2_learnSteps_33 zo_92 zf_2_0 zr_92_0 ?_
      refine j_getR hK fl_X2_55 dX2_learnSteps_36 zo_3 zf_0_3 zr_3_3 ?_
      refine j_iload_n hK dX2_learnSteps_39 2 rfl rfl ?_
      refine j_iconst hK (0 : Int32) dX2_learnSteps_40 ic_0 ?_
      refine j_iconst hK (0 : Int32) dX2_learnSteps_41 ic_0 ?_
      refine j_iload_n hK dX2_learnSteps_42 3 rfl rfl ?_
      obtain ⟨r4, S5, h6, hf⟩ := bd_J hf
      refine k_callVi hK (c_X6_changed hru h6) dX2_learnSteps_43 zclX6 (ru_o hru) ml_X2_86 mi_X6_changed mx_X6_changed in_X6 mc_X6_changed hy_X6_changed ⟨by decide, by decide⟩ rfl (Nat.le_of_ble_eq_true rfl) ?_
      refine j_pc (pc' := 46) rfl ?_
      obtain ⟨hi7, hf⟩ := gd hf
      refine k_iast hK dX2_learnSteps_46 zb_95 hi7 rfl ?_
      refine lt_S hf (fun S8 hf => ?_)
      refine j_aload_n hK dX2_learnSteps_47 0 rfl rfl ?_
      refine j_getR hK fl_X2_32 dX2_learnSteps_48 zo_92 zf_2_6 zr_92_6 ?_
      refine j_iload_n hK dX2_learnSteps_51 2 rfl rfl ?_
      refine j_iconst hK (1 : Int32) dX2_learnSteps_52 ic_1 ?_
      refine j_iload_n hK dX2_learnSteps_53 3 rfl rfl ?_
      obtain ⟨r9, S10, h11, hf⟩ := bd_J hf
      refine k_callSi hK (c_X2_stepAt h11) dX2_learnSteps_54 ml_X2_99 ms_X2_stepAt in_X2 mc_X2_stepAt hy_X2_stepAt ⟨by decide, by decide⟩ rfl (Nat.le_of_ble_eq_true rfl) ?_
      refine j_aload_n hK dX2_learnSteps_57 1 rfl rfl ?_
      refine j_pc (pc' := 58) rfl ?_
      refine j_aload_n hK dX2_learnSteps_58 0 rfl rfl ?_
      refine j_getR hK fl_X2_9 dX2_learnSteps_59 zo_92 zf_2_0 zr_92_0 ?_
      refine j_getR hK fl_X2_55 dX2_learnSteps_62 zo_3 zf_0_3 zr_3_3 ?_
      refine j_iload_n hK dX2_learnSteps_65 2 rfl rfl ?_
      refine j_iconst hK (1 : Int32) dX2_learnSteps_66 ic_1 ?_
      refine j_iconst hK (0 : Int32) dX2_learnSteps_67 ic_0 ?_
      refine j_iload_n hK dX2_learnSteps_68 3 rfl rfl ?_
      obtain ⟨r12, S13, h14, hf⟩ := bd_J hf
      refine k_callVi hK (c_X6_changed hru h14) dX2_learnSteps_69 zclX6 (ru_o hru) ml_X2_86 mi_X6_changed mx_X6_changed in_X6 mc_X6_changed hy_X6_changed ⟨by decide, by decide⟩ rfl (Nat.le_of_ble_eq_true rfl) ?_
      refine j_pc (pc' := 72) rfl ?_
      obtain ⟨hi15, hf⟩ := gd hf
      refine k_iast hK dX2_learnSteps_72 zb_95 hi15 rfl ?_
      refine lt_S hf (fun S16 hf => ?_)
      refine j_iinc hK (L' := [(3, .int (v + (1 : Int32))), (0, .ref 92), (1, .ref ru), (2, .int x2)]) dX2_learnSteps_73 3 rfl (congrArg (fun y => v + y) ic_1) (by decide) rfl ?_
      refine j_goto hK 15 dX2_learnSteps_76 (by decide) ?_
      refine j_sub [1, 2, 3, 0] rfl ?_
      exact hk _ _ hf)
def f_X2_learnSteps_2b (ru : Nat) (e : Int32 → St → Option (Unit × St)) (k : Int32 → St → Option (Unit × St)) (v : Int32) (S : St) : Option (Unit × St) := (if (gI S 3 2) ≤ v then e v S else lp (f_X2_learnSteps_15b ru v (fun v17 S18 => k (v + (1 : Int32)) S18)) FU (0 : Int32) S)
theorem t_X2_learnSteps_2 {K : CT} (hK : KO K cX2_learnSteps RX2 4 4 none) {r : Unit} {S' : St} (hA : zans K = (none, S')) {ru : Nat} (hru : isRule ru) {e : Int32 → St → Option (Unit × St)} (he : ∀ (v : Int32) (S : St), e v S = some (r, S') → J K 85 [] [] S) : ∀ (n : Nat) (v : Int32) (S : St), lp (f_X2_learnSteps_2b ru e) n v S = some (r, S') → J K 2 [(0, .ref 92), (1, .ref ru), (2, .int v)] [] S :=
  lp_J (P := fun (v : Int32) (S : St) => J K 2 [(0, .ref 92), (1, .ref ru), (2, .int v)] [] S) (fun k hk v S hf => by
    unfold f_X2_learnSteps_2b at hf
    refine j_iload_n hK dX2_learnSteps_2 2 rfl rfl ?_
    refine j_aload_n hK dX2_learnSteps_3 0 rfl rfl ?_
    refine j_getR hK fl_X2_9 dX2_learnSteps_4 zo_92 zf_2_0 zr_92_0 ?_
    refine j_getI hK fl_X2_96 dX2_learnSteps_7 zo_3 zf_0_2 ?_
    refine j_icmp_ge hK 85 dX2_learnSteps_10 (by decide) (fun hc => ?_) (fun hc => ?_)
    · replace hf := if_1 hc hf
      refine j_sub [] rfl ?_
      exact he _ _ hf
    · replace hf := if_2 hc hf
      refine j_iconst hK (0 : Int32) dX2_learnSteps_13 ic_0 ?_
      refine j_istore_n hK (L' := [(3, .int (0 : Int32)), (0, .ref 92), (1, .ref ru), (2, .int v)]) dX2_learnSteps_14 rfl (by decide) rfl ?_
      refine j_sub [1, 2, 3, 0] rfl ?_
      refine t_X2_learnSteps_15 hK hA hru (fun v17 S18 hf => ?_) _ _ _ hf
      refine j_iinc hK (L' := [(2, .int (v + (1 : Int32))), (0, .ref 92), (1, .ref ru)]) dX2_learnSteps_79 2 rfl (congrArg (fun y => v + y) ic_1) (by decide) rfl ?_
      refine j_goto hK 2 dX2_learnSteps_82 (by decide) ?_
      refine j_sub [1, 2, 0] rfl ?_
      exact hk _ _ hf)
def f_X2_learnSteps (ru : Nat) (S : St) : Option (Unit × St) := lp (f_X2_learnSteps_2b ru (fun v19 S20 => some ((), S20))) FU (0 : Int32) S
theorem c_X2_learnSteps {ru : Nat} (hru : isRule ru) {S : St} {r : Unit} {S' : St} (hf : f_X2_learnSteps ru S = some (r, S')) : zM yX2_learnSteps cX2_learnSteps 4 4 none [.ref 92, .ref ru] S (none) S' := by
  refine zM_of (zpl (by decide)) (Nat.le_of_ble_eq_true rfl) rfl (fun K hK hA => ?_)
  unfold f_X2_learnSteps at hf
  refine j_iconst hK (0 : Int32) dX2_learnSteps_0 ic_0 ?_
  refine j_istore_n hK (L' := [(2, .int (0 : Int32)), (0, .ref 92), (1, .ref ru)]) dX2_learnSteps_1 rfl (by decide) rfl ?_
  refine j_sub [1, 2, 0] rfl ?_
  refine t_X2_learnSteps_2 hK hA hru (fun v19 S20 hf => ?_) _ _ _ hf
  exact j_vret hK dX2_learnSteps_85 rfl (rt_V hA hf)
def f_X2_keptByLearntSteps_65 (x2 : Int32) (s0 : Int32) (s1 : Int32) (k e : Int32 × Int32 → St → Option (Int32 × St)) (S : St) : Option (Int32 × St) := lt (s0 + s1) (fun y1 => k (y1, (x2 + (1 : Int32))) S)
theorem t_X2_keptByLearntSteps_65 {K : CT} (hK : KO K cX2_keptByLearntSteps RX2 5 2 (some .int)) {r : Int32} {S' : St} (hA : zans K = (some (.int r), S')) {x2 : Int32} {s0 : Int32} {s1 : Int32} {k e : Int32 × Int32 → St → Option (Int32 × St)} (hk : ∀ (v : Int32 × Int32) (S : St), k v S = some (r, S') → J K 4 [(0, .ref 92), (1, .int v.1), (2, .int v.2)] [] S) (he : ∀ (v : Int32 × Int32) (S : St), e v S = some (r, S') → J K 73 [(1, .int v.1)] [] S) {S : St} (hf : f_X2_keptByLearntSteps_65 x2 s0 s1 k e S = some (r, S')) : J K 65 [(0, .ref 92), (2, .int x2)] [.int s1, .int s0] S := by
  unfold f_X2_keptByLearntSteps_65 at hf
  refine j_iadd hK dX2_keptByLearntSteps_65 ?_
  refine lt_I hf (fun y1 hf => ?_)
  refine j_istore_n hK (L' := [(1, .int y1), (0, .ref 92), (2, .int x2)]) dX2_keptByLearntSteps_66 rfl (by decide) rfl ?_
  refine j_iinc hK (L' := [(2, .int (x2 + (1 : Int32))), (1, .int y1), (0, .ref 92)]) dX2_keptByLearntSteps_67 2 rfl (congrArg (fun y => x2 + y) ic_1) (by decide) rfl ?_
  refine j_goto hK 4 dX2_keptByLearntSteps_70 (by decide) ?_
  refine j_sub [2, 1, 0] rfl ?_
  exact hk _ _ hf
def f_X2_keptByLearntSteps_15b (x1 : Int32) (x2 : Int32) (e : Int32 × Int32 → St → Option (Int32 × St)) (k : Int32 × Int32 → St → Option (Int32 × St)) (v : Int32 × Int32) (S : St) : Option (Int32 × St) := (if (gI S 92 3) ≤ v.2 then e (v.1, v.2) S else if inb v.2 12 then if inb v.2 12 then bd (f_X2_stepAt (gI S 93 v.2.toNatClampNeg) (gI S 94 v.2.toNatClampNeg) v.1 S) (fun r4 S5 => if inb r4 192 then lt (gI S5 95 r4.toNatClampNeg) (fun y8 => k (y8, (v.2 + (1 : Int32))) S5) else none) else none else none)
theorem t_X2_keptByLearntSteps_15 {K : CT} (hK : KO K cX2_keptByLearntSteps RX2 5 2 (some .int)) {r : Int32} {S' : St} (hA : zans K = (some (.int r), S')) {x1 : Int32} {x2 : Int32} {e : Int32 × Int32 → St → Option (Int32 × St)} (he : ∀ (v : Int32 × Int32) (S : St), e v S = some (r, S') → J K 54 [(0, .ref 92), (1, .int x1), (2, .int x2), (3, .int v.1)] [] S) : ∀ (n : Nat) (v : Int32 × Int32) (S : St), lp (f_X2_keptByLearntSteps_15b x1 x2 e) n v S = some (r, S') → J K 15 [(0, .ref 92), (1, .int x1), (2, .int x2), (3, .int v.1), (4, .int v.2)] [] S :=
  lp_J (P := fun (v : Int32 × Int32) (S : St) => J K 15 [(0, .ref 92), (1, .int x1), (2, .int x2), (3, .int v.1), (4, .int v.2)] [] S) (fun k hk v S hf => by
    unfold f_X2_keptByLearntSteps_15b at hf
    refine j_iload hK dX2_keptByLearntSteps_15 4 rfl ?_
    refine j_aload_n hK dX2_keptByLearntSteps_17 0 rfl rfl ?_
    refine j_getI hK fl_X2_22 dX2_keptByLearntSteps_18 zo_92 zf_2_3 ?_
    refine j_icmp_ge hK 54 dX2_keptByLearntSteps_21 (by decide) (fun hc => ?_) (fun hc => ?_)
    · replace hf := if_1 hc hf
      refine j_sub [0, 1, 2, 3] rfl ?_
      exact he _ _ hf
    · replace hf := if_2 hc hf
      refine j_aload_n hK dX2_keptByLearntSteps_24 0 rfl rfl ?_
      refine j_getR hK fl_X2_32 dX2_keptByLearntSteps_25 zo_92 zf_2_6 zr_92_6 ?_
      refine j_aload_n hK dX2_keptByLearntSteps_28 0 rfl rfl ?_
      refine j_getR hK fl_X2_15 dX2_keptByLearntSteps_29 zo_92 zf_2_1 zr_92_1 ?_
      refine j_iload hK dX2_keptByLearntSteps_32 4 rfl ?_
      obtain ⟨hi2, hf⟩ := gd hf
      refine k_iald hK dX2_keptByLearntSteps_34 zb_93 hi2 rfl ?_
      refine j_aload_n hK dX2_keptByLearntSteps_35 0 rfl rfl ?_
      refine j_pc (pc' := 36) rfl ?_
      refine j_getR hK fl_X2_19 dX2_keptByLearntSteps_36 zo_92 zf_2_2 zr_92_2 ?_
      refine j_iload hK dX2_keptByLearntSteps_39 4 rfl ?_
      obtain ⟨hi3, hf⟩ := gd hf
      refine k_iald hK dX2_keptByLearntSteps_41 zb_94 hi3 rfl ?_
      refine j_iload_n hK dX2_keptByLearntSteps_42 3 rfl rfl ?_
      obtain ⟨r4, S5, h6, hf⟩ := bd_J hf
      refine k_callSi hK (c_X2_stepAt h6) dX2_keptByLearntSteps_43 ml_X2_99 ms_X2_stepAt in_X2 mc_X2_stepAt hy_X2_stepAt ⟨by decide, by decide⟩ rfl (Nat.le_of_ble_eq_true rfl) ?_
      obtain ⟨hi7, hf⟩ := gd hf
      refine k_iald hK dX2_keptByLearntSteps_46 zb_95 hi7 rfl ?_
      refine lt_I hf (fun y8 hf => ?_)
      refine j_istore_n hK (L' := [(3, .int y8), (0, .ref 92), (1, .int x1), (2, .int x2), (4, .int v.2)]) dX2_keptByLearntSteps_47 rfl (by decide) rfl ?_
      refine j_iinc hK (L' := [(4, .int (v.2 + (1 : Int32))), (3, .int y8), (0, .ref 92), (1, .int x1), (2, .int x2)]) dX2_keptByLearntSteps_48 4 rfl (congrArg (fun y => v.2 + y) ic_1) (by decide) rfl ?_
      refine j_pc (pc' := 51) rfl ?_
      refine j_goto hK 15 dX2_keptByLearntSteps_51 (by decide) ?_
      refine j_sub [2, 3, 4, 1, 0] rfl ?_
      exact hk _ _ hf)
def f_X2_keptByLearntSteps_4b (e : Int32 × Int32 → St → Option (Int32 × St)) (k : Int32 × Int32 → St → Option (Int32 × St)) (v : Int32 × Int32) (S : St) : Option (Int32 × St) := (if (8 : Int32) ≤ v.2 then e (v.1, v.2) S else lp (f_X2_keptByLearntSteps_15b v.1 v.2 (fun v9 S10 => (if v9.1 = v.2 then f_X2_keptByLearntSteps_65 v.2 v.1 (1 : Int32) k e S10 else f_X2_keptByLearntSteps_65 v.2 v.1 (0 : Int32) k e S10))) FU (v.2, (0 : Int32)) S)
theorem t_X2_keptByLearntSteps_4 {K : CT} (hK : KO K cX2_keptByLearntSteps RX2 5 2 (some .int)) {r : Int32} {S' : St} (hA : zans K = (some (.int r), S')) {e : Int32 × Int32 → St → Option (Int32 × St)} (he : ∀ (v : Int32 × Int32) (S : St), e v S = some (r, S') → J K 73 [(1, .int v.1)] [] S) : ∀ (n : Nat) (v : Int32 × Int32) (S : St), lp (f_X2_keptByLearntSteps_4b  e) n v S = some (r, S') → J K 4 [(0, .ref 92), (1, .int v.1), (2, .int v.2)] [] S :=
  lp_J (P := fun (v : Int32 × Int32) (S : St) => J K 4 [(0, .ref 92), (1, .int v.1), (2, .int v.2)] [] S) (fun k hk v S hf => by
    unfold f_X2_keptByLearntSteps_4b at hf
    refine j_iload_n hK dX2_keptByLearntSteps_4 2 rfl rfl ?_
    refine j_bipush hK (8 : Int32) dX2_keptByLearntSteps_5 bi_8 ?_
    refine j_icmp_ge hK 73 dX2_keptByLearntSteps_7 (by decide) (fun hc => ?_) (fun hc => ?_)
    · replace hf := if_1 hc hf
      refine j_sub [1] rfl ?_
      exact he _ _ hf
    · replace hf := if_2 hc hf
      refine j_iload_n hK dX2_keptByLearntSteps_10 2 rfl rfl ?_
      refine j_istore_n hK (L' := [(3, .int v.2), (0, .ref 92), (1, .int v.1), (2, .int v.2)]) dX2_keptByLearntSteps_11 rfl (by decide) rfl ?_
      refine j_iconst hK (0 : Int32) dX2_keptByLearntSteps_12 ic_0 ?_
      refine j_istore hK (L' := [(4, .int (0 : Int32)), (3, .int v.2), (0, .ref 92), (1, .int v.1), (2, .int v.2)]) dX2_keptByLearntSteps_13 (by decide) rfl ?_
      refine j_sub [2, 3, 4, 1, 0] rfl ?_
      refine t_X2_keptByLearntSteps_15 hK hA  (fun v9 S10 hf => ?_) _ _ _ hf
      refine j_iload_n hK dX2_keptByLearntSteps_54 1 rfl rfl ?_
      refine j_iload_n hK dX2_keptByLearntSteps_55 3 rfl rfl ?_
      refine j_iload_n hK dX2_keptByLearntSteps_56 2 rfl rfl ?_
      refine j_icmp_ne hK 64 dX2_keptByLearntSteps_57 (by decide) (fun hc => ?_) (fun hc => ?_)
      · replace hf := if_2 hc hf
        refine j_iconst hK (0 : Int32) dX2_keptByLearntSteps_64 ic_0 ?_
        refine j_sub [0, 2] rfl ?_
        exact t_X2_keptByLearntSteps_65 hK hA hk he hf
      · replace hf := if_1 hc hf
        refine j_iconst hK (1 : Int32) dX2_keptByLearntSteps_60 ic_1 ?_
        refine j_goto hK 65 dX2_keptByLearntSteps_61 (by decide) ?_
        refine j_sub [0, 2] rfl ?_
        exact t_X2_keptByLearntSteps_65 hK hA hk he hf)
def f_X2_keptByLearntSteps (S : St) : Option (Int32 × St) := lp (f_X2_keptByLearntSteps_4b  (fun v11 S12 => some (v11.1, S12))) FU ((0 : Int32), (0 : Int32)) S
theorem c_X2_keptByLearntSteps {S : St} {r : Int32} {S' : St} (hf : f_X2_keptByLearntSteps S = some (r, S')) : zM yX2_keptByLearntSteps cX2_keptByLearntSteps 5 2 (some .int) [.ref 92] S (some (.int r)) S' := by
  refine zM_of (zpl (by decide)) (Nat.le_of_ble_eq_true rfl) rfl (fun K hK hA => ?_)
  unfold f_X2_keptByLearntSteps at hf
  refine j_iconst hK (0 : Int32) dX2_keptByLearntSteps_0 ic_0 ?_
  refine j_istore_n hK (L' := [(1, .int (0 : Int32)), (0, .ref 92)]) dX2_keptByLearntSteps_1 rfl (by decide) rfl ?_
  refine j_iconst hK (0 : Int32) dX2_keptByLearntSteps_2 ic_0 ?_
  refine j_istore_n hK (L' := [(2, .int (0 : Int32)), (1, .int (0 : Int32)), (0, .ref 92)]) dX2_keptByLearntSteps_3 rfl (by decide) rfl ?_
  refine j_sub [2, 1, 0] rfl ?_
  refine t_X2_keptByLearntSteps_4 hK hA  (fun v11 S12 hf => ?_) _ _ _ hf
  refine j_iload_n hK dX2_keptByLearntSteps_73 0 rfl rfl ?_
  exact j_iret hK dX2_keptByLearntSteps_74 rfl (rt_I hA hf)
