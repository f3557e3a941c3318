def f_X11_end (p1 : Int32) (S : St) : Option (Int32 × St) := lt (sI S 122 0 (0 : Int32)) (fun S1 => bd (f_X11_in p1.toInt64 (0 : Int64) (gI S1 122 10).toInt64 S1) (fun r2 S3 => (if r2 = 0 then some ((0 : Int32), S3) else lt (sI S3 122 10 p1) (fun S5 => some ((1 : Int32), S5)))))
theorem c_X11_end {p1 : Int32} {S : St} {r : Int32} {S' : St} (hf : f_X11_end p1 S = some (r, S')) : zM yX11_end cX11_end 2 2 (some .boolean) [.ref 122, .int p1] S (some (.int r)) S' := by
  refine zM_of (zpl (by decide)) (Nat.le_of_ble_eq_true rfl) rfl (fun K hK hA => ?_)
  unfold f_X11_end at hf
  refine j_aload_n hK dX11_end_0 0 rfl rfl ?_
  refine j_iconst hK (0 : Int32) dX11_end_1 ic_0 ?_
  refine j_putI hK fl_X11_3 dX11_end_2 zo_122 zf_11_0 ?_
  refine lt_S hf (fun S1 hf => ?_)
  refine j_iload_n hK dX11_end_5 1 rfl rfl ?_
  refine j_i2l hK dX11_end_6 ?_
  refine j_lconst hK (0 : Int64) dX11_end_7 lc_0 ?_
  refine j_aload_n hK dX11_end_8 0 rfl rfl ?_
  refine j_getI hK fl_X11_137 dX11_end_9 zo_122 zf_11_10 ?_
  refine j_pc (pc' := 12) rfl ?_
  refine j_i2l hK dX11_end_12 ?_
  obtain ⟨r2, S3, h4, hf⟩ := bd_J hf
  refine k_callSi hK (c_X11_in h4) dX11_end_13 ml_X11_131 ms_X11_in in_X11 mc_X11_in hy_X11_in ⟨by decide, by decide⟩ rfl (Nat.le_of_ble_eq_true rfl) ?_
  refine j_if_ne hK 21 dX11_end_16 (by decide) (fun hc => ?_) (fun hc => ?_)
  · replace hf := if_2 hc hf
    refine j_aload_n hK dX11_end_21 0 rfl rfl ?_
    refine j_iload_n hK dX11_end_22 1 rfl rfl ?_
    refine j_putI hK fl_X11_137 dX11_end_23 zo_122 zf_11_10 ?_
    refine lt_S hf (fun S5 hf => ?_)
    refine j_iconst hK (1 : Int32) dX11_end_26 ic_1 ?_
    exact j_zret hK dX11_end_27 rfl rfl (rt_I hA hf)
  · replace hf := if_1 hc hf
    refine j_iconst hK (0 : Int32) dX11_end_19 ic_0 ?_
    exact j_zret hK dX11_end_20 rfl rfl (rt_I hA hf)
def f_X11_begins (p1 : Int32) (S : St) : Option (Int32 × St) := lt (gI S 122 10) (fun y1 => lt (sI S 122 10 (0 : Int32)) (fun S2 => lt (sI S2 122 11 (0 : Int32)) (fun S3 => lt (sI S3 122 13 (0 : Int32)) (fun S4 => lt (sI S4 122 12 (mnI y1 p1)) (fun S5 => some (y1, S5))))))
theorem c_X11_begins {p1 : Int32} {S : St} {r : Int32} {S' : St} (hf : f_X11_begins p1 S = some (r, S')) : zM yX11_begins cX11_begins 3 1 (some .int) [.ref 122, .int p1] S (some (.int r)) S' := by
  refine zM_of (zpl (by decide)) (Nat.le_of_ble_eq_true rfl) rfl (fun K hK hA => ?_)
  unfold f_X11_begins at hf
  refine j_aload_n hK dX11_begins_0 0 rfl rfl ?_
  refine j_getI hK fl_X11_137 dX11_begins_1 zo_122 zf_11_10 ?_
  refine lt_I hf (fun y1 hf => ?_)
  refine j_istore_n hK (L' := [(2, .int y1), (0, .ref 122), (1, .int p1)]) dX11_begins_4 rfl (by decide) rfl ?_
  refine j_aload_n hK dX11_begins_5 1 rfl rfl ?_
  refine j_iconst hK (0 : Int32) dX11_begins_6 ic_0 ?_
  refine j_putI hK fl_X11_137 dX11_begins_7 zo_122 zf_11_10 ?_
  refine lt_S hf (fun S2 hf => ?_)
  refine j_aload_n hK dX11_begins_10 1 rfl rfl ?_
  refine j_iconst hK (0 : Int32) dX11_begins_11 ic_0 ?_
  refine j_pc (pc' := 12) rfl ?_
  refine j_putI hK fl_X11_140 dX11_begins_12 zo_122 zf_11_11 ?_
  refine lt_S hf (fun S3 hf => ?_)
  refine j_aload_n hK dX11_begins_15 1 rfl rfl ?_
  refine j_iconst hK (0 : Int32) dX11_begins_16 ic_0 ?_
  refine j_putI hK fl_X11_143 dX11_begins_17 zo_122 zf_11_13 ?_
  refine lt_S hf (fun S4 hf => ?_)
  refine j_aload_n hK dX11_begins_20 1 rfl rfl ?_
  refine j_iload_n hK dX11_begins_21 0 rfl rfl ?_
  refine j_iload_n hK dX11_begins_22 2 rfl rfl ?_
  refine j_min hK ml_X11_146 dX11_begins_23 (by decide) (Nat.le_of_ble_eq_true rfl) ?_
  refine j_pc (pc' := 26) rfl ?_
  refine j_putI hK fl_X11_152 dX11_begins_26 zo_122 zf_11_12 ?_
  refine lt_S hf (fun S5 hf => ?_)
  refine j_iload_n hK dX11_begins_29 0 rfl rfl ?_
  exact j_iret hK dX11_begins_30 rfl (rt_I hA hf)
def f_X11_takes_29 (s0 : Int32) (S : St) : Option (Int32 × St) := bd (f_X11_flag s0 S) (fun r1 S2 => lt (sI S2 122 11 ((gI S 122 11) + r1)) (fun S4 => if s0 = 0 ∨ s0 = 1 then some (s0, S4) else none))
theorem t_X11_takes_29 {K : CT} (hK : KO K cX11_takes RX11 3 2 (some .boolean)) {r : Int32} {S' : St} (hA : zans K (some (.int r), S')) {s0 : Int32} {S : St} (hf : f_X11_takes_29 s0 S = some (r, S')) : J K 29 [(0, .ref 122)] [.int s0] S := by
  unfold f_X11_takes_29 at hf
  refine j_istore_n hK (L' := [(2, .int s0), (0, .ref 122)]) dX11_takes_29 rfl (by decide) rfl ?_
  refine j_aload_n hK dX11_takes_30 1 rfl rfl ?_
  refine j_dup hK dX11_takes_31 rfl ?_
  refine j_getI hK fl_X11_140 dX11_takes_32 zo_122 zf_11_11 ?_
  refine j_iload_n hK dX11_takes_35 0 rfl rfl ?_
  obtain ⟨r1, S2, h3, hf⟩ := bd_J hf
  refine k_callSi hK (c_X11_flag h3) dX11_takes_36 ml_X11_155 ms_X11_flag in_X11 mc_X11_flag hy_X11_flag ⟨by decide, by decide⟩ rfl (Nat.le_of_ble_eq_true rfl) ?_
  refine j_iadd hK dX11_takes_39 ?_
  refine j_putI hK fl_X11_140 dX11_takes_40 zo_122 zf_11_11 ?_
  refine lt_S hf (fun S4 hf => ?_)
  refine j_pc (pc' := 43) rfl ?_
  refine j_iload_n hK dX11_takes_43 0 rfl rfl ?_
  obtain ⟨hz, hf⟩ := gd hf
  exact j_zret hK dX11_takes_44 rfl (nz hz) (rt_I hA hf)
def f_X11_takes_28 (S : St) : Option (Int32 × St) := f_X11_takes_29 (0 : Int32) S
theorem t_X11_takes_28 {K : CT} (hK : KO K cX11_takes RX11 3 2 (some .boolean)) {r : Int32} {S' : St} (hA : zans K (some (.int r), S')) {S : St} (hf : f_X11_takes_28  S = some (r, S')) : J K 28 [(0, .ref 122)] [] S := by
  unfold f_X11_takes_28 at hf
  refine j_iconst hK (0 : Int32) dX11_takes_28 ic_0 ?_
  exact t_X11_takes_29 hK hA  hf
def f_X11_takes (p1 : Int32) (S : St) : Option (Int32 × St) := (if (gI S 122 12) ≤ (gI S 122 11) then f_X11_takes_28  S else if inb (gI S 122 11) 80 then (if (gI S 128 (gI S 122 11).toNatClampNeg) = p1 then f_X11_takes_29 (1 : Int32) S else f_X11_takes_28  S) else none)
theorem c_X11_takes {p1 : Int32} {S : St} {r : Int32} {S' : St} (hf : f_X11_takes p1 S = some (r, S')) : zM yX11_takes cX11_takes 3 2 (some .boolean) [.ref 122, .int p1] S (some (.int r)) S' := by
  refine zM_of (zpl (by decide)) (Nat.le_of_ble_eq_true rfl) rfl (fun K hK hA => ?_)
  unfold f_X11_takes at hf
  refine j_aload_n hK dX11_takes_0 0 rfl rfl ?_
  refine j_getI hK fl_X11_140 dX11_takes_1 zo_122 zf_11_11 ?_
  refine j_aload_n hK dX11_takes_4 0 rfl rfl ?_
  refine j_getI hK fl_X11_152 dX11_takes_5 zo_122 zf_11_12 ?_
  refine j_icmp_ge hK 28 dX11_takes_8 (by decide) (fun hc => ?_) (fun hc => ?_)
  · replace hf := if_1 hc hf
    refine j_sub [0] rfl ?_
    exact t_X11_takes_28 hK hA  hf
  · replace hf := if_2 hc hf
    refine j_aload_n hK dX11_takes_11 0 rfl rfl ?_
    refine j_getR hK fl_X11_37 dX11_takes_12 zo_122 zf_11_9 zr_122_9 ?_
    refine j_aload_n hK dX11_takes_15 0 rfl rfl ?_
    refine j_getI hK fl_X11_140 dX11_takes_16 zo_122 zf_11_11 ?_
    obtain ⟨hi5, hf⟩ := gd hf
    refine k_iald hK dX11_takes_19 zb_128 hi5 rfl ?_
    refine j_iload_n hK dX11_takes_20 1 rfl rfl ?_
    refine j_icmp_ne hK 28 dX11_takes_21 (by decide) (fun hc => ?_) (fun hc => ?_)
    · replace hf := if_2 hc hf
      refine j_sub [0] rfl ?_
      exact t_X11_takes_28 hK hA  hf
    · replace hf := if_1 hc hf
      refine j_iconst hK (1 : Int32) dX11_takes_24 ic_1 ?_
      refine j_goto hK 29 dX11_takes_25 (by decide) ?_
      refine j_sub [0] rfl ?_
      exact t_X11_takes_29 hK hA  hf
def f_X11_isDigit (S : St) : Option (Int32 × St) := (if (gI S 122 12) ≤ (gI S 122 11) then some ((0 : Int32), S) else if inb (gI S 122 11) 80 then bd (f_X11_in (gI S 128 (gI S 122 11).toNatClampNeg).toInt64 (48 : Int64) (57 : Int64) S) (fun r2 S3 => (if r2 = 0 then some ((0 : Int32), S3) else some ((1 : Int32), S3))) else none)
theorem c_X11_isDigit {S : St} {r : Int32} {S' : St} (hf : f_X11_isDigit S = some (r, S')) : zM yX11_isDigit cX11_isDigit 1 2 (some .boolean) [.ref 122] S (some (.int r)) S' := by
  refine zM_of (zpl (by decide)) (Nat.le_of_ble_eq_true rfl) rfl (fun K hK hA => ?_)
  unfold f_X11_isDigit at hf
  refine j_aload_n hK dX11_isDigit_0 0 rfl rfl ?_
  refine j_getI hK fl_X11_140 dX11_isDigit_1 zo_122 zf_11_11 ?_
  refine j_aload_n hK dX11_isDigit_4 0 rfl rfl ?_
  refine j_getI hK fl_X11_152 dX11_isDigit_5 zo_122 zf_11_12 ?_
  refine j_icmp_ge hK 37 dX11_isDigit_8 (by decide) (fun hc => ?_) (fun hc => ?_)
  · replace hf := if_1 hc hf
    refine j_iconst hK (0 : Int32) dX11_isDigit_37 ic_0 ?_
    exact j_zret hK dX11_isDigit_38 rfl rfl (rt_I hA hf)
  · replace hf := if_2 hc hf
    refine j_aload_n hK dX11_isDigit_11 0 rfl rfl ?_
    refine j_getR hK fl_X11_37 dX11_isDigit_12 zo_122 zf_11_9 zr_122_9 ?_
    refine j_aload_n hK dX11_isDigit_15 0 rfl rfl ?_
    refine j_getI hK fl_X11_140 dX11_isDigit_16 zo_122 zf_11_11 ?_
    obtain ⟨hi1, hf⟩ := gd hf
    refine k_iald hK dX11_isDigit_19 zb_128 hi1 rfl ?_
    refine j_i2l hK dX11_isDigit_20 ?_
    refine j_ldc2 hK (v := (48 : Int64)) cl_X11_159 dX11_isDigit_21 ?_
    refine j_pc (pc' := 24) rfl ?_
    refine j_ldc2 hK (v := (57 : Int64)) cl_X11_161 dX11_isDigit_24 ?_
    obtain ⟨r2, S3, h4, hf⟩ := bd_J hf
    refine k_callSi hK (c_X11_in h4) dX11_isDigit_27 ml_X11_131 ms_X11_in in_X11 mc_X11_in hy_X11_in ⟨by decide, by decide⟩ rfl (Nat.le_of_ble_eq_true rfl) ?_
    refine j_if_eq hK 37 dX11_isDigit_30 (by decide) (fun hc => ?_) (fun hc => ?_)
    · replace hf := if_1 hc hf
      refine j_iconst hK (0 : Int32) dX11_isDigit_37 ic_0 ?_
      exact j_zret hK dX11_isDigit_38 rfl rfl (rt_I hA hf)
    · replace hf := if_2 hc hf
      refine j_iconst hK (1 : Int32) dX11_isDigit_33 ic_1 ?_
      refine j_goto hK 38 dX11_isDigit_34 (by decide) ?_
      exact j_zret hK dX11_isDigit_38 rfl rfl (rt_I hA hf)
def f_X11_isLetter (S : St) : Option (Int32 × St) := (if (gI S 122 12) ≤ (gI S 122 11) then some ((0 : Int32), S) else if inb (gI S 122 11) 80 then bd (f_X11_in (gI S 128 (gI S 122 11).toNatClampNeg).toInt64 (97 : Int64) (104 : Int64) S) (fun r2 S3 => (if r2 = 0 then some ((0 : Int32), S3) else some ((1 : Int32), S3))) else none)
theorem c_X11_isLetter {S : St} {r : Int32} {S' : St} (hf : f_X11_isLetter S = some (r, S')) : zM yX11_isLetter cX11_isLetter 1 2 (some .boolean) [.ref 122] S (some (.int r)) S' := by
  refine zM_of (zpl (by decide)) (Nat.le_of_ble_eq_true rfl) rfl (fun K hK hA => ?_)
  unfold f_X11_isLetter at hf
  refine j_aload_n hK dX11_isLetter_0 0 rfl rfl ?_
  refine j_getI hK fl_X11_140 dX11_isLetter_1 zo_122 zf_11_11 ?_
  refine j_aload_n hK dX11_isLetter_4 0 rfl rfl ?_
  refine j_getI hK fl_X11_152 dX11_isLetter_5 zo_122 zf_11_12 ?_
  refine j_icmp_ge hK 37 dX11_isLetter_8 (by decide) (fun hc => ?_) (fun hc => ?_)
  · replace hf := if_1 hc hf
    refine j_iconst hK (0 : Int32) dX11_isLetter_37 ic_0 ?_
    exact j_zret hK dX11_isLetter_38 rfl rfl (rt_I hA hf)
  · replace hf := if_2 hc hf
    refine j_aload_n hK dX11_isLetter_11 0 rfl rfl ?_
    refine j_getR hK fl_X11_37 dX11_isLetter_12 zo_122 zf_11_9 zr_122_9 ?_
    refine j_aload_n hK dX11_isLetter_15 0 rfl rfl ?_
    refine j_getI hK fl_X11_140 dX11_isLetter_16 zo_122 zf_11_11 ?_
    obtain ⟨hi1, hf⟩ := gd hf
    refine k_iald hK dX11_isLetter_19 zb_128 hi1 rfl ?_
    refine j_i2l hK dX11_isLetter_20 ?_
    refine j_ldc2 hK (v := (97 : Int64)) cl_X11_163 dX11_isLetter_21 ?_
    refine j_pc (pc' := 24) rfl ?_
    refine j_ldc2 hK (v := (104 : Int64)) cl_X11_165 dX11_isLetter_24 ?_
    obtain ⟨r2, S3, h4, hf⟩ := bd_J hf
    refine k_callSi hK (c_X11_in h4) dX11_isLetter_27 ml_X11_131 ms_X11_in in_X11 mc_X11_in hy_X11_in ⟨by decide, by decide⟩ rfl (Nat.le_of_ble_eq_true rfl) ?_
    refine j_if_eq hK 37 dX11_isLetter_30 (by decide) (fun hc => ?_) (fun hc => ?_)
    · replace hf := if_1 hc hf
      refine j_iconst hK (0 : Int32) dX11_isLetter_37 ic_0 ?_
      exact j_zret hK dX11_isLetter_38 rfl rfl (rt_I hA hf)
    · replace hf := if_2 hc hf
      refine j_iconst hK (1 : Int32) dX11_isLetter_33 ic_1 ?_
      refine j_goto hK 38 dX11_isLetter_34 (by decide) ?_
      exact j_zret hK dX11_isLetter_38 rfl rfl (rt_I hA hf)
def f_J1_charAt_3b067 (si : Nat) (p1 : Int32) (S : St) : Option (Int32 × St) := bd (f_J0_checkIndex_df160 p1 (nI (yL si)) S) (fun r1 S2 => if inb p1 (yL si) then if narrow .char (.int ((((yB si p1.toNatClampNeg) &&& (255 : Int32))).toUInt32 % 65536).toInt32) = .int ((((yB si p1.toNatClampNeg) &&& (255 : Int32))).toUInt32 % 65536).toInt32 then some (((((yB si p1.toNatClampNeg) &&& (255 : Int32))).toUInt32 % 65536).toInt32, S2) else none else none)
theorem c_J1_charAt_3b067 {si : Nat} (hsi : isStr si) {p1 : Int32} {S : St} {r : Int32} {S' : St} (hf : f_J1_charAt_3b067 si p1 S = some (r, S')) : zM yJ1_charAt_3b067 cJ1_charAt_3b067 2 3 (some .char) [.ref (1010 + si), .int p1] S (some (.int r)) S' := by
  refine zM_of (zpl (by decide)) (Nat.le_of_ble_eq_true rfl) rfl (fun K hK hA => ?_)
  unfold f_J1_charAt_3b067 at hf
  refine j_iload_n hK dJ1_charAt_3b067_0 1 rfl rfl ?_
  refine j_aload_n hK dJ1_charAt_3b067_1 0 rfl rfl ?_
  refine j_ylen hK hsi dJ1_charAt_3b067_2 ?_
  obtain ⟨r1, S2, h3, hf⟩ := bd_J hf
  refine k_callSv hK (c_J0_checkIndex_df160 h3) dJ1_charAt_3b067_3 ml_J1_9 ms_J0_checkIndex_df160 in_J0 mc_J0_checkIndex_df160 hy_J0_checkIndex_df160 ⟨by decide, by decide⟩ rfl (Nat.le_of_ble_eq_true rfl) ?_
  refine j_aload_n hK dJ1_charAt_3b067_6 0 rfl rfl ?_
  refine j_iload_n hK dJ1_charAt_3b067_7 1 rfl rfl ?_
  obtain ⟨hi4, hf⟩ := gd hf
  refine j_yald hK hsi dJ1_charAt_3b067_8 hi4 ?_
  refine j_sipush hK (255 : Int32) dJ1_charAt_3b067_9 si_255 ?_
  refine j_pc (pc' := 12) rfl ?_
  refine j_iand hK dJ1_charAt_3b067_12 ?_
  refine j_i2c hK dJ1_charAt_3b067_13 ?_
  obtain ⟨hz, hf⟩ := gd hf
  exact j_zret hK dJ1_charAt_3b067_14 rfl hz (rt_I hA hf)
def f_J0_charAt_5068e (si : Nat) (p1 : Int32) (S : St) : Option (Int32 × St) := bd (f_J0_isLatin1_aae02 si S) (fun r1 S2 => (if r1 = 0 then none else bd (f_J1_charAt_3b067 si p1 S2) (fun r4 S5 => if narrow .char (.int r4) = .int r4 then some (r4, S5) else none)))
theorem c_J0_charAt_5068e {si : Nat} (hsi : isStr si) {p1 : Int32} {S : St} {r : Int32} {S' : St} (hf : f_J0_charAt_5068e si p1 S = some (r, S')) : zM yJ0_charAt_5068e cJ0_charAt_5068e 2 4 (some .char) [.ref (1000 + si), .int p1] S (some (.int r)) S' := by
  refine zM_of (zpl (by decide)) (Nat.le_of_ble_eq_true rfl) rfl (fun K hK hA => ?_)
  unfold f_J0_charAt_5068e at hf
  refine j_aload_n hK dJ0_charAt_5068e_0 0 rfl rfl ?_
  obtain ⟨r1, S2, h3, hf⟩ := bd_J hf
  refine k_callTi hK (c_J0_isLatin1_aae02 hsi h3) dJ0_charAt_5068e_1 hsi rfl ml_J0_492 mi_J0_isLatin1_aae02 mx_J0_isLatin1_aae02 in_J0 mc_J0_isLatin1_aae02 hy_J0_isLatin1_aae02 ⟨by decide, by decide⟩ rfl (Nat.le_of_ble_eq_true rfl) ?_
  refine j_if_eq hK 16 dJ0_charAt_5068e_4 (by decide) (fun hc => ?_) (fun hc => ?_)
  · replace hf := if_1 hc hf
    refine j_aload_n hK dJ0_charAt_5068e_16 0 rfl rfl ?_
    refine j_gfV hK hsi fj_9 dJ0_charAt_5068e_17 ?_
    refine j_iload_n hK dJ0_charAt_5068e_20 1 rfl rfl ?_
    cases hf
  · replace hf := if_2 hc hf
    refine j_aload_n hK dJ0_charAt_5068e_7 0 rfl rfl ?_
    refine j_gfV hK hsi fj_9 dJ0_charAt_5068e_8 ?_
    refine j_iload_n hK dJ0_charAt_5068e_11 1 rfl rfl ?_
    obtain ⟨r4, S5, h6, hf⟩ := bd_J hf
    refine k_callSi hK (c_J1_charAt_3b067 hsi h6) dJ0_charAt_5068e_12 ml_J0_495 ms_J1_charAt_3b067 in_J1 mc_J1_charAt_3b067 hy_J1_charAt_3b067 ⟨by decide, by decide⟩ rfl (Nat.le_of_ble_eq_true rfl) ?_
    obtain ⟨hz, hf⟩ := gd hf
    exact j_zret hK dJ0_charAt_5068e_15 rfl hz (rt_I hA hf)
def f_X11_takesOf_2b (si : Nat) (e : Int32 → St → Option (Int32 × St)) (k : Int32 → St → Option (Int32 × St)) (v : Int32) (S : St) : Option (Int32 × St) := bd (f_J0_length_8abf5 si S) (fun r1 S2 => (if r1 ≤ v then e v S2 else (if (gI S2 122 12) ≤ (gI S2 122 11) then e v S2 else bd (f_J0_charAt_5068e si v S2) (fun r4 S5 => if inb (gI S5 122 11) 80 then (if r4 = (gI S5 128 (gI S5 122 11).toNatClampNeg) then lt (sI S5 122 11 ((gI S5 122 11) + (1 : Int32))) (fun S8 => some (v, S8)) else k (v + (1 : Int32)) S5) else none))))
theorem t_X11_takesOf_2 {K : CT} (hK : KO K cX11_takesOf RX11 3 5 (some .int)) {r : Int32} {S' : St} (hA : zans K (some (.int r), S')) {si : Nat} (hsi : isStr si) {e : Int32 → St → Option (Int32 × St)} (he : ∀ (v : Int32) (S : St), e v S = some (r, S') → J K 56 [] [] S) : ∀ (n : Nat) (v : Int32) (S : St), lp (f_X11_takesOf_2b si e) n v S = some (r, S') → J K 2 [(0, .ref 122), (1, .ref (1000 + si)), (2, .int v)] [] S :=
  lp_J (P := fun (v : Int32) (S : St) => J K 2 [(0, .ref 122), (1, .ref (1000 + si)), (2, .int v)] [] S) (fun k hk v S hf => by
    unfold f_X11_takesOf_2b at hf
    refine j_iload_n hK dX11_takesOf_2 2 rfl rfl ?_
    refine j_aload_n hK dX11_takesOf_3 1 rfl rfl ?_
    obtain ⟨r1, S2, h3, hf⟩ := bd_J hf
    refine k_callTi hK (c_J0_length_8abf5 hsi h3) dX11_takesOf_4 hsi rfl ml_X11_167 mi_J0_length_8abf5 mx_J0_length_8abf5 in_J0 mc_J0_length_8abf5 hy_J0_length_8abf5 ⟨by decide, by decide⟩ rfl (Nat.le_of_ble_eq_true rfl) ?_
    refine j_icmp_ge hK 56 dX11_takesOf_7 (by decide) (fun hc => ?_) (fun hc => ?_)
    · replace hf := if_1 hc hf
      refine j_sub [] rfl ?_
      exact he _ _ hf
    · replace hf := if_2 hc hf
      refine j_aload_n hK dX11_takesOf_10 0 rfl rfl ?_
      refine j_getI hK fl_X11_140 dX11_takesOf_11 zo_122 zf_11_11 ?_
      refine j_aload_n hK dX11_takesOf_14 0 rfl rfl ?_
      refine j_getI hK fl_X11_152 dX11_takesOf_15 zo_122 zf_11_12 ?_
      refine j_icmp_ge hK 56 dX11_takesOf_18 (by decide) (fun hc => ?_) (fun hc => ?_)
      · replace hf := if_1 hc hf
        refine j_sub [] rfl ?_
        exact he _ _ hf
      · replace hf := if_2 hc hf
        refine j_aload_n hK dX11_takesOf_21 1 rfl rfl ?_
        refine j_iload_n hK dX11_takesOf_22 2 rfl rfl ?_
        obtain ⟨r4, S5, h6, hf⟩ := bd_J hf
        refine k_callTi hK (c_J0_charAt_5068e hsi h6) dX11_takesOf_23 hsi rfl ml_X11_173 mi_J0_charAt_5068e mx_J0_charAt_5068e in_J0 mc_J0_charAt_5068e hy_J0_charAt_5068e ⟨by decide, by decide⟩ rfl (Nat.le_of_ble_eq_true rfl) ?_
        refine j_aload_n hK dX11_takesOf_26 0 rfl rfl ?_
        refine j_getR hK fl_X11_37 dX11_takesOf_27 zo_122 zf_11_9 zr_122_9 ?_
        refine j_aload_n hK dX11_takesOf_30 0 rfl rfl ?_
        refine j_getI hK fl_X11_140 dX11_takesOf_31 zo_122 zf_11_11 ?_
        refine j_pc (pc' := 34) rfl ?_
        obtain ⟨hi7, hf⟩ := gd hf
        refine k_iald hK dX11_takesOf_34 zb_128 hi7 rfl ?_
        refine j_icmp_ne hK 50 dX11_takesOf_35 (by decide) (fun hc => ?_) (fun hc => ?_)
        · replace hf := if_2 hc hf
          refine j_iinc hK (L' := [(2, .int (v + (1 : Int32))), (0, .ref 122), (1, .ref (1000 + si))]) dX11_takesOf_50 2 rfl (congrArg (fun y => v + y) ic_1) (by decide) rfl ?_
          refine j_goto hK 2 dX11_takesOf_53 (by decide) ?_
          refine j_sub [1, 2, 0] rfl ?_
          exact hk _ _ hf
        · replace hf := if_1 hc hf
          refine j_aload_n hK dX11_takesOf_38 0 rfl rfl ?_
          refine j_dup hK dX11_takesOf_39 rfl ?_
          refine j_getI hK fl_X11_140 dX11_takesOf_40 zo_122 zf_11_11 ?_
          refine j_iconst hK (1 : Int32) dX11_takesOf_43 ic_1 ?_
          refine j_iadd hK dX11_takesOf_44 ?_
          refine j_putI hK fl_X11_140 dX11_takesOf_45 zo_122 zf_11_11 ?_
          refine lt_S hf (fun S8 hf => ?_)
          refine j_iload_n hK dX11_takesOf_48 2 rfl rfl ?_
          refine j_pc (pc' := 49) rfl ?_
          exact j_iret hK dX11_takesOf_49 rfl (rt_I hA hf))
def f_X11_takesOf (si : Nat) (S : St) : Option (Int32 × St) := lp (f_X11_takesOf_2b si (fun v9 S10 => some ((-1 : Int32), S10))) FU (0 : Int32) S
theorem c_X11_takesOf {si : Nat} (hsi : isStr si) {S : St} {r : Int32} {S' : St} (hf : f_X11_takesOf si S = some (r, S')) : zM yX11_takesOf cX11_takesOf 3 5 (some .int) [.ref 122, .ref (1000 + si)] S (some (.int r)) S' := by
  refine zM_of (zpl (by decide)) (Nat.le_of_ble_eq_true rfl) rfl (fun K hK hA => ?_)
  unfold f_X11_takesOf at hf
  refine j_iconst hK (0 : Int32) dX11_takesOf_0 ic_0 ?_
  refine j_istore_n hK (L' := [(2, .int (0 : Int32)), (0, .ref 122), (1, .ref (1000 + si))]) dX11_takesOf_1 rfl (by decide) rfl ?_
  refine j_sub [1, 2, 0] rfl ?_
  refine t_X11_takesOf_2 hK hA hsi (fun v9 S10 hf => ?_) _ _ _ hf
  refine j_iconst hK (-1 : Int32) dX11_takesOf_56 ic_m1 ?_
  exact j_iret hK dX11_takesOf_57 rfl (rt_I hA hf)
def f_X11_number_13b (x1 : Int32) (e : Int32 × Int32 → St → Option (Int32 × St)) (k : Int32 × Int32 → St → Option (Int32 × St)) (v : Int32 × Int32) (S : St) : Option (Int32 × St) := (if x1 ≤ v.2 then e (v.1, v.2) S else bd (f_X11_isDigit S) (fun r1 S2 => (if r1 = 0 then e (v.1, v.2) S2 else if inb (gI S2 122 11) 80 then lt ((((10 : Int32) * v.1) + (gI S2 128 (gI S2 122 11).toNatClampNeg)) - (48 : Int32)) (fun y5 => lt (sI S2 122 11 ((gI S2 122 11) + (1 : Int32))) (fun S6 => k (y5, (v.2 + (1 : Int32))) S6)) else none)))
theorem t_X11_number_13 {K : CT} (hK : KO K cX11_number RX11 4 3 (some .int)) {r : Int32} {S' : St} (hA : zans K (some (.int r), S')) {x1 : Int32} {e : Int32 × Int32 → St → Option (Int32 × St)} (he : ∀ (v : Int32 × Int32) (S : St), e v S = some (r, S') → J K 59 [(2, .int v.1)] [] S) : ∀ (n : Nat) (v : Int32 × Int32) (S : St), lp (f_X11_number_13b x1 e) n v S = some (r, S') → J K 13 [(0, .ref 122), (1, .int x1), (2, .int v.1), (3, .int v.2)] [] S :=
  lp_J (P := fun (v : Int32 × Int32) (S : St) => J K 13 [(0, .ref 122), (1, .int x1), (2, .int v.1), (3, .int v.2)] [] S) (fun k hk v S hf => by
    unfold f_X11_number_13b at hf
    refine j_iload_n hK dX11_number_13 3 rfl rfl ?_
    refine j_iload_n hK dX11_number_14 1 rfl rfl ?_
    refine j_icmp_ge hK 59 dX11_number_15 (by decide) (fun hc => ?_) (fun hc => ?_)
    · replace hf := if_1 hc hf
      refine j_sub [2] rfl ?_
      exact he _ _ hf
    · replace hf := if_2 hc hf
      refine j_aload_n hK dX11_number_18 0 rfl rfl ?_
      obtain ⟨r1, S2, h3, hf⟩ := bd_J hf
      refine k_callVi hK (c_X11_isDigit h3) dX11_number_19 zclX11 zo_122 ml_X11_177 mi_X11_isDigit mx_X11_isDigit in_X11 mc_X11_isDigit hy_X11_isDigit ⟨by decide, by decide⟩ rfl (Nat.le_of_ble_eq_true rfl) ?_
      refine j_if_eq hK 59 dX11_number_22 (by decide) (fun hc => ?_) (fun hc => ?_)
      · replace hf := if_1 hc hf
        refine j_sub [2] rfl ?_
        exact he _ _ hf
      · replace hf := if_2 hc hf
        refine j_bipush hK (10 : Int32) dX11_number_25 bi_10 ?_
        refine j_iload_n hK dX11_number_27 2 rfl rfl ?_
        refine j_imul hK dX11_number_28 ?_
        refine j_aload_n hK dX11_number_29 0 rfl rfl ?_
        refine j_getR hK fl_X11_37 dX11_number_30 zo_122 zf_11_9 zr_122_9 ?_
        refine j_aload_n hK dX11_number_33 0 rfl rfl ?_
        refine j_getI hK fl_X11_140 dX11_number_34 zo_122 zf_11_11 ?_
        refine j_pc (pc' := 37) rfl ?_
        obtain ⟨hi4, hf⟩ := gd hf
        refine k_iald hK dX11_number_37 zb_128 hi4 rfl ?_
        refine j_iadd hK dX11_number_38 ?_
        refine j_bipush hK (48 : Int32) dX11_number_39 bi_48 ?_
        refine j_isub hK dX11_number_41 ?_
        refine lt_I hf (fun y5 hf => ?_)
        refine j_istore_n hK (L' := [(2, .int y5), (0, .ref 122), (1, .int x1), (3, .int v.2)]) dX11_number_42 rfl (by decide) rfl ?_
        refine j_aload_n hK dX11_number_43 1 rfl rfl ?_
        refine j_dup hK dX11_number_44 rfl ?_
        refine j_getI hK fl_X11_140 dX11_number_45 zo_122 zf_11_11 ?_
        refine j_pc (pc' := 48) rfl ?_
        refine j_iconst hK (1 : Int32) dX11_number_48 ic_1 ?_
        refine j_iadd hK dX11_number_49 ?_
        refine j_putI hK fl_X11_140 dX11_number_50 zo_122 zf_11_11 ?_
        refine lt_S hf (fun S6 hf => ?_)
        refine j_iinc hK (L' := [(3, .int (v.2 + (1 : Int32))), (2, .int y5), (0, .ref 122), (1, .int x1)]) dX11_number_53 3 rfl (congrArg (fun y => v.2 + y) ic_1) (by decide) rfl ?_
        refine j_goto hK 13 dX11_number_56 (by decide) ?_
        refine j_sub [2, 3, 1, 0] rfl ?_
        exact hk _ _ hf)
def f_X11_number (p1 : Int32) (S : St) : Option (Int32 × St) := bd (f_X11_isDigit S) (fun r7 S8 => (if r7 = 0 then some ((-1 : Int32), S8) else lp (f_X11_number_13b p1 (fun v10 S11 => some (v10.1, S11))) FU ((0 : Int32), (0 : Int32)) S8))
theorem c_X11_number {p1 : Int32} {S : St} {r : Int32} {S' : St} (hf : f_X11_number p1 S = some (r, S')) : zM yX11_number cX11_number 4 3 (some .int) [.ref 122, .int p1] S (some (.int r)) S' := by
  refine zM_of (zpl (by decide)) (Nat.le_of_ble_eq_true rfl) rfl (fun K hK hA => ?_)
  unfold f_X11_number at hf
  refine j_aload_n hK dX11_number_0 0 rfl rfl ?_
  obtain ⟨r7, S8, h9, hf⟩ := bd_J hf
  refine k_callVi hK (c_X11_isDigit h9) dX11_number_1 zclX11 zo_122 ml_X11_177 mi_X11_isDigit mx_X11_isDigit in_X11 mc_X11_isDigit hy_X11_isDigit ⟨by decide, by decide⟩ rfl (Nat.le_of_ble_eq_true rfl) ?_
  refine j_if_ne hK 9 dX11_number_4 (by decide) (fun hc => ?_) (fun hc => ?_)
  · replace hf := if_2 hc hf
    refine j_iconst hK (0 : Int32) dX11_number_9 ic_0 ?_
    refine j_istore_n hK (L' := [(2, .int (0 : Int32)), (0, .ref 122), (1, .int p1)]) dX11_number_10 rfl (by decide) rfl ?_
    refine j_iconst hK (0 : Int32) dX11_number_11 ic_0 ?_
    refine j_istore_n hK (L' := [(3, .int (0 : Int32)), (2, .int (0 : Int32)), (0, .ref 122), (1, .int p1)]) dX11_number_12 rfl (by decide) rfl ?_
    refine j_sub [2, 3, 1, 0] rfl ?_
    refine t_X11_number_13 hK hA  (fun v10 S11 hf => ?_) _ _ _ hf
    refine j_iload_n hK dX11_number_59 0 rfl rfl ?_
    exact j_iret hK dX11_number_60 rfl (rt_I hA hf)
  · replace hf := if_1 hc hf
    refine j_iconst hK (-1 : Int32) dX11_number_7 ic_m1 ?_
    exact j_iret hK dX11_number_8 rfl (rt_I hA hf)
def f_X11_digitIn (p1 : Int32) (p2 : Int32) (p3 : Int32) (S : St) : Option (Int32 × St) := (if (gI S 122 12) ≤ (gI S 122 11) then some ((-1 : Int32), S) else if inb (gI S 122 11) 80 then bd (f_X11_in ((gI S 128 (gI S 122 11).toNatClampNeg) - (48 : Int32)).toInt64 p1.toInt64 p2.toInt64 S) (fun r2 S3 => (if r2 = 0 then some ((-1 : Int32), S3) else if inb (gI S3 122 11) 80 then (if ((gI S3 128 (gI S3 122 11).toNatClampNeg) - (48 : Int32)) = p3 then some ((-1 : Int32), S3) else lt (sI S3 122 11 ((gI S3 122 11) + (1 : Int32))) (fun S6 => if inb ((gI S6 122 11) - (1 : Int32)) 80 then lt ((gI S6 128 ((gI S6 122 11) - (1 : Int32)).toNatClampNeg) - (48 : Int32)) (fun y8 => some (y8, S6)) else none)) else none)) else none)
theorem c_X11_digitIn {p1 : Int32} {p2 : Int32} {p3 : Int32} {S : St} {r : Int32} {S' : St} (hf : f_X11_digitIn p1 p2 p3 S = some (r, S')) : zM yX11_digitIn cX11_digitIn 4 2 (some .int) [.ref 122, .int p1, .int p2, .int p3] S (some (.int r)) S' := by
  refine zM_of (zpl (by decide)) (Nat.le_of_ble_eq_true rfl) rfl (fun K hK hA => ?_)
  unfold f_X11_digitIn at hf
  refine j_aload_n hK dX11_digitIn_0 0 rfl rfl ?_
  refine j_getI hK fl_X11_140 dX11_digitIn_1 zo_122 zf_11_11 ?_
  refine j_aload_n hK dX11_digitIn_4 0 rfl rfl ?_
  refine j_getI hK fl_X11_152 dX11_digitIn_5 zo_122 zf_11_12 ?_
  refine j_icmp_ge hK 50 dX11_digitIn_8 (by decide) (fun hc => ?_) (fun hc => ?_)
  · replace hf := if_1 hc hf
    refine j_iconst hK (-1 : Int32) dX11_digitIn_50 ic_m1 ?_
    exact j_iret hK dX11_digitIn_51 rfl (rt_I hA hf)
  · replace hf := if_2 hc hf
    refine j_aload_n hK dX11_digitIn_11 0 rfl rfl ?_
    refine j_getR hK fl_X11_37 dX11_digitIn_12 zo_122 zf_11_9 zr_122_9 ?_
    refine j_aload_n hK dX11_digitIn_15 0 rfl rfl ?_
    refine j_getI hK fl_X11_140 dX11_digitIn_16 zo_122 zf_11_11 ?_
    obtain ⟨hi1, hf⟩ := gd hf
    refine k_iald hK dX11_digitIn_19 zb_128 hi1 rfl ?_
    refine j_bipush hK (48 : Int32) dX11_digitIn_20 bi_48 ?_
    refine j_isub hK dX11_digitIn_22 ?_
    refine j_pc (pc' := 23) rfl ?_
    refine j_i2l hK dX11_digitIn_23 ?_
    refine j_iload_n hK dX11_digitIn_24 1 rfl rfl ?_
    refine j_i2l hK dX11_digitIn_25 ?_
    refine j_iload_n hK dX11_digitIn_26 2 rfl rfl ?_
    refine j_i2l hK dX11_digitIn_27 ?_
    obtain ⟨r2, S3, h4, hf⟩ := bd_J hf
    refine k_callSi hK (c_X11_in h4) dX11_digitIn_28 ml_X11_131 ms_X11_in in_X11 mc_X11_in hy_X11_in ⟨by decide, by decide⟩ rfl (Nat.le_of_ble_eq_true rfl) ?_
    refine j_if_eq hK 50 dX11_digitIn_31 (by decide) (fun hc => ?_) (fun hc => ?_)
    · replace hf := if_1 hc hf
      refine j_iconst hK (-1 : Int32) dX11_digitIn_50 ic_m1 ?_
      exact j_iret hK dX11_digitIn_51 rfl (rt_I hA hf)
    · replace hf := if_2 hc hf
      refine j_aload_n hK dX11_digitIn_34 0 rfl rfl ?_
      refine j_getR hK fl_X11_37 dX11_digitIn_35 zo_122 zf_11_9 zr_122_9 ?_
      refine j_aload_n hK dX11_digitIn_38 0 rfl rfl ?_
      refine j_getI hK fl_X11_140 dX11_digitIn_39 zo_122 zf_11_11 ?_
      obtain ⟨hi5, hf⟩ := gd hf
      refine k_iald hK dX11_digitIn_42 zb_128 hi5 rfl ?_
      refine j_bipush hK (48 : Int32) dX11_digitIn_43 bi_48 ?_
      refine j_isub hK dX11_digitIn_45 ?_
      refine j_pc (pc' := 46) rfl ?_
      refine j_iload_n hK dX11_digitIn_46 3 rfl rfl ?_
      refine j_icmp_ne hK 52 dX11_digitIn_47 (by decide) (fun hc => ?_) (fun hc => ?_)
      · replace hf := if_2 hc hf
        refine j_aload_n hK dX11_digitIn_52 0 rfl rfl ?_
        refine j_dup hK dX11_digitIn_53 rfl ?_
        refine j_getI hK fl_X11_140 dX11_digitIn_54 zo_122 zf_11_11 ?_
        refine j_iconst hK (1 : Int32) dX11_digitIn_57 ic_1 ?_
        refine j_iadd hK dX11_digitIn_58 ?_
        refine j_putI hK fl_X11_140 dX11_digitIn_59 zo_122 zf_11_11 ?_
        refine lt_S hf (fun S6 hf => ?_)
        refine j_aload_n hK dX11_digitIn_62 0 rfl rfl ?_
        refine j_pc (pc' := 63) rfl ?_
        refine j_getR hK fl_X11_37 dX11_digitIn_63 zo_122 zf_11_9 zr_122_9 ?_
        refine j_aload_n hK dX11_digitIn_66 0 rfl rfl ?_
        refine j_getI hK fl_X11_140 dX11_digitIn_67 zo_122 zf_11_11 ?_
        refine j_iconst hK (1 : Int32) dX11_digitIn_70 ic_1 ?_
        refine j_isub hK dX11_digitIn_71 ?_
        obtain ⟨hi7, hf⟩ := gd hf
        refine k_iald hK dX11_digitIn_72 zb_128 hi7 rfl ?_
        refine j_bipush hK (48 : Int32) dX11_digitIn_73 bi_48 ?_
        refine j_isub hK dX11_digitIn_75 ?_
        refine lt_I hf (fun y8 hf => ?_)
        refine j_pc (pc' := 76) rfl ?_
        exact j_iret hK dX11_digitIn_76 rfl (rt_I hA hf)
      · replace hf := if_1 hc hf
        refine j_iconst hK (-1 : Int32) dX11_digitIn_50 ic_m1 ?_
        exact j_iret hK dX11_digitIn_51 rfl (rt_I hA hf)
def f_X11_faultOf_44 (x4 : Int32) (S : St) : Option (Int32 × St) := (if x4 = 0 then some (((-1 : Int32) - (gI S 122 11)), S) else some ((0 : Int32), S))
theorem t_X11_faultOf_44 {K : CT} (hK : KO K cX11_faultOf RX11 5 1 (some .int)) {r : Int32} {S' : St} (hA : zans K (some (.int r), S')) {x4 : Int32} {S : St} (hf : f_X11_faultOf_44 x4 S = some (r, S')) : J K 44 [(0, .ref 122), (4, .int x4)] [] S := by
  unfold f_X11_faultOf_44 at hf
  refine j_iload hK dX11_faultOf_44 1 rfl ?_
  refine j_if_eq hK 53 dX11_faultOf_46 (by decide) (fun hc => ?_) (fun hc => ?_)
  · replace hf := if_1 hc hf
    refine j_iconst hK (-1 : Int32) dX11_faultOf_53 ic_m1 ?_
    refine j_aload_n hK dX11_faultOf_54 0 rfl rfl ?_
    refine j_getI hK fl_X11_140 dX11_faultOf_55 zo_122 zf_11_11 ?_
    refine j_isub hK dX11_faultOf_58 ?_
    exact j_iret hK dX11_faultOf_59 rfl (rt_I hA hf)
  · replace hf := if_2 hc hf
    refine j_iconst hK (0 : Int32) dX11_faultOf_49 ic_0 ?_
    refine j_goto hK 59 dX11_faultOf_50 (by decide) ?_
    exact j_iret hK dX11_faultOf_59 rfl (rt_I hA hf)
def f_X11_faultOf_40 (x2 : Int32) (S : St) : Option (Int32 × St) := some (((-1 : Int32) - x2), S)
theorem t_X11_faultOf_40 {K : CT} (hK : KO K cX11_faultOf RX11 5 1 (some .int)) {r : Int32} {S' : St} (hA : zans K (some (.int r), S')) {x2 : Int32} {S : St} (hf : f_X11_faultOf_40 x2 S = some (r, S')) : J K 40 [(2, .int x2)] [] S := by
  unfold f_X11_faultOf_40 at hf
  refine j_iconst hK (-1 : Int32) dX11_faultOf_40 ic_m1 ?_
  refine j_iload_n hK dX11_faultOf_41 0 rfl rfl ?_
  refine j_isub hK dX11_faultOf_42 ?_
  exact j_iret hK dX11_faultOf_43 rfl (rt_I hA hf)
def f_X11_faultOf_20 (x1 : Int32) (x2 : Int32) (s0 : Int32) (S : St) : Option (Int32 × St) := (if x1 ≤ x2 then f_X11_faultOf_44 s0 S else (if s0 = 0 then (if (gI S 122 11) < x2 then f_X11_faultOf_44 s0 S else f_X11_faultOf_40 x2 S) else f_X11_faultOf_40 x2 S))
theorem t_X11_faultOf_20 {K : CT} (hK : KO K cX11_faultOf RX11 5 1 (some .int)) {r : Int32} {S' : St} (hA : zans K (some (.int r), S')) {x1 : Int32} {x2 : Int32} {s0 : Int32} {S : St} (hf : f_X11_faultOf_20 x1 x2 s0 S = some (r, S')) : J K 20 [(0, .ref 122), (1, .int x1), (2, .int x2)] [.int s0] S := by
  unfold f_X11_faultOf_20 at hf
  refine j_istore hK (L' := [(4, .int s0), (0, .ref 122), (1, .int x1), (2, .int x2)]) dX11_faultOf_20 (by decide) rfl ?_
  refine j_iload_n hK dX11_faultOf_22 2 rfl rfl ?_
  refine j_iload_n hK dX11_faultOf_23 3 rfl rfl ?_
  refine j_icmp_le hK 44 dX11_faultOf_24 (by decide) (fun hc => ?_) (fun hc => ?_)
  · replace hf := if_1 hc hf
    refine j_sub [1, 0] rfl ?_
    exact t_X11_faultOf_44 hK hA  hf
  · replace hf := if_2 hc hf
    refine j_iload hK dX11_faultOf_27 0 rfl ?_
    refine j_if_ne hK 40 dX11_faultOf_29 (by decide) (fun hc => ?_) (fun hc => ?_)
    · replace hf := if_2 hc hf
      refine j_sub [3] rfl ?_
      exact t_X11_faultOf_40 hK hA  hf
    · replace hf := if_1 hc hf
      refine j_aload_n hK dX11_faultOf_32 1 rfl rfl ?_
      refine j_getI hK fl_X11_140 dX11_faultOf_33 zo_122 zf_11_11 ?_
      refine j_iload_n hK dX11_faultOf_36 3 rfl rfl ?_
      refine j_icmp_lt hK 44 dX11_faultOf_37 (by decide) (fun hc => ?_) (fun hc => ?_)
      · replace hf := if_1 hc hf
        refine j_sub [1, 0] rfl ?_
        exact t_X11_faultOf_44 hK hA  hf
      · replace hf := if_2 hc hf
        refine j_sub [3] rfl ?_
        exact t_X11_faultOf_40 hK hA  hf
def f_X11_faultOf_19 (x1 : Int32) (x2 : Int32) (S : St) : Option (Int32 × St) := f_X11_faultOf_20 x1 x2 (0 : Int32) S
theorem t_X11_faultOf_19 {K : CT} (hK : KO K cX11_faultOf RX11 5 1 (some .int)) {r : Int32} {S' : St} (hA : zans K (some (.int r), S')) {x1 : Int32} {x2 : Int32} {S : St} (hf : f_X11_faultOf_19 x1 x2 S = some (r, S')) : J K 19 [(0, .ref 122), (1, .int x1), (2, .int x2)] [] S := by
  unfold f_X11_faultOf_19 at hf
  refine j_iconst hK (0 : Int32) dX11_faultOf_19 ic_0 ?_
  exact t_X11_faultOf_20 hK hA  hf
def f_X11_faultOf (p1 : Int32) (p2 : Int32) (p3 : Int32) (S : St) : Option (Int32 × St) := (if p3 = 0 then f_X11_faultOf_19 p1 p2 S else (if (gI S 122 11) = (gI S 122 12) then f_X11_faultOf_20 p1 p2 (1 : Int32) S else f_X11_faultOf_19 p1 p2 S))
theorem c_X11_faultOf {p1 : Int32} {p2 : Int32} {p3 : Int32} {S : St} {r : Int32} {S' : St} (hf : f_X11_faultOf p1 p2 p3 S = some (r, S')) : zM yX11_faultOf cX11_faultOf 5 1 (some .int) [.ref 122, .int p1, .int p2, .int p3] S (some (.int r)) S' := by
  refine zM_of (zpl (by decide)) (Nat.le_of_ble_eq_true rfl) rfl (fun K hK hA => ?_)
  unfold f_X11_faultOf at hf
  refine j_iload_n hK dX11_faultOf_0 3 rfl rfl ?_
  refine j_if_eq hK 19 dX11_faultOf_1 (by decide) (fun hc => ?_) (fun hc => ?_)
  · replace hf := if_1 hc hf
    refine j_sub [0, 1, 2] rfl ?_
    exact t_X11_faultOf_19 hK hA  hf
  · replace hf := if_2 hc hf
    refine j_aload_n hK dX11_faultOf_4 0 rfl rfl ?_
    refine j_getI hK fl_X11_140 dX11_faultOf_5 zo_122 zf_11_11 ?_
    refine j_aload_n hK dX11_faultOf_8 0 rfl rfl ?_
    refine j_getI hK fl_X11_152 dX11_faultOf_9 zo_122 zf_11_12 ?_
    refine j_icmp_ne hK 19 dX11_faultOf_12 (by decide) (fun hc => ?_) (fun hc => ?_)
    · replace hf := if_2 hc hf
      refine j_sub [0, 1, 2] rfl ?_
      exact t_X11_faultOf_19 hK hA  hf
    · replace hf := if_1 hc hf
      refine j_iconst hK (1 : Int32) dX11_faultOf_15 ic_1 ?_
      refine j_goto hK 20 dX11_faultOf_16 (by decide) ?_
      refine j_sub [0, 1, 2] rfl ?_
      exact t_X11_faultOf_20 hK hA  hf
def f_X11_readsPassage_129 (x1 : Int32) (s1 : Int32) (s2 : Int32) (S : St) : Option (Int32 × St) := if inb s1 48 then lt (sI S 129 s1.toNatClampNeg s2) (fun S2 => lt (sI S2 122 15 ((gI S2 122 15) + (1 : Int32))) (fun S3 => if inb (x1 + (3 : Int32)) 48 then (if (gI S3 129 (x1 + (3 : Int32)).toNatClampNeg) < 0 then some ((0 : Int32), S3) else some ((1 : Int32), S3)) else none)) else none
theorem t_X11_readsPassage_129 {K : CT} (hK : KO K cX11_readsPassage RX11 2 4 (some .boolean)) {r : Int32} {S' : St} (hA : zans K (some (.int r), S')) {x1 : Int32} {s1 : Int32} {s2 : Int32} {S : St} (hf : f_X11_readsPassage_129 x1 s1 s2 S = some (r, S')) : J K 129 [(0, .ref 122), (1, .int x1)] [.int s2, .int s1, .ref 129] S := by
  unfold f_X11_readsPassage_129 at hf
  obtain ⟨hi1, hf⟩ := gd hf
  refine k_iast hK dX11_readsPassage_129 zb_129 hi1 rfl ?_
  refine lt_S hf (fun S2 hf => ?_)
  refine j_aload_n hK dX11_readsPassage_130 0 rfl rfl ?_
  refine j_dup hK dX11_readsPassage_131 rfl ?_
  refine j_getI hK fl_X11_181 dX11_readsPassage_132 zo_122 zf_11_15 ?_
  refine j_iconst hK (1 : Int32) dX11_readsPassage_135 ic_1 ?_
  refine j_iadd hK dX11_readsPassage_136 ?_
  refine j_putI hK fl_X11_181 dX11_readsPassage_137 zo_122 zf_11_15 ?_
  refine lt_S hf (fun S3 hf => ?_)
  refine j_aload_n hK dX11_readsPassage_140 0 rfl rfl ?_
  refine j_pc (pc' := 141) rfl ?_
  refine j_getR hK fl_X11_40 dX11_readsPassage_141 zo_122 zf_11_14 zr_122_14 ?_
  refine j_iload_n hK dX11_readsPassage_144 1 rfl rfl ?_
  refine j_iconst hK (3 : Int32) dX11_readsPassage_145 ic_3 ?_
  refine j_iadd hK dX11_readsPassage_146 ?_
  obtain ⟨hi4, hf⟩ := gd hf
  refine k_iald hK dX11_readsPassage_147 zb_129 hi4 rfl ?_
  refine j_if_lt hK 155 dX11_readsPassage_148 (by decide) (fun hc => ?_) (fun hc => ?_)
  · replace hf := if_1 hc hf
    refine j_iconst hK (0 : Int32) dX11_readsPassage_155 ic_0 ?_
    exact j_zret hK dX11_readsPassage_156 rfl rfl (rt_I hA hf)
  · replace hf := if_2 hc hf
    refine j_iconst hK (1 : Int32) dX11_readsPassage_151 ic_1 ?_
    refine j_goto hK 156 dX11_readsPassage_152 (by decide) ?_
    exact j_zret hK dX11_readsPassage_156 rfl rfl (rt_I hA hf)
def f_X11_readsPassage_101 (x1 : Int32) (s1 : Int32) (s2 : Int32) (S : St) : Option (Int32 × St) := if inb s1 48 then lt (sI S 129 s1.toNatClampNeg s2) (fun S6 => if inb (x1 + (2 : Int32)) 48 then (if 0 ≤ (gI S6 129 (x1 + (2 : Int32)).toNatClampNeg) then bd (f_X11_number (1 : Int32) S6) (fun r8 S9 => f_X11_readsPassage_129 x1 (x1 + (3 : Int32)) r8 S9) else f_X11_readsPassage_129 x1 (x1 + (3 : Int32)) (-1 : Int32) S6) else none) else none
theorem t_X11_readsPassage_101 {K : CT} (hK : KO K cX11_readsPassage RX11 2 4 (some .boolean)) {r : Int32} {S' : St} (hA : zans K (some (.int r), S')) {x1 : Int32} {s1 : Int32} {s2 : Int32} {S : St} (hf : f_X11_readsPassage_101 x1 s1 s2 S = some (r, S')) : J K 101 [(0, .ref 122), (1, .int x1)] [.int s2, .int s1, .ref 129] S := by
  unfold f_X11_readsPassage_101 at hf
  obtain ⟨hi5, hf⟩ := gd hf
  refine k_iast hK dX11_readsPassage_101 zb_129 hi5 rfl ?_
  refine lt_S hf (fun S6 hf => ?_)
  refine j_aload_n hK dX11_readsPassage_102 0 rfl rfl ?_
  refine j_getR hK fl_X11_40 dX11_readsPassage_103 zo_122 zf_11_14 zr_122_14 ?_
  refine j_iload_n hK dX11_readsPassage_106 1 rfl rfl ?_
  refine j_iconst hK (3 : Int32) dX11_readsPassage_107 ic_3 ?_
  refine j_iadd hK dX11_readsPassage_108 ?_
  refine j_aload_n hK dX11_readsPassage_109 0 rfl rfl ?_
  refine j_getR hK fl_X11_40 dX11_readsPassage_110 zo_122 zf_11_14 zr_122_14 ?_
  refine j_pc (pc' := 113) rfl ?_
  refine j_iload_n hK dX11_readsPassage_113 1 rfl rfl ?_
  refine j_iconst hK (2 : Int32) dX11_readsPassage_114 ic_2 ?_
  refine j_iadd hK dX11_readsPassage_115 ?_
  obtain ⟨hi7, hf⟩ := gd hf
  refine k_iald hK dX11_readsPassage_116 zb_129 hi7 rfl ?_
  refine j_if_ge hK 124 dX11_readsPassage_117 (by decide) (fun hc => ?_) (fun hc => ?_)
  · replace hf := if_1 hc hf
    refine j_aload_n hK dX11_readsPassage_124 0 rfl rfl ?_
    refine j_iconst hK (1 : Int32) dX11_readsPassage_125 ic_1 ?_
    obtain ⟨r8, S9, h10, hf⟩ := bd_J hf
    refine k_callVi hK (c_X11_number h10) dX11_readsPassage_126 zclX11 zo_122 ml_X11_188 mi_X11_number mx_X11_number in_X11 mc_X11_number hy_X11_number ⟨by decide, by decide⟩ rfl (Nat.le_of_ble_eq_true rfl) ?_
    exact t_X11_readsPassage_129 hK hA  hf
  · replace hf := if_2 hc hf
    refine j_iconst hK (-1 : Int32) dX11_readsPassage_120 ic_m1 ?_
    refine j_goto hK 129 dX11_readsPassage_121 (by decide) ?_
    exact t_X11_readsPassage_129 hK hA  hf
def f_X11_readsPassage_70 (x1 : Int32) (s1 : Int32) (s2 : Int32) (S : St) : Option (Int32 × St) := if inb s1 48 then lt (sI S 129 s1.toNatClampNeg s2) (fun S12 => if inb (x1 + (1 : Int32)) 48 then (if 0 ≤ (gI S12 129 (x1 + (1 : Int32)).toNatClampNeg) then bd (f_X11_digitIn (1 : Int32) (9 : Int32) (-1 : Int32) S12) (fun r14 S15 => f_X11_readsPassage_101 x1 (x1 + (2 : Int32)) r14 S15) else f_X11_readsPassage_101 x1 (x1 + (2 : Int32)) (-1 : Int32) S12) else none) else none
theorem t_X11_readsPassage_70 {K : CT} (hK : KO K cX11_readsPassage RX11 2 4 (some .boolean)) {r : Int32} {S' : St} (hA : zans K (some (.int r), S')) {x1 : Int32} {s1 : Int32} {s2 : Int32} {S : St} (hf : f_X11_readsPassage_70 x1 s1 s2 S = some (r, S')) : J K 70 [(0, .ref 122), (1, .int x1)] [.int s2, .int s1, .ref 129] S := by
  unfold f_X11_readsPassage_70 at hf
  obtain ⟨hi11, hf⟩ := gd hf
  refine k_iast hK dX11_readsPassage_70 zb_129 hi11 rfl ?_
  refine lt_S hf (fun S12 hf => ?_)
  refine j_aload_n hK dX11_readsPassage_71 0 rfl rfl ?_
  refine j_getR hK fl_X11_40 dX11_readsPassage_72 zo_122 zf_11_14 zr_122_14 ?_
  refine j_iload_n hK dX11_readsPassage_75 1 rfl rfl ?_
  refine j_iconst hK (2 : Int32) dX11_readsPassage_76 ic_2 ?_
  refine j_iadd hK dX11_readsPassage_77 ?_
  refine j_aload_n hK dX11_readsPassage_78 0 rfl rfl ?_
  refine j_getR hK fl_X11_40 dX11_readsPassage_79 zo_122 zf_11_14 zr_122_14 ?_
  refine j_pc (pc' := 82) rfl ?_
  refine j_iload_n hK dX11_readsPassage_82 1 rfl rfl ?_
  refine j_iconst hK (1 : Int32) dX11_readsPassage_83 ic_1 ?_
  refine j_iadd hK dX11_readsPassage_84 ?_
  obtain ⟨hi13, hf⟩ := gd hf
  refine k_iald hK dX11_readsPassage_85 zb_129 hi13 rfl ?_
  refine j_if_ge hK 93 dX11_readsPassage_86 (by decide) (fun hc => ?_) (fun hc => ?_)
  · replace hf := if_1 hc hf
    refine j_aload_n hK dX11_readsPassage_93 0 rfl rfl ?_
    refine j_iconst hK (1 : Int32) dX11_readsPassage_94 ic_1 ?_
    refine j_bipush hK (9 : Int32) dX11_readsPassage_95 bi_9 ?_
    refine j_iconst hK (-1 : Int32) dX11_readsPassage_97 ic_m1 ?_
    obtain ⟨r14, S15, h16, hf⟩ := bd_J hf
    refine k_callVi hK (c_X11_digitIn h16) dX11_readsPassage_98 zclX11 zo_122 ml_X11_184 mi_X11_digitIn mx_X11_digitIn in_X11 mc_X11_digitIn hy_X11_digitIn ⟨by decide, by decide⟩ rfl (Nat.le_of_ble_eq_true rfl) ?_
    exact t_X11_readsPassage_101 hK hA  hf
  · replace hf := if_2 hc hf
    refine j_iconst hK (-1 : Int32) dX11_readsPassage_89 ic_m1 ?_
    refine j_goto hK 101 dX11_readsPassage_90 (by decide) ?_
    exact t_X11_readsPassage_101 hK hA  hf
def f_X11_readsPassage (S : St) : Option (Int32 × St) := (if ((gI S 122 3) + (gI S 122 15)) = (12 : Int32) then some ((0 : Int32), S) else lt ((4 : Int32) * (gI S 122 15)) (fun y17 => bd (f_X11_digitIn (0 : Int32) (7 : Int32) (-1 : Int32) S) (fun r18 S19 => if inb y17 48 then lt (sI S19 129 y17.toNatClampNeg r18) (fun S22 => if inb y17 48 then (if 0 ≤ (gI S22 129 y17.toNatClampNeg) then if inb y17 48 then bd (f_X11_digitIn (0 : Int32) (7 : Int32) (gI S22 129 y17.toNatClampNeg) S22) (fun r25 S26 => f_X11_readsPassage_70 y17 (y17 + (1 : Int32)) r25 S26) else none else f_X11_readsPassage_70 y17 (y17 + (1 : Int32)) (-1 : Int32) S22) else none) else none)))
theorem c_X11_readsPassage {S : St} {r : Int32} {S' : St} (hf : f_X11_readsPassage S = some (r, S')) : zM yX11_readsPassage cX11_readsPassage 2 4 (some .boolean) [.ref 122] S (some (.int r)) S' := by
  refine zM_of (zpl (by decide)) (Nat.le_of_ble_eq_true rfl) rfl (fun K hK hA => ?_)
  unfold f_X11_readsPassage at hf
  refine j_aload_n hK dX11_readsPassage_0 0 rfl rfl ?_
  refine j_getI hK fl_X11_128 dX11_readsPassage_1 zo_122 zf_11_3 ?_
  refine j_aload_n hK dX11_readsPassage_4 0 rfl rfl ?_
  refine j_getI hK fl_X11_181 dX11_readsPassage_5 zo_122 zf_11_15 ?_
  refine j_iadd hK dX11_readsPassage_8 ?_
  refine j_bipush hK (12 : Int32) dX11_readsPassage_9 bi_12 ?_
  refine j_icmp_ne hK 16 dX11_readsPassage_11 (by decide) (fun hc => ?_) (fun hc => ?_)
  · replace hf := if_2 hc hf
    refine j_iconst hK (4 : Int32) dX11_readsPassage_16 ic_4 ?_
    refine j_aload_n hK dX11_readsPassage_17 0 rfl rfl ?_
    refine j_getI hK fl_X11_181 dX11_readsPassage_18 zo_122 zf_11_15 ?_
    refine j_imul hK dX11_readsPassage_21 ?_
    refine lt_I hf (fun y17 hf => ?_)
    refine j_istore_n hK (L' := [(1, .int y17), (0, .ref 122)]) dX11_readsPassage_22 rfl (by decide) rfl ?_
    refine j_aload_n hK dX11_readsPassage_23 1 rfl rfl ?_
    refine j_getR hK fl_X11_40 dX11_readsPassage_24 zo_122 zf_11_14 zr_122_14 ?_
    refine j_pc (pc' := 27) rfl ?_
    refine j_iload_n hK dX11_readsPassage_27 0 rfl rfl ?_
    refine j_aload_n hK dX11_readsPassage_28 1 rfl rfl ?_
    refine j_iconst hK (0 : Int32) dX11_readsPassage_29 ic_0 ?_
    refine j_bipush hK (7 : Int32) dX11_readsPassage_30 bi_7 ?_
    refine j_iconst hK (-1 : Int32) dX11_readsPassage_32 ic_m1 ?_
    obtain ⟨r18, S19, h20, hf⟩ := bd_J hf
    refine k_callVi hK (c_X11_digitIn h20) dX11_readsPassage_33 zclX11 zo_122 ml_X11_184 mi_X11_digitIn mx_X11_digitIn in_X11 mc_X11_digitIn hy_X11_digitIn ⟨by decide, by decide⟩ rfl (Nat.le_of_ble_eq_true rfl) ?_
    obtain ⟨hi21, hf⟩ := gd hf
    refine k_iast hK dX11_readsPassage_36 zb_129 hi21 rfl ?_
    refine lt_S hf (fun S22 hf => ?_)
    refine j_aload_n hK dX11_readsPassage_37 1 rfl rfl ?_
    refine j_pc (pc' := 38) rfl ?_
    refine j_getR hK fl_X11_40 dX11_readsPassage_38 zo_122 zf_11_14 zr_122_14 ?_
    refine j_iload_n hK dX11_readsPassage_41 0 rfl rfl ?_
    refine j_iconst hK (1 : Int32) dX11_readsPassage_42 ic_1 ?_
    refine j_iadd hK dX11_readsPassage_43 ?_
    refine j_aload_n hK dX11_readsPassage_44 1 rfl rfl ?_
    refine j_getR hK fl_X11_40 dX11_readsPassage_45 zo_122 zf_11_14 zr_122_14 ?_
    refine j_iload_n hK dX11_readsPassage_48 0 rfl rfl ?_
    obtain ⟨hi23, hf⟩ := gd hf
    refine k_iald hK dX11_readsPassage_49 zb_129 hi23 rfl ?_
    refine j_pc (pc' := 50) rfl ?_
    refine j_if_ge hK 57 dX11_readsPassage_50 (by decide) (fun hc => ?_) (fun hc => ?_)
    · replace hf := if_1 hc hf
      refine j_aload_n hK dX11_readsPassage_57 1 rfl rfl ?_
      refine j_iconst hK (0 : Int32) dX11_readsPassage_58 ic_0 ?_
      refine j_bipush hK (7 : Int32) dX11_readsPassage_59 bi_7 ?_
      refine j_aload_n hK dX11_readsPassage_61 1 rfl rfl ?_
      refine j_getR hK fl_X11_40 dX11_readsPassage_62 zo_122 zf_11_14 zr_122_14 ?_
      refine j_iload_n hK dX11_readsPassage_65 0 rfl rfl ?_
      obtain ⟨hi24, hf⟩ := gd hf
      refine k_iald hK dX11_readsPassage_66 zb_129 hi24 rfl ?_
      refine j_pc (pc' := 67) rfl ?_
      obtain ⟨r25, S26, h27, hf⟩ := bd_J hf
      refine k_callVi hK (c_X11_digitIn h27) dX11_readsPassage_67 zclX11 zo_122 ml_X11_184 mi_X11_digitIn mx_X11_digitIn in_X11 mc_X11_digitIn hy_X11_digitIn ⟨by decide, by decide⟩ rfl (Nat.le_of_ble_eq_true rfl) ?_
      refine j_sub [1, 0] rfl ?_
      exact t_X11_readsPassage_70 hK hA  hf
    · replace hf := if_2 hc hf
      refine j_iconst hK (-1 : Int32) dX11_readsPassage_53 ic_m1 ?_
      refine j_goto hK 70 dX11_readsPassage_54 (by decide) ?_
      refine j_sub [1, 0] rfl ?_
      exact t_X11_readsPassage_70 hK hA  hf
  · replace hf := if_1 hc hf
    refine j_iconst hK (0 : Int32) dX11_readsPassage_14 ic_0 ?_
    exact j_zret hK dX11_readsPassage_15 rfl rfl (rt_I hA hf)
def f_X11_passages_252 (s1 : Int32) (s2 : Int32) (S : St) : Option (Int32 × St) := bd (f_X11_flag s2 S) (fun r1 S2 => lt (sI S2 122 4 (s1 + r1)) (fun S4 => some ((gI S4 122 15), S4)))
theorem t_X11_passages_252 {K : CT} (hK : KO K cX11_passages RX11 6 5 (some .int)) {r : Int32} {S' : St} (hA : zans K (some (.int r), S')) {s1 : Int32} {s2 : Int32} {S : St} (hf : f_X11_passages_252 s1 s2 S = some (r, S')) : J K 252 [(0, .ref 122)] [.int s2, .int s1, .ref 122] S := by
  unfold f_X11_passages_252 at hf
  obtain ⟨r1, S2, h3, hf⟩ := bd_J hf
  refine k_callSi hK (c_X11_flag h3) dX11_passages_252 ml_X11_155 ms_X11_flag in_X11 mc_X11_flag hy_X11_flag ⟨by decide, by decide⟩ rfl (Nat.le_of_ble_eq_true rfl) ?_
  refine j_iadd hK dX11_passages_255 ?_
  refine j_putI hK fl_X11_209 dX11_passages_256 zo_122 zf_11_4 ?_
  refine lt_S hf (fun S4 hf => ?_)
  refine j_aload_n hK dX11_passages_259 0 rfl rfl ?_
  refine j_getI hK fl_X11_181 dX11_passages_260 zo_122 zf_11_15 ?_
  exact j_iret hK dX11_passages_263 rfl (rt_I hA hf)
def f_X11_passages_232 (s1 : Int32) (S : St) : Option (Int32 × St) := lt (sI S 122 28 s1) (fun S5 => (if (gI S5 122 15) ≤ 0 then f_X11_passages_252 (gI S5 122 4) (0 : Int32) S5 else f_X11_passages_252 (gI S5 122 4) (1 : Int32) S5))
theorem t_X11_passages_232 {K : CT} (hK : KO K cX11_passages RX11 6 5 (some .int)) {r : Int32} {S' : St} (hA : zans K (some (.int r), S')) {s1 : Int32} {S : St} (hf : f_X11_passages_232 s1 S = some (r, S')) : J K 232 [(0, .ref 122)] [.int s1, .ref 122] S := by
  unfold f_X11_passages_232 at hf
  refine j_putI hK fl_X11_206 dX11_passages_232 zo_122 zf_11_28 ?_
  refine lt_S hf (fun S5 hf => ?_)
  refine j_aload_n hK dX11_passages_235 0 rfl rfl ?_
  refine j_dup hK dX11_passages_236 rfl ?_
  refine j_getI hK fl_X11_209 dX11_passages_237 zo_122 zf_11_4 ?_
  refine j_aload_n hK dX11_passages_240 0 rfl rfl ?_
  refine j_getI hK fl_X11_181 dX11_passages_241 zo_122 zf_11_15 ?_
  refine j_if_le hK 251 dX11_passages_244 (by decide) (fun hc => ?_) (fun hc => ?_)
  · replace hf := if_1 hc hf
    refine j_iconst hK (0 : Int32) dX11_passages_251 ic_0 ?_
    exact t_X11_passages_252 hK hA  hf
  · replace hf := if_2 hc hf
    refine j_iconst hK (1 : Int32) dX11_passages_247 ic_1 ?_
    refine j_goto hK 252 dX11_passages_248 (by decide) ?_
    exact t_X11_passages_252 hK hA  hf
def f_X11_passages_81b (e : Int32 → St → Option (Int32 × St)) (k : Int32 → St → Option (Int32 × St)) (v : Int32) (S : St) : Option (Int32 × St) := (if (gI S 122 15) ≤ v then e v S else if inb ((4 : Int32) * v) 48 then if inb (gI S 122 3) 12 then lt (sI S 124 (gI S 122 3).toNatClampNeg (gI S 129 ((4 : Int32) * v).toNatClampNeg)) (fun S8 => if inb (((4 : Int32) * v) + (1 : Int32)) 48 then if inb (gI S8 122 3) 12 then lt (sI S8 125 (gI S8 122 3).toNatClampNeg (gI S8 129 (((4 : Int32) * v) + (1 : Int32)).toNatClampNeg)) (fun S11 => if inb (((4 : Int32) * v) + (2 : Int32)) 48 then if inb (gI S11 122 3) 39 then lt (sI S11 126 (gI S11 122 3).toNatClampNeg (gI S11 129 (((4 : Int32) * v) + (2 : Int32)).toNatClampNeg)) (fun S14 => if inb (((4 : Int32) * v) + (3 : Int32)) 48 then if inb ((12 : Int32) + (gI S14 122 3)) 39 then lt (sI S14 126 ((12 : Int32) + (gI S14 122 3)).toNatClampNeg (gI S14 129 (((4 : Int32) * v) + (3 : Int32)).toNatClampNeg)) (fun S17 => if inb ((24 : Int32) + (gI S17 122 3)) 39 then lt (sI S17 126 ((24 : Int32) + (gI S17 122 3)).toNatClampNeg (0 : Int32)) (fun S19 => lt (sI S19 126 36 ((gI S19 126 36) ||| ((1 : Int32) <<< ((gI S19 122 3) &&& 31)))) (fun S20 => lt (sI S20 122 3 ((gI S20 122 3) + (1 : Int32))) (fun S21 => k (v + (1 : Int32)) S21))) else none) else none else none) else none else none) else none else none) else none else none)
theorem t_X11_passages_81 {K : CT} (hK : KO K cX11_passages RX11 6 5 (some .int)) {r : Int32} {S' : St} (hA : zans K (some (.int r), S')) {e : Int32 → St → Option (Int32 × St)} (he : ∀ (v : Int32) (S : St), e v S = some (r, S') → J K 216 [(0, .ref 122)] [] S) : ∀ (n : Nat) (v : Int32) (S : St), lp (f_X11_passages_81b  e) n v S = some (r, S') → J K 81 [(0, .ref 122), (5, .int v)] [] S :=
  lp_J (P := fun (v : Int32) (S : St) => J K 81 [(0, .ref 122), (5, .int v)] [] S) (fun k hk v S hf => by
    unfold f_X11_passages_81b at hf
    refine j_iload hK dX11_passages_81 1 rfl ?_
    refine j_aload_n hK dX11_passages_83 0 rfl rfl ?_
    refine j_getI hK fl_X11_181 dX11_passages_84 zo_122 zf_11_15 ?_
    refine j_icmp_ge hK 216 dX11_passages_87 (by decide) (fun hc => ?_) (fun hc => ?_)
    · replace hf := if_1 hc hf
      refine j_sub [0] rfl ?_
      exact he _ _ hf
    · replace hf := if_2 hc hf
      refine j_aload_n hK dX11_passages_90 0 rfl rfl ?_
      refine j_getR hK fl_X11_24 dX11_passages_91 zo_122 zf_11_5 zr_122_5 ?_
      refine j_aload_n hK dX11_passages_94 0 rfl rfl ?_
      refine j_getI hK fl_X11_128 dX11_passages_95 zo_122 zf_11_3 ?_
      refine j_aload_n hK dX11_passages_98 0 rfl rfl ?_
      refine j_getR hK fl_X11_40 dX11_passages_99 zo_122 zf_11_14 zr_122_14 ?_
      refine j_iconst hK (4 : Int32) dX11_passages_102 ic_4 ?_
      refine j_pc (pc' := 103) rfl ?_
      refine j_iload hK dX11_passages_103 1 rfl ?_
      refine j_imul hK dX11_passages_105 ?_
      obtain ⟨hi6, hf⟩ := gd hf
      refine k_iald hK dX11_passages_106 zb_129 hi6 rfl ?_
      obtain ⟨hi7, hf⟩ := gd hf
      refine k_iast hK dX11_passages_107 zb_124 hi7 rfl ?_
      refine lt_S hf (fun S8 hf => ?_)
      refine j_aload_n hK dX11_passages_108 0 rfl rfl ?_
      refine j_getR hK fl_X11_28 dX11_passages_109 zo_122 zf_11_6 zr_122_6 ?_
      refine j_aload_n hK dX11_passages_112 0 rfl rfl ?_
      refine j_getI hK fl_X11_128 dX11_passages_113 zo_122 zf_11_3 ?_
      refine j_pc (pc' := 116) rfl ?_
      refine j_aload_n hK dX11_passages_116 0 rfl rfl ?_
      refine j_getR hK fl_X11_40 dX11_passages_117 zo_122 zf_11_14 zr_122_14 ?_
      refine j_iconst hK (4 : Int32) dX11_passages_120 ic_4 ?_
      refine j_iload hK dX11_passages_121 1 rfl ?_
      refine j_imul hK dX11_passages_123 ?_
      refine j_iconst hK (1 : Int32) dX11_passages_124 ic_1 ?_
      refine j_iadd hK dX11_passages_125 ?_
      obtain ⟨hi9, hf⟩ := gd hf
      refine k_iald hK dX11_passages_126 zb_129 hi9 rfl ?_
      refine j_pc (pc' := 127) rfl ?_
      obtain ⟨hi10, hf⟩ := gd hf
      refine k_iast hK dX11_passages_127 zb_125 hi10 rfl ?_
      refine lt_S hf (fun S11 hf => ?_)
      refine j_aload_n hK dX11_passages_128 0 rfl rfl ?_
      refine j_getR hK fl_X11_31 dX11_passages_129 zo_122 zf_11_7 zr_122_7 ?_
      refine j_aload_n hK dX11_passages_132 0 rfl rfl ?_
      refine j_getI hK fl_X11_128 dX11_passages_133 zo_122 zf_11_3 ?_
      refine j_aload_n hK dX11_passages_136 0 rfl rfl ?_
      refine j_getR hK fl_X11_40 dX11_passages_137 zo_122 zf_11_14 zr_122_14 ?_
      refine j_iconst hK (4 : Int32) dX11_passages_140 ic_4 ?_
      refine j_pc (pc' := 141) rfl ?_
      refine j_iload hK dX11_passages_141 1 rfl ?_
      refine j_imul hK dX11_passages_143 ?_
      refine j_iconst hK (2 : Int32) dX11_passages_144 ic_2 ?_
      refine j_iadd hK dX11_passages_145 ?_
      obtain ⟨hi12, hf⟩ := gd hf
      refine k_iald hK dX11_passages_146 zb_129 hi12 rfl ?_
      obtain ⟨hi13, hf⟩ := gd hf
      refine k_iast hK dX11_passages_147 zb_126 hi13 rfl ?_
      refine lt_S hf (fun S14 hf => ?_)
      refine j_aload_n hK dX11_passages_148 0 rfl rfl ?_
      refine j_getR hK fl_X11_31 dX11_passages_149 zo_122 zf_11_7 zr_122_7 ?_
      refine j_pc (pc' := 152) rfl ?_
      refine j_bipush hK (12 : Int32) dX11_passages_152 bi_12 ?_
      refine j_aload_n hK dX11_passages_154 0 rfl rfl ?_
      refine j_getI hK fl_X11_128 dX11_passages_155 zo_122 zf_11_3 ?_
      refine j_iadd hK dX11_passages_158 ?_
      refine j_aload_n hK dX11_passages_159 0 rfl rfl ?_
      refine j_getR hK fl_X11_40 dX11_passages_160 zo_122 zf_11_14 zr_122_14 ?_
      refine j_iconst hK (4 : Int32) dX11_passages_163 ic_4 ?_
      refine j_iload hK dX11_passages_164 1 rfl ?_
      refine j_pc (pc' := 166) rfl ?_
      refine j_imul hK dX11_passages_166 ?_
      refine j_iconst hK (3 : Int32) dX11_passages_167 ic_3 ?_
      refine j_iadd hK dX11_passages_168 ?_
      obtain ⟨hi15, hf⟩ := gd hf
      refine k_iald hK dX11_passages_169 zb_129 hi15 rfl ?_
      obtain ⟨hi16, hf⟩ := gd hf
      refine k_iast hK dX11_passages_170 zb_126 hi16 rfl ?_
      refine lt_S hf (fun S17 hf => ?_)
      refine j_aload_n hK dX11_passages_171 0 rfl rfl ?_
      refine j_getR hK fl_X11_31 dX11_passages_172 zo_122 zf_11_7 zr_122_7 ?_
      refine j_bipush hK (24 : Int32) dX11_passages_175 bi_24 ?_
      refine j_pc (pc' := 177) rfl ?_
      refine j_aload_n hK dX11_passages_177 0 rfl rfl ?_
      refine j_getI hK fl_X11_128 dX11_passages_178 zo_122 zf_11_3 ?_
      refine j_iadd hK dX11_passages_181 ?_
      refine j_iconst hK (0 : Int32) dX11_passages_182 ic_0 ?_
      obtain ⟨hi18, hf⟩ := gd hf
      refine k_iast hK dX11_passages_183 zb_126 hi18 rfl ?_
      refine lt_S hf (fun S19 hf => ?_)
      refine j_aload_n hK dX11_passages_184 0 rfl rfl ?_
      refine j_getR hK fl_X11_31 dX11_passages_185 zo_122 zf_11_7 zr_122_7 ?_
      refine j_bipush hK (36 : Int32) dX11_passages_188 bi_36 ?_
      refine j_pc (pc' := 190) rfl ?_
      refine j_dup2 hK dX11_passages_190 rfl rfl ?_
      refine k_iald hK dX11_passages_191 zb_126 (by decide) tn_36 ?_
      refine j_iconst hK (1 : Int32) dX11_passages_192 ic_1 ?_
      refine j_aload_n hK dX11_passages_193 0 rfl rfl ?_
      refine j_getI hK fl_X11_128 dX11_passages_194 zo_122 zf_11_3 ?_
      refine j_ishl hK dX11_passages_197 ?_
      refine j_ior hK dX11_passages_198 ?_
      refine k_iast hK dX11_passages_199 zb_126 (by decide) tn_36 ?_
      refine lt_S hf (fun S20 hf => ?_)
      refine j_pc (pc' := 200) rfl ?_
      refine j_aload_n hK dX11_passages_200 0 rfl rfl ?_
      refine j_dup hK dX11_passages_201 rfl ?_
      refine j_getI hK fl_X11_128 dX11_passages_202 zo_122 zf_11_3 ?_
      refine j_iconst hK (1 : Int32) dX11_passages_205 ic_1 ?_
      refine j_iadd hK dX11_passages_206 ?_
      refine j_putI hK fl_X11_128 dX11_passages_207 zo_122 zf_11_3 ?_
      refine lt_S hf (fun S21 hf => ?_)
      refine j_iinc hK (L' := [(5, .int (v + (1 : Int32))), (0, .ref 122)]) dX11_passages_210 1 rfl (congrArg (fun y => v + y) ic_1) (by decide) rfl ?_
      refine j_goto hK 81 dX11_passages_213 (by decide) ?_
      refine j_sub [1, 0] rfl ?_
      exact hk _ _ hf)
def f_X11_passages_56 (x1 : Int32) (x2 : Int32) (s0 : Int32) (k e : Int32 × Int32 → St → Option (Int32 × St)) (S : St) : Option (Int32 × St) := k (x2, s0) S
theorem t_X11_passages_56 {K : CT} (hK : KO K cX11_passages RX11 6 5 (some .int)) {r : Int32} {S' : St} (hA : zans K (some (.int r), S')) {x1 : Int32} {x2 : Int32} {s0 : Int32} {k e : Int32 × Int32 → St → Option (Int32 × St)} (hk : ∀ (v : Int32 × Int32) (S : St), k v S = some (r, S') → J K 29 [(0, .ref 122), (1, .int x1), (2, .int v.1), (3, .int v.2)] [] S) (he : ∀ (v : Int32 × Int32) (S : St), e v S = some (r, S') → J K 60 [(0, .ref 122), (1, .int x1), (2, .int v.1)] [] S) {S : St} (hf : f_X11_passages_56 x1 x2 s0 k e S = some (r, S')) : J K 56 [(0, .ref 122), (1, .int x1), (2, .int x2)] [.int s0] S := by
  unfold f_X11_passages_56 at hf
  refine j_istore_n hK (L' := [(3, .int s0), (0, .ref 122), (1, .int x1), (2, .int x2)]) dX11_passages_56 rfl (by decide) rfl ?_
  refine j_goto hK 29 dX11_passages_57 (by decide) ?_
  refine j_sub [1, 2, 3, 0] rfl ?_
  exact hk _ _ hf
def f_X11_passages_55 (x1 : Int32) (x2 : Int32) (k e : Int32 × Int32 → St → Option (Int32 × St)) (S : St) : Option (Int32 × St) := f_X11_passages_56 x1 x2 (0 : Int32) k e S
theorem t_X11_passages_55 {K : CT} (hK : KO K cX11_passages RX11 6 5 (some .int)) {r : Int32} {S' : St} (hA : zans K (some (.int r), S')) {x1 : Int32} {x2 : Int32} {k e : Int32 × Int32 → St → Option (Int32 × St)} (hk : ∀ (v : Int32 × Int32) (S : St), k v S = some (r, S') → J K 29 [(0, .ref 122), (1, .int x1), (2, .int v.1), (3, .int v.2)] [] S) (he : ∀ (v : Int32 × Int32) (S : St), e v S = some (r, S') → J K 60 [(0, .ref 122), (1, .int x1), (2, .int v.1)] [] S) {S : St} (hf : f_X11_passages_55 x1 x2 k e S = some (r, S')) : J K 55 [(0, .ref 122), (1, .int x1), (2, .int x2)] [] S := by
  unfold f_X11_passages_55 at hf
  refine j_iconst hK (0 : Int32) dX11_passages_55 ic_0 ?_
  exact t_X11_passages_56 hK hA hk he hf
def f_X11_passages_29b (x1 : Int32) (e : Int32 × Int32 → St → Option (Int32 × St)) (k : Int32 × Int32 → St → Option (Int32 × St)) (v : Int32 × Int32) (S : St) : Option (Int32 × St) := (if v.2 = 0 then e (v.1, v.2) S else bd (f_X11_readsPassage S) (fun r22 S23 => (if r22 = 0 then f_X11_passages_55 x1 r22 k e S23 else bd (f_X11_takes (59 : Int32) S23) (fun r25 S26 => (if r25 = 0 then f_X11_passages_55 x1 r22 k e S26 else f_X11_passages_56 x1 r22 (1 : Int32) k e S26)))))
theorem t_X11_passages_29 {K : CT} (hK : KO K cX11_passages RX11 6 5 (some .int)) {r : Int32} {S' : St} (hA : zans K (some (.int r), S')) {x1 : Int32} {e : Int32 × Int32 → St → Option (Int32 × St)} (he : ∀ (v : Int32 × Int32) (S : St), e v S = some (r, S') → J K 60 [(0, .ref 122), (1, .int x1), (2, .int v.1)] [] S) : ∀ (n : Nat) (v : Int32 × Int32) (S : St), lp (f_X11_passages_29b x1 e) n v S = some (r, S') → J K 29 [(0, .ref 122), (1, .int x1), (2, .int v.1), (3, .int v.2)] [] S :=
  lp_J (P := fun (v : Int32 × Int32) (S : St) => J K 29 [(0, .ref 122), (1, .int x1), (2, .int v.1), (3, .int v.2)] [] S) (fun k hk v S hf => by
    unfold f_X11_passages_29b at hf
    refine j_iload_n hK dX11_passages_29 3 rfl rfl ?_
    refine j_if_eq hK 60 dX11_passages_30 (by decide) (fun hc => ?_) (fun hc => ?_)
    · replace hf := if_1 hc hf
      refine j_sub [0, 1, 2] rfl ?_
      exact he _ _ hf
    · replace hf := if_2 hc hf
      refine j_aload_n hK dX11_passages_33 0 rfl rfl ?_
      obtain ⟨r22, S23, h24, hf⟩ := bd_J hf
      refine k_callVi hK (c_X11_readsPassage h24) dX11_passages_34 zclX11 zo_122 ml_X11_195 mi_X11_readsPassage mx_X11_readsPassage in_X11 mc_X11_readsPassage hy_X11_readsPassage ⟨by decide, by decide⟩ rfl (Nat.le_of_ble_eq_true rfl) ?_
      refine j_istore_n hK (L' := [(2, .int r22), (0, .ref 122), (1, .int x1), (3, .int v.2)]) dX11_passages_37 rfl (by decide) rfl ?_
      refine j_iload_n hK dX11_passages_38 0 rfl rfl ?_
      refine j_if_eq hK 55 dX11_passages_39 (by decide) (fun hc => ?_) (fun hc => ?_)
      · replace hf := if_1 hc hf
        refine j_sub [1, 2, 0] rfl ?_
        exact t_X11_passages_55 hK hA hk he hf
      · replace hf := if_2 hc hf
        refine j_aload_n hK dX11_passages_42 1 rfl rfl ?_
        refine j_bipush hK (59 : Int32) dX11_passages_43 bi_59 ?_
        obtain ⟨r25, S26, h27, hf⟩ := bd_J hf
        refine k_callVi hK (c_X11_takes h27) dX11_passages_45 zclX11 zo_122 ml_X11_198 mi_X11_takes mx_X11_takes in_X11 mc_X11_takes hy_X11_takes ⟨by decide, by decide⟩ rfl (Nat.le_of_ble_eq_true rfl) ?_
        refine j_if_eq hK 55 dX11_passages_48 (by decide) (fun hc => ?_) (fun hc => ?_)
        · replace hf := if_1 hc hf
          refine j_sub [1, 2, 0] rfl ?_
          exact t_X11_passages_55 hK hA hk he hf
        · replace hf := if_2 hc hf
          refine j_iconst hK (1 : Int32) dX11_passages_51 ic_1 ?_
          refine j_goto hK 56 dX11_passages_52 (by decide) ?_
          refine j_sub [1, 2, 0] rfl ?_
          exact t_X11_passages_56 hK hA hk he hf)
def f_X11_passages_28 (x1 : Int32) (x2 : Int32) (s0 : Int32) (S : St) : Option (Int32 × St) := lp (f_X11_passages_29b x1 (fun v28 S29 => bd (f_X11_faultOf x1 (59 : Int32) v28.1 S29) (fun r30 S31 => (if 0 ≤ r30 then lp (f_X11_passages_81b  (fun v33 S34 => (if (gI S34 122 15) ≤ 0 then f_X11_passages_232 (gI S34 122 28) S34 else f_X11_passages_232 (0 : Int32) S34))) FU (0 : Int32) S31 else some (r30, S31))))) FU (x2, s0) S
theorem t_X11_passages_28 {K : CT} (hK : KO K cX11_passages RX11 6 5 (some .int)) {r : Int32} {S' : St} (hA : zans K (some (.int r), S')) {x1 : Int32} {x2 : Int32} {s0 : Int32} {S : St} (hf : f_X11_passages_28 x1 x2 s0 S = some (r, S')) : J K 28 [(0, .ref 122), (1, .int x1), (2, .int x2)] [.int s0] S := by
  unfold f_X11_passages_28 at hf
  refine j_istore_n hK (L' := [(3, .int s0), (0, .ref 122), (1, .int x1), (2, .int x2)]) dX11_passages_28 rfl (by decide) rfl ?_
  refine j_sub [1, 2, 3, 0] rfl ?_
  refine t_X11_passages_29 hK hA  (fun v28 S29 hf => ?_) _ _ _ hf
  refine j_aload_n hK dX11_passages_60 0 rfl rfl ?_
  refine j_iload_n hK dX11_passages_61 1 rfl rfl ?_
  refine j_bipush hK (59 : Int32) dX11_passages_62 bi_59 ?_
  refine j_iload_n hK dX11_passages_64 2 rfl rfl ?_
  obtain ⟨r30, S31, h32, hf⟩ := bd_J hf
  refine k_callVi hK (c_X11_faultOf h32) dX11_passages_65 zclX11 zo_122 ml_X11_202 mi_X11_faultOf mx_X11_faultOf in_X11 mc_X11_faultOf hy_X11_faultOf ⟨by decide, by decide⟩ rfl (Nat.le_of_ble_eq_true rfl) ?_
  refine j_istore hK (L' := [(4, .int r30), (0, .ref 122), (1, .int x1), (2, .int v28.1)]) dX11_passages_68 (by decide) rfl ?_
  refine j_iload hK dX11_passages_70 0 rfl ?_
  refine j_pc (pc' := 72) rfl ?_
  refine j_if_ge hK 78 dX11_passages_72 (by decide) (fun hc => ?_) (fun hc => ?_)
  · replace hf := if_1 hc hf
    refine j_iconst hK (0 : Int32) dX11_passages_78 ic_0 ?_
    refine j_istore hK (L' := [(5, .int (0 : Int32)), (4, .int r30), (0, .ref 122), (1, .int x1), (2, .int v28.1)]) dX11_passages_79 (by decide) rfl ?_
    refine j_sub [2, 0] rfl ?_
    refine t_X11_passages_81 hK hA  (fun v33 S34 hf => ?_) _ _ _ hf
    refine j_aload_n hK dX11_passages_216 0 rfl rfl ?_
    refine j_aload_n hK dX11_passages_217 0 rfl rfl ?_
    refine j_getI hK fl_X11_181 dX11_passages_218 zo_122 zf_11_15 ?_
    refine j_if_le hK 228 dX11_passages_221 (by decide) (fun hc => ?_) (fun hc => ?_)
    · replace hf := if_1 hc hf
      refine j_aload_n hK dX11_passages_228 0 rfl rfl ?_
      refine j_getI hK fl_X11_206 dX11_passages_229 zo_122 zf_11_28 ?_
      exact t_X11_passages_232 hK hA  hf
    · replace hf := if_2 hc hf
      refine j_iconst hK (0 : Int32) dX11_passages_224 ic_0 ?_
      refine j_goto hK 232 dX11_passages_225 (by decide) ?_
      exact t_X11_passages_232 hK hA  hf
  · replace hf := if_2 hc hf
    refine j_iload hK dX11_passages_75 0 rfl ?_
    exact j_iret hK dX11_passages_77 rfl (rt_I hA hf)
def f_X11_passages (S : St) : Option (Int32 × St) := lt (sI S 122 0 (0 : Int32)) (fun S35 => bd (f_X11_begins (59 : Int32) S35) (fun r36 S37 => lt (sI S37 122 15 (0 : Int32)) (fun S39 => (if r36 ≤ 0 then f_X11_passages_28 r36 (1 : Int32) (0 : Int32) S39 else f_X11_passages_28 r36 (1 : Int32) (1 : Int32) S39))))
theorem c_X11_passages {S : St} {r : Int32} {S' : St} (hf : f_X11_passages S = some (r, S')) : zM yX11_passages cX11_passages 6 5 (some .int) [.ref 122] S (some (.int r)) S' := by
  refine zM_of (zpl (by decide)) (Nat.le_of_ble_eq_true rfl) rfl (fun K hK hA => ?_)
  unfold f_X11_passages at hf
  refine j_aload_n hK dX11_passages_0 0 rfl rfl ?_
  refine j_iconst hK (0 : Int32) dX11_passages_1 ic_0 ?_
  refine j_putI hK fl_X11_3 dX11_passages_2 zo_122 zf_11_0 ?_
  refine lt_S hf (fun S35 hf => ?_)
  refine j_aload_n hK dX11_passages_5 0 rfl rfl ?_
  refine j_bipush hK (59 : Int32) dX11_passages_6 bi_59 ?_
  obtain ⟨r36, S37, h38, hf⟩ := bd_J hf
  refine k_callVi hK (c_X11_begins h38) dX11_passages_8 zclX11 zo_122 ml_X11_192 mi_X11_begins mx_X11_begins in_X11 mc_X11_begins hy_X11_begins ⟨by decide, by decide⟩ rfl (Nat.le_of_ble_eq_true rfl) ?_
  refine j_istore_n hK (L' := [(1, .int r36), (0, .ref 122)]) dX11_passages_11 rfl (by decide) rfl ?_
  refine j_aload_n hK dX11_passages_12 1 rfl rfl ?_
  refine j_pc (pc' := 13) rfl ?_
  refine j_iconst hK (0 : Int32) dX11_passages_13 ic_0 ?_
  refine j_putI hK fl_X11_181 dX11_passages_14 zo_122 zf_11_15 ?_
  refine lt_S hf (fun S39 hf => ?_)
  refine j_iconst hK (1 : Int32) dX11_passages_17 ic_1 ?_
  refine j_istore_n hK (L' := [(2, .int (1 : Int32)), (1, .int r36), (0, .ref 122)]) dX11_passages_18 rfl (by decide) rfl ?_
  refine j_iload_n hK dX11_passages_19 1 rfl rfl ?_
  refine j_if_le hK 27 dX11_passages_20 (by decide) (fun hc => ?_) (fun hc => ?_)
  · replace hf := if_1 hc hf
    refine j_iconst hK (0 : Int32) dX11_passages_27 ic_0 ?_
    refine j_sub [2, 1, 0] rfl ?_
    exact t_X11_passages_28 hK hA  hf
  · replace hf := if_2 hc hf
    refine j_iconst hK (1 : Int32) dX11_passages_23 ic_1 ?_
    refine j_goto hK 28 dX11_passages_24 (by decide) ?_
    refine j_sub [2, 1, 0] rfl ?_
    exact t_X11_passages_28 hK hA  hf
def f_X11_codes (p1 : Int32) (S : St) : Option (Unit × St) := if inb (gI S 122 19) 80 then lt (sI S 131 (gI S 122 19).toNatClampNeg p1) (fun S2 => lt (sI S2 122 19 ((gI S2 122 19) + (1 : Int32))) (fun S3 => some ((), S3))) else none
theorem c_X11_codes {p1 : Int32} {S : St} {r : Unit} {S' : St} (hf : f_X11_codes p1 S = some (r, S')) : zM yX11_codes cX11_codes 2 1 none [.ref 122, .int p1] S (none) S' := by
  refine zM_of (zpl (by decide)) (Nat.le_of_ble_eq_true rfl) rfl (fun K hK hA => ?_)
  unfold f_X11_codes at hf
  refine j_aload_n hK dX11_codes_0 0 rfl rfl ?_
  refine j_getR hK fl_X11_46 dX11_codes_1 zo_122 zf_11_17 zr_122_17 ?_
  refine j_aload_n hK dX11_codes_4 0 rfl rfl ?_
  refine j_getI hK fl_X11_212 dX11_codes_5 zo_122 zf_11_19 ?_
  refine j_iload_n hK dX11_codes_8 1 rfl rfl ?_
  obtain ⟨hi1, hf⟩ := gd hf
  refine k_iast hK dX11_codes_9 zb_131 hi1 rfl ?_
  refine lt_S hf (fun S2 hf => ?_)
  refine j_aload_n hK dX11_codes_10 0 rfl rfl ?_
  refine j_dup hK dX11_codes_11 rfl ?_
  refine j_pc (pc' := 12) rfl ?_
  refine j_getI hK fl_X11_212 dX11_codes_12 zo_122 zf_11_19 ?_
  refine j_iconst hK (1 : Int32) dX11_codes_15 ic_1 ?_
  refine j_iadd hK dX11_codes_16 ?_
  refine j_putI hK fl_X11_212 dX11_codes_17 zo_122 zf_11_19 ?_
  refine lt_S hf (fun S3 hf => ?_)
  exact j_vret hK dX11_codes_20 rfl (rt_V hA hf)
def f_X11_readsRank_109 (gf_X11_readsThing : St → Option (Int32 × St)) (gf_X11_readsRank : Int32 → St → Option (Int32 × St)) (x1 : Int32) (s0 : Int32) (k e : Int32 → St → Option (Int32 × St)) (S : St) : Option (Int32 × St) := k s0 S
theorem t_X11_readsRank_109 {K : CT} {dd : Nat} (hK : KO K cX11_readsRank RX11 4 (dd + 40) (some .boolean)) {r : Int32} {S' : St} (hA : zans K (some (.int r), S')) {gf_X11_readsThing : St → Option (Int32 × St)} {gf_X11_readsRank : Int32 → St → Option (Int32 × St)} (hg_X11_readsThing : ∀ {S0 : St} {r0 : Int32} {S1 : St}, gf_X11_readsThing  S0 = some (r0, S1) → zM yX11_readsThing cX11_readsThing 2 (dd + 39) (some .boolean) [.ref 122] S0 (some (.int r0)) S1) (hg_X11_readsRank : ∀ {q0 : Int32} {S0 : St} {r0 : Int32} {S1 : St}, gf_X11_readsRank q0 S0 = some (r0, S1) → zM yX11_readsRank cX11_readsRank 4 (dd + 39) (some .boolean) [.ref 122, .int q0] S0 (some (.int r0)) S1) {x1 : Int32} {s0 : Int32} {k e : Int32 → St → Option (Int32 × St)} (hk : ∀ (v : Int32) (S : St), k v S = some (r, S') → J K 24 [(0, .ref 122), (1, .int x1), (2, .int v)] [] S) (he : ∀ (v : Int32) (S : St), e v S = some (r, S') → J K 113 [] [] S) {S : St} (hf : f_X11_readsRank_109 gf_X11_readsThing gf_X11_readsRank x1 s0 k e S = some (r, S')) : J K 109 [(0, .ref 122), (1, .int x1)] [.int s0] S := by
  unfold f_X11_readsRank_109 at hf
  refine j_istore_n hK (L' := [(2, .int s0), (0, .ref 122), (1, .int x1)]) dX11_readsRank_109 rfl (by decide) rfl ?_
  refine j_goto hK 24 dX11_readsRank_110 (by decide) ?_
  refine j_sub [1, 2, 0] rfl ?_
  exact hk _ _ hf
def f_X11_readsRank_96 (gf_X11_readsThing : St → Option (Int32 × St)) (gf_X11_readsRank : Int32 → St → Option (Int32 × St)) (x1 : Int32) (s1 : Int32) (s2 : Int32) (k e : Int32 → St → Option (Int32 × St)) (S : St) : Option (Int32 × St) := bd (f_X11_codes (s1 + s2) S) (fun r1 S2 => (if x1 ≤ 0 then f_X11_readsRank_109 gf_X11_readsThing gf_X11_readsRank x1 (0 : Int32) k e S2 else f_X11_readsRank_109 gf_X11_readsThing gf_X11_readsRank x1 (1 : Int32) k e S2))
theorem t_X11_readsRank_96 {K : CT} {dd : Nat} (hK : KO K cX11_readsRank RX11 4 (dd + 40) (some .boolean)) {r : Int32} {S' : St} (hA : zans K (some (.int r), S')) {gf_X11_readsThing : St → Option (Int32 × St)} {gf_X11_readsRank : Int32 → St → Option (Int32 × St)} (hg_X11_readsThing : ∀ {S0 : St} {r0 : Int32} {S1 : St}, gf_X11_readsThing  S0 = some (r0, S1) → zM yX11_readsThing cX11_readsThing 2 (dd + 39) (some .boolean) [.ref 122] S0 (some (.int r0)) S1) (hg_X11_readsRank : ∀ {q0 : Int32} {S0 : St} {r0 : Int32} {S1 : St}, gf_X11_readsRank q0 S0 = some (r0, S1) → zM yX11_readsRank cX11_readsRank 4 (dd + 39) (some .boolean) [.ref 122, .int q0] S0 (some (.int r0)) S1) {x1 : Int32} {s1 : Int32} {s2 : Int32} {k e : Int32 → St → Option (Int32 × St)} (hk : ∀ (v : Int32) (S : St), k v S = some (r, S') → J K 24 [(0, .ref 122), (1, .int x1), (2, .int v)] [] S) (he : ∀ (v : Int32) (S : St), e v S = some (r, S') → J K 113 [] [] S) {S : St} (hf : f_X11_readsRank_96 gf_X11_readsThing gf_X11_readsRank x1 s1 s2 k e S = some (r, S')) : J K 96 [(0, .ref 122), (1, .int x1)] [.int s2, .int s1, .ref 122] S := by
  unfold f_X11_readsRank_96 at hf
  refine j_iadd hK dX11_readsRank_96 ?_
  obtain ⟨r1, S2, h3, hf⟩ := bd_J hf
  refine k_callVv hK (c_X11_codes h3) dX11_readsRank_97 zclX11 zo_122 ml_X11_218 mi_X11_codes mx_X11_codes in_X11 mc_X11_codes hy_X11_codes ⟨by omega, by decide⟩ rfl (Nat.le_of_ble_eq_true rfl) ?_
  refine j_iload_n hK dX11_readsRank_100 1 rfl rfl ?_
  refine j_if_le hK 108 dX11_readsRank_101 (by decide) (fun hc => ?_) (fun hc => ?_)
  · replace hf := if_1 hc hf
    refine j_iconst hK (0 : Int32) dX11_readsRank_108 ic_0 ?_
    exact t_X11_readsRank_109 hK hA hg_X11_readsThing hg_X11_readsRank hk he hf
  · replace hf := if_2 hc hf
    refine j_iconst hK (1 : Int32) dX11_readsRank_104 ic_1 ?_
    refine j_goto hK 109 dX11_readsRank_105 (by decide) ?_
    exact t_X11_readsRank_109 hK hA hg_X11_readsThing hg_X11_readsRank hk he hf
def f_X11_readsRank_24b (gf_X11_readsThing : St → Option (Int32 × St)) (gf_X11_readsRank : Int32 → St → Option (Int32 × St)) (x1 : Int32) (e : Int32 → St → Option (Int32 × St)) (k : Int32 → St → Option (Int32 × St)) (v : Int32) (S : St) : Option (Int32 × St) := (if v = 0 then e v S else (if x1 = 0 then bd (f_X11_takesOf 1 S) (fun r16 S17 => (if 0 ≤ r16 then bd (gf_X11_readsRank (x1 + (1 : Int32)) S17) (fun r19 S20 => (if r19 = 0 then some ((0 : Int32), S20) else (if x1 = 0 then f_X11_readsRank_96 gf_X11_readsThing gf_X11_readsRank x1 ((2000 : Int32) + r16) (0 : Int32) k e S20 else (if x1 = (1 : Int32) then f_X11_readsRank_96 gf_X11_readsThing gf_X11_readsRank x1 ((2000 : Int32) + r16) (3 : Int32) k e S20 else f_X11_readsRank_96 gf_X11_readsThing gf_X11_readsRank x1 ((2000 : Int32) + r16) (5 : Int32) k e S20)))) else some ((1 : Int32), S17))) else (if x1 = (1 : Int32) then bd (f_X11_takesOf 2 S) (fun r10 S11 => (if 0 ≤ r10 then bd (gf_X11_readsRank (x1 + (1 : Int32)) S11) (fun r13 S14 => (if r13 = 0 then some ((0 : Int32), S14) else (if x1 = 0 then f_X11_readsRank_96 gf_X11_readsThing gf_X11_readsRank x1 ((2000 : Int32) + r10) (0 : Int32) k e S14 else (if x1 = (1 : Int32) then f_X11_readsRank_96 gf_X11_readsThing gf_X11_readsRank x1 ((2000 : Int32) + r10) (3 : Int32) k e S14 else f_X11_readsRank_96 gf_X11_readsThing gf_X11_readsRank x1 ((2000 : Int32) + r10) (5 : Int32) k e S14)))) else some ((1 : Int32), S11))) else bd (f_X11_takesOf 3 S) (fun r4 S5 => (if 0 ≤ r4 then bd (gf_X11_readsRank (x1 + (1 : Int32)) S5) (fun r7 S8 => (if r7 = 0 then some ((0 : Int32), S8) else (if x1 = 0 then f_X11_readsRank_96 gf_X11_readsThing gf_X11_readsRank x1 ((2000 : Int32) + r4) (0 : Int32) k e S8 else (if x1 = (1 : Int32) then f_X11_readsRank_96 gf_X11_readsThing gf_X11_readsRank x1 ((2000 : Int32) + r4) (3 : Int32) k e S8 else f_X11_readsRank_96 gf_X11_readsThing gf_X11_readsRank x1 ((2000 : Int32) + r4) (5 : Int32) k e S8)))) else some ((1 : Int32), S5))))))
theorem t_X11_readsRank_24 {K : CT} {dd : Nat} (hK : KO K cX11_readsRank RX11 4 (dd + 40) (some .boolean)) {r : Int32} {S' : St} (hA : zans K (some (.int r), S')) {gf_X11_readsThing : St → Option (Int32 × St)} {gf_X11_readsRank : Int32 → St → Option (Int32 × St)} (hg_X11_readsThing : ∀ {S0 : St} {r0 : Int32} {S1 : St}, gf_X11_readsThing  S0 = some (r0, S1) → zM yX11_readsThing cX11_readsThing 2 (dd + 39) (some .boolean) [.ref 122] S0 (some (.int r0)) S1) (hg_X11_readsRank : ∀ {q0 : Int32} {S0 : St} {r0 : Int32} {S1 : St}, gf_X11_readsRank q0 S0 = some (r0, S1) → zM yX11_readsRank cX11_readsRank 4 (dd + 39) (some .boolean) [.ref 122, .int q0] S0 (some (.int r0)) S1) {x1 : Int32} {e : Int32 → St → Option (Int32 × St)} (he : ∀ (v : Int32) (S : St), e v S = some (r, S') → J K 113 [] [] S) : ∀ (n : Nat) (v : Int32) (S : St), lp (f_X11_readsRank_24b gf_X11_readsThing gf_X11_readsRank x1 e) n v S = some (r, S') → J K 24 [(0, .ref 122), (1, .int x1), (2, .int v)] [] S :=
  lp_J (P := fun (v : Int32) (S : St) => J K 24 [(0, .ref 122), (1, .int x1), (2, .int v)] [] S) (fun k hk v S hf => by
    unfold f_X11_readsRank_24b at hf
    refine j_iload_n hK dX11_readsRank_24 2 rfl rfl ?_
    refine j_if_eq hK 113 dX11_readsRank_25 (by decide) (fun hc => ?_) (fun hc => ?_)
    · replace hf := if_1 hc hf
      refine j_sub [] rfl ?_
      exact he _ _ hf
    · replace hf := if_2 hc hf
      refine j_aload_n hK dX11_readsRank_28 0 rfl rfl ?_
      refine j_iload_n hK dX11_readsRank_29 1 rfl rfl ?_
      refine j_if_ne hK 38 dX11_readsRank_30 (by decide) (fun hc => ?_) (fun hc => ?_)
      · replace hf := if_2 hc hf
        refine j_iload_n hK dX11_readsRank_38 1 rfl rfl ?_
        refine j_iconst hK (1 : Int32) dX11_readsRank_39 ic_1 ?_
        refine j_icmp_ne hK 48 dX11_readsRank_40 (by decide) (fun hc => ?_) (fun hc => ?_)
        · replace hf := if_2 hc hf
          refine j_ldcS (i := 3) hK (fun _ _ _ h => h.1.2.2.2.2.2.2.2.2.2.1) dX11_readsRank_48 ?_
          obtain ⟨r4, S5, h6, hf⟩ := bd_J hf
          refine k_callVi hK (c_X11_takesOf (by decide) h6) dX11_readsRank_50 zclX11 zo_122 ml_X11_224 mi_X11_takesOf mx_X11_takesOf in_X11 mc_X11_takesOf hy_X11_takesOf ⟨by omega, by decide⟩ rfl (Nat.le_of_ble_eq_true rfl) ?_
          refine j_istore_n hK (L' := [(3, .int r4), (0, .ref 122), (1, .int x1), (2, .int v)]) dX11_readsRank_53 rfl (by decide) rfl ?_
          refine j_iload_n hK dX11_readsRank_54 0 rfl rfl ?_
          refine j_if_ge hK 60 dX11_readsRank_55 (by decide) (fun hc => ?_) (fun hc => ?_)
          · replace hf := if_1 hc hf
            refine j_aload_n hK dX11_readsRank_60 1 rfl rfl ?_
            refine j_iload_n hK dX11_readsRank_61 2 rfl rfl ?_
            refine j_iconst hK (1 : Int32) dX11_readsRank_62 ic_1 ?_
            refine j_iadd hK dX11_readsRank_63 ?_
            obtain ⟨r7, S8, h9, hf⟩ := bd_J hf
            refine k_callVi hK (hg_X11_readsRank h9) dX11_readsRank_64 zclX11 zo_122 ml_X11_228 mi_X11_readsRank mx_X11_readsRank in_X11 mc_X11_readsRank hy_X11_readsRank ⟨by omega, by decide⟩ rfl (Nat.le_of_ble_eq_true rfl) ?_
            refine j_if_ne hK 72 dX11_readsRank_67 (by decide) (fun hc => ?_) (fun hc => ?_)
            · replace hf := if_2 hc hf
              refine j_aload_n hK dX11_readsRank_72 1 rfl rfl ?_
              refine j_sipush hK (2000 : Int32) dX11_readsRank_73 si_2000 ?_
              refine j_iload_n hK dX11_readsRank_76 0 rfl rfl ?_
              refine j_iadd hK dX11_readsRank_77 ?_
              refine j_iload_n hK dX11_readsRank_78 2 rfl rfl ?_
              refine j_if_ne hK 86 dX11_readsRank_79 (by decide) (fun hc => ?_) (fun hc => ?_)
              · replace hf := if_2 hc hf
                refine j_iload_n hK dX11_readsRank_86 2 rfl rfl ?_
                refine j_iconst hK (1 : Int32) dX11_readsRank_87 ic_1 ?_
                refine j_icmp_ne hK 95 dX11_readsRank_88 (by decide) (fun hc => ?_) (fun hc => ?_)
                · replace hf := if_2 hc hf
                  refine j_iconst hK (5 : Int32) dX11_readsRank_95 ic_5 ?_
                  refine j_sub [1, 2] rfl ?_
                  exact t_X11_readsRank_96 hK hA hg_X11_readsThing hg_X11_readsRank hk he hf
                · replace hf := if_1 hc hf
                  refine j_iconst hK (3 : Int32) dX11_readsRank_91 ic_3 ?_
                  refine j_goto hK 96 dX11_readsRank_92 (by decide) ?_
                  refine j_sub [1, 2] rfl ?_
                  exact t_X11_readsRank_96 hK hA hg_X11_readsThing hg_X11_readsRank hk he hf
              · replace hf := if_1 hc hf
                refine j_iconst hK (0 : Int32) dX11_readsRank_82 ic_0 ?_
                refine j_goto hK 96 dX11_readsRank_83 (by decide) ?_
                refine j_sub [1, 2] rfl ?_
                exact t_X11_readsRank_96 hK hA hg_X11_readsThing hg_X11_readsRank hk he hf
            · replace hf := if_1 hc hf
              refine j_iconst hK (0 : Int32) dX11_readsRank_70 ic_0 ?_
              exact j_zret hK dX11_readsRank_71 rfl rfl (rt_I hA hf)
          · replace hf := if_2 hc hf
            refine j_iconst hK (1 : Int32) dX11_readsRank_58 ic_1 ?_
            exact j_zret hK dX11_readsRank_59 rfl rfl (rt_I hA hf)
        · replace hf := if_1 hc hf
          refine j_ldcS (i := 2) hK (fun _ _ _ h => h.1.2.2.2.2.2.2.2.2.1) dX11_readsRank_43 ?_
          refine j_goto hK 50 dX11_readsRank_45 (by decide) ?_
          obtain ⟨r10, S11, h12, hf⟩ := bd_J hf
          refine k_callVi hK (c_X11_takesOf (by decide) h12) dX11_readsRank_50 zclX11 zo_122 ml_X11_224 mi_X11_takesOf mx_X11_takesOf in_X11 mc_X11_takesOf hy_X11_takesOf ⟨by omega, by decide⟩ rfl (Nat.le_of_ble_eq_true rfl) ?_
          refine j_istore_n hK (L' := [(3, .int r10), (0, .ref 122), (1, .int x1), (2, .int v)]) dX11_readsRank_53 rfl (by decide) rfl ?_
          refine j_iload_n hK dX11_readsRank_54 0 rfl rfl ?_
          refine j_if_ge hK 60 dX11_readsRank_55 (by decide) (fun hc => ?_) (fun hc => ?_)
          · replace hf := if_1 hc hf
            refine j_aload_n hK dX11_readsRank_60 1 rfl rfl ?_
            refine j_iload_n hK dX11_readsRank_61 2 rfl rfl ?_
            refine j_iconst hK (1 : Int32) dX11_readsRank_62 ic_1 ?_
            refine j_iadd hK dX11_readsRank_63 ?_
            obtain ⟨r13, S14, h15, hf⟩ := bd_J hf
            refine k_callVi hK (hg_X11_readsRank h15) dX11_readsRank_64 zclX11 zo_122 ml_X11_228 mi_X11_readsRank mx_X11_readsRank in_X11 mc_X11_readsRank hy_X11_readsRank ⟨by omega, by decide⟩ rfl (Nat.le_of_ble_eq_true rfl) ?_
            refine j_if_ne hK 72 dX11_readsRank_67 (by decide) (fun hc => ?_) (fun hc => ?_)
            · replace hf := if_2 hc hf
              refine j_aload_n hK dX11_readsRank_72 1 rfl rfl ?_
              refine j_sipush hK (2000 : Int32) dX11_readsRank_73 si_2000 ?_
              refine j_iload_n hK dX11_readsRank_76 0 rfl rfl ?_
              refine j_iadd hK dX11_readsRank_77 ?_
              refine j_iload_n hK dX11_readsRank_78 2 rfl rfl ?_
              refine j_if_ne hK 86 dX11_readsRank_79 (by decide) (fun hc => ?_) (fun hc => ?_)
              · replace hf := if_2 hc hf
                refine j_iload_n hK dX11_readsRank_86 2 rfl rfl ?_
                refine j_iconst hK (1 : Int32) dX11_readsRank_87 ic_1 ?_
                refine j_icmp_ne hK 95 dX11_readsRank_88 (by decide) (fun hc => ?_) (fun hc => ?_)
                · replace hf := if_2 hc hf
                  refine j_iconst hK (5 : Int32) dX11_readsRank_95 ic_5 ?_
                  refine j_sub [1, 2] rfl ?_
                  exact t_X11_readsRank_96 hK hA hg_X11_readsThing hg_X11_readsRank hk he hf
                · replace hf := if_1 hc hf
                  refine j_iconst hK (3 : Int32) dX11_readsRank_91 ic_3 ?_
                  refine j_goto hK 96 dX11_readsRank_92 (by decide) ?_
                  refine j_sub [1, 2] rfl ?_
                  exact t_X11_readsRank_96 hK hA hg_X11_readsThing hg_X11_readsRank hk he hf
              · replace hf := if_1 hc hf
                refine j_iconst hK (0 : Int32) dX11_readsRank_82 ic_0 ?_
                refine j_goto hK 96 dX11_readsRank_83 (by decide) ?_
                refine j_sub [1, 2] rfl ?_
                exact t_X11_readsRank_96 hK hA hg_X11_readsThing hg_X11_readsRank hk he hf
            · replace hf := if_1 hc hf
              refine j_iconst hK (0 : Int32) dX11_readsRank_70 ic_0 ?_
              exact j_zret hK dX11_readsRank_71 rfl rfl (rt_I hA hf)
          · replace hf := if_2 hc hf
            refine j_iconst hK (1 : Int32) dX11_readsRank_58 ic_1 ?_
            exact j_zret hK dX11_readsRank_59 rfl rfl (rt_I hA hf)
      · replace hf := if_1 hc hf
        refine j_ldcS (i := 1) hK (fun _ _ _ h => h.1.2.2.2.2.2.2.2.1) dX11_readsRank_33 ?_
        refine j_goto hK 50 dX11_readsRank_35 (by decide) ?_
        obtain ⟨r16, S17, h18, hf⟩ := bd_J hf
        refine k_callVi hK (c_X11_takesOf (by decide) h18) dX11_readsRank_50 zclX11 zo_122 ml_X11_224 mi_X11_takesOf mx_X11_takesOf in_X11 mc_X11_takesOf hy_X11_takesOf ⟨by omega, by decide⟩ rfl (Nat.le_of_ble_eq_true rfl) ?_
        refine j_istore_n hK (L' := [(3, .int r16), (0, .ref 122), (1, .int x1), (2, .int v)]) dX11_readsRank_53 rfl (by decide) rfl ?_
        refine j_iload_n hK dX11_readsRank_54 0 rfl rfl ?_
        refine j_if_ge hK 60 dX11_readsRank_55 (by decide) (fun hc => ?_) (fun hc => ?_)
        · replace hf := if_1 hc hf
          refine j_aload_n hK dX11_readsRank_60 1 rfl rfl ?_
          refine j_iload_n hK dX11_readsRank_61 2 rfl rfl ?_
          refine j_iconst hK (1 : Int32) dX11_readsRank_62 ic_1 ?_
          refine j_iadd hK dX11_readsRank_63 ?_
          obtain ⟨r19, S20, h21, hf⟩ := bd_J hf
          refine k_callVi hK (hg_X11_readsRank h21) dX11_readsRank_64 zclX11 zo_122 ml_X11_228 mi_X11_readsRank mx_X11_readsRank in_X11 mc_X11_readsRank hy_X11_readsRank ⟨by omega, by decide⟩ rfl (Nat.le_of_ble_eq_true rfl) ?_
          refine j_if_ne hK 72 dX11_readsRank_67 (by decide) (fun hc => ?_) (fun hc => ?_)
          · replace hf := if_2 hc hf
            refine j_aload_n hK dX11_readsRank_72 1 rfl rfl ?_
            refine j_sipush hK (2000 : Int32) dX11_readsRank_73 si_2000 ?_
            refine j_iload_n hK dX11_readsRank_76 0 rfl rfl ?_
            refine j_iadd hK dX11_readsRank_77 ?_
            refine j_iload_n hK dX11_readsRank_78 2 rfl rfl ?_
            refine j_if_ne hK 86 dX11_readsRank_79 (by decide) (fun hc => ?_) (fun hc => ?_)
            · replace hf := if_2 hc hf
              refine j_iload_n hK dX11_readsRank_86 2 rfl rfl ?_
              refine j_iconst hK (1 : Int32) dX11_readsRank_87 ic_1 ?_
              refine j_icmp_ne hK 95 dX11_readsRank_88 (by decide) (fun hc => ?_) (fun hc => ?_)
              · replace hf := if_2 hc hf
                refine j_iconst hK (5 : Int32) dX11_readsRank_95 ic_5 ?_
                refine j_sub [1, 2] rfl ?_
                exact t_X11_readsRank_96 hK hA hg_X11_readsThing hg_X11_readsRank hk he hf
              · replace hf := if_1 hc hf
                refine j_iconst hK (3 : Int32) dX11_readsRank_91 ic_3 ?_
                refine j_goto hK 96 dX11_readsRank_92 (by decide) ?_
                refine j_sub [1, 2] rfl ?_
                exact t_X11_readsRank_96 hK hA hg_X11_readsThing hg_X11_readsRank hk he hf
            · replace hf := if_1 hc hf
              refine j_iconst hK (0 : Int32) dX11_readsRank_82 ic_0 ?_
              refine j_goto hK 96 dX11_readsRank_83 (by decide) ?_
              refine j_sub [1, 2] rfl ?_
              exact t_X11_readsRank_96 hK hA hg_X11_readsThing hg_X11_readsRank hk he hf
          · replace hf := if_1 hc hf
            refine j_iconst hK (0 : Int32) dX11_readsRank_70 ic_0 ?_
            exact j_zret hK dX11_readsRank_71 rfl rfl (rt_I hA hf)
        · replace hf := if_2 hc hf
          refine j_iconst hK (1 : Int32) dX11_readsRank_58 ic_1 ?_
          exact j_zret hK dX11_readsRank_59 rfl rfl (rt_I hA hf))
def f_X11_readsRank (gf_X11_readsThing : St → Option (Int32 × St)) (gf_X11_readsRank : Int32 → St → Option (Int32 × St)) (p1 : Int32) (S : St) : Option (Int32 × St) := (if p1 = (3 : Int32) then bd (gf_X11_readsThing S) (fun r27 S28 => if r27 = 0 ∨ r27 = 1 then some (r27, S28) else none) else bd (gf_X11_readsRank (p1 + (1 : Int32)) S) (fun r22 S23 => (if r22 = 0 then some ((0 : Int32), S23) else lp (f_X11_readsRank_24b gf_X11_readsThing gf_X11_readsRank p1 (fun v25 S26 => some ((1 : Int32), S26))) FU (1 : Int32) S23)))
theorem c_X11_readsRank {dd : Nat} {gf_X11_readsThing : St → Option (Int32 × St)} {gf_X11_readsRank : Int32 → St → Option (Int32 × St)} (hg_X11_readsThing : ∀ {S0 : St} {r0 : Int32} {S1 : St}, gf_X11_readsThing  S0 = some (r0, S1) → zM yX11_readsThing cX11_readsThing 2 (dd + 39) (some .boolean) [.ref 122] S0 (some (.int r0)) S1) (hg_X11_readsRank : ∀ {q0 : Int32} {S0 : St} {r0 : Int32} {S1 : St}, gf_X11_readsRank q0 S0 = some (r0, S1) → zM yX11_readsRank cX11_readsRank 4 (dd + 39) (some .boolean) [.ref 122, .int q0] S0 (some (.int r0)) S1) {p1 : Int32} {S : St} {r : Int32} {S' : St} (hf : f_X11_readsRank gf_X11_readsThing gf_X11_readsRank p1 S = some (r, S')) : zM yX11_readsRank cX11_readsRank 4 (dd + 40) (some .boolean) [.ref 122, .int p1] S (some (.int r)) S' := by
  refine zM_of (zpl (by decide)) (Nat.le_of_ble_eq_true rfl) rfl (fun K hK hA => ?_)
  unfold f_X11_readsRank at hf
  refine j_iload_n hK dX11_readsRank_0 1 rfl rfl ?_
  refine j_iconst hK (3 : Int32) dX11_readsRank_1 ic_3 ?_
  refine j_icmp_ne hK 10 dX11_readsRank_2 (by decide) (fun hc => ?_) (fun hc => ?_)
  · replace hf := if_2 hc hf
    refine j_aload_n hK dX11_readsRank_10 0 rfl rfl ?_
    refine j_iload_n hK dX11_readsRank_11 1 rfl rfl ?_
    refine j_iconst hK (1 : Int32) dX11_readsRank_12 ic_1 ?_
    refine j_iadd hK dX11_readsRank_13 ?_
    obtain ⟨r22, S23, h24, hf⟩ := bd_J hf
    refine k_callVi hK (hg_X11_readsRank h24) dX11_readsRank_14 zclX11 zo_122 ml_X11_228 mi_X11_readsRank mx_X11_readsRank in_X11 mc_X11_readsRank hy_X11_readsRank ⟨by omega, by decide⟩ rfl (Nat.le_of_ble_eq_true rfl) ?_
    refine j_if_ne hK 22 dX11_readsRank_17 (by decide) (fun hc => ?_) (fun hc => ?_)
    · replace hf := if_2 hc hf
      refine j_iconst hK (1 : Int32) dX11_readsRank_22 ic_1 ?_
      refine j_istore_n hK (L' := [(2, .int (1 : Int32)), (0, .ref 122), (1, .int p1)]) dX11_readsRank_23 rfl (by decide) rfl ?_
      refine j_sub [1, 2, 0] rfl ?_
      refine t_X11_readsRank_24 hK hA hg_X11_readsThing hg_X11_readsRank (fun v25 S26 hf => ?_) _ _ _ hf
      refine j_iconst hK (1 : Int32) dX11_readsRank_113 ic_1 ?_
      exact j_zret hK dX11_readsRank_114 rfl rfl (rt_I hA hf)
    · replace hf := if_1 hc hf
      refine j_iconst hK (0 : Int32) dX11_readsRank_20 ic_0 ?_
      exact j_zret hK dX11_readsRank_21 rfl rfl (rt_I hA hf)
  · replace hf := if_1 hc hf
    refine j_aload_n hK dX11_readsRank_5 0 rfl rfl ?_
    obtain ⟨r27, S28, h29, hf⟩ := bd_J hf
    refine k_callVi hK (hg_X11_readsThing h29) dX11_readsRank_6 zclX11 zo_122 ml_X11_215 mi_X11_readsThing mx_X11_readsThing in_X11 mc_X11_readsThing hy_X11_readsThing ⟨by omega, by decide⟩ rfl (Nat.le_of_ble_eq_true rfl) ?_
    obtain ⟨hz, hf⟩ := gd hf
    exact j_zret hK dX11_readsRank_9 rfl (nz hz) (rt_I hA hf)
