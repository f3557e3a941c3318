def f_X11_way_145 (x1 : Int32) (x2 : Int32) (x3 : Int32) (x5 : Int32) (s0 : Int32) (k e : Int32 × Int32 → St → Option (Int32 × St)) (S : St) : Option (Int32 × St) := k (s0, (x5 + (-1 : Int32))) S
theorem t_X11_way_145 {K : CT} (hK : KO K cX11_way RX11 7 3 (some .int)) {r : Int32} {S' : St} (hA : zans K = (some (.int r), S')) {x1 : Int32} {x2 : Int32} {x3 : Int32} {x5 : Int32} {s0 : Int32} {k e : Int32 × Int32 → St → Option (Int32 × St)} (hk : ∀ (v : Int32 × Int32) (S : St), k v S = some (r, S') → J K 67 [(0, .ref 122), (1, .int x1), (2, .int x2), (3, .int x3), (4, .int v.1), (5, .int v.2)] [] S) (he : ∀ (v : Int32 × Int32) (S : St), e v S = some (r, S') → J K 153 [(0, .ref 122), (1, .int x1), (2, .int x2), (3, .int x3), (4, .int v.1)] [] S) {S : St} (hf : f_X11_way_145 x1 x2 x3 x5 s0 k e S = some (r, S')) : J K 145 [(0, .ref 122), (1, .int x1), (2, .int x2), (3, .int x3), (5, .int x5)] [.int s0] S := by
  unfold f_X11_way_145 at hf
  refine j_istore hK (L' := [(4, .int s0), (0, .ref 122), (1, .int x1), (2, .int x2), (3, .int x3), (5, .int x5)]) dX11_way_145 (by decide) rfl ?_
  refine j_iinc hK (L' := [(5, .int (x5 + (-1 : Int32))), (4, .int s0), (0, .ref 122), (1, .int x1), (2, .int x2), (3, .int x3)]) dX11_way_147 5 rfl (congrArg (fun y => x5 + y) ic_m1) (by decide) rfl ?_
  refine j_goto hK 67 dX11_way_150 (by decide) ?_
  refine j_sub [2, 3, 4, 5, 1, 0] rfl ?_
  exact hk _ _ hf
def f_X11_way_143 (x1 : Int32) (x2 : Int32) (x3 : Int32) (x4 : Int32) (x5 : Int32) (k e : Int32 × Int32 → St → Option (Int32 × St)) (S : St) : Option (Int32 × St) := f_X11_way_145 x1 x2 x3 x5 x4 k e S
theorem t_X11_way_143 {K : CT} (hK : KO K cX11_way RX11 7 3 (some .int)) {r : Int32} {S' : St} (hA : zans K = (some (.int r), S')) {x1 : Int32} {x2 : Int32} {x3 : Int32} {x4 : Int32} {x5 : Int32} {k e : Int32 × Int32 → St → Option (Int32 × St)} (hk : ∀ (v : Int32 × Int32) (S : St), k v S = some (r, S') → J K 67 [(0, .ref 122), (1, .int x1), (2, .int x2), (3, .int x3), (4, .int v.1), (5, .int v.2)] [] S) (he : ∀ (v : Int32 × Int32) (S : St), e v S = some (r, S') → J K 153 [(0, .ref 122), (1, .int x1), (2, .int x2), (3, .int x3), (4, .int v.1)] [] S) {S : St} (hf : f_X11_way_143 x1 x2 x3 x4 x5 k e S = some (r, S')) : J K 143 [(0, .ref 122), (1, .int x1), (2, .int x2), (3, .int x3), (4, .int x4), (5, .int x5)] [] S := by
  unfold f_X11_way_143 at hf
  refine j_iload hK dX11_way_143 4 rfl ?_
  refine j_sub [0, 1, 2, 3, 5] rfl ?_
  exact t_X11_way_145 hK hA hk he hf
def f_X11_way_102 (x1 : Int32) (x2 : Int32) (x3 : Int32) (x4 : Int32) (x5 : Int32) (s0 : Int32) (k e : Int32 × Int32 → St → Option (Int32 × St)) (S : St) : Option (Int32 × St) := (if s0 = 0 then f_X11_way_143 x1 x2 x3 x4 x5 k e S else if inb x5 39 then bd (f_X11_beyond x5 x3 S) (fun r2 S3 => bd (f_X11_farOf r2 x2 S3) (fun r5 S6 => bd (f_X11_farOf x3 x2 S6) (fun r8 S9 => (if ((gI S 126 x5.toNatClampNeg) + r5) = r8 then f_X11_way_145 x1 x2 x3 x5 x5 k e S9 else f_X11_way_143 x1 x2 x3 x4 x5 k e S9)))) else none)
theorem t_X11_way_102 {K : CT} (hK : KO K cX11_way RX11 7 3 (some .int)) {r : Int32} {S' : St} (hA : zans K = (some (.int r), S')) {x1 : Int32} {x2 : Int32} {x3 : Int32} {x4 : Int32} {x5 : Int32} {s0 : Int32} {k e : Int32 × Int32 → St → Option (Int32 × St)} (hk : ∀ (v : Int32 × Int32) (S : St), k v S = some (r, S') → J K 67 [(0, .ref 122), (1, .int x1), (2, .int x2), (3, .int x3), (4, .int v.1), (5, .int v.2)] [] S) (he : ∀ (v : Int32 × Int32) (S : St), e v S = some (r, S') → J K 153 [(0, .ref 122), (1, .int x1), (2, .int x2), (3, .int x3), (4, .int v.1)] [] S) {S : St} (hf : f_X11_way_102 x1 x2 x3 x4 x5 s0 k e S = some (r, S')) : J K 102 [(0, .ref 122), (1, .int x1), (2, .int x2), (3, .int x3), (4, .int x4), (5, .int x5)] [.int s0] S := by
  unfold f_X11_way_102 at hf
  refine j_istore hK (L' := [(6, .int s0), (0, .ref 122), (1, .int x1), (2, .int x2), (3, .int x3), (4, .int x4), (5, .int x5)]) dX11_way_102 (by decide) rfl ?_
  refine j_iload hK dX11_way_104 0 rfl ?_
  refine j_if_eq hK 143 dX11_way_106 (by decide) (fun hc => ?_) (fun hc => ?_)
  · replace hf := if_1 hc hf
    refine j_sub [1, 2, 3, 4, 5, 6] rfl ?_
    exact t_X11_way_143 hK hA hk he hf
  · replace hf := if_2 hc hf
    refine j_aload_n hK dX11_way_109 1 rfl rfl ?_
    refine j_getR hK fl_X11_31 dX11_way_110 zo_122 zf_11_7 zr_122_7 ?_
    refine j_iload hK dX11_way_113 6 rfl ?_
    obtain ⟨hi1, hf⟩ := gd hf
    refine k_iald hK dX11_way_115 zb_126 hi1 rfl ?_
    refine j_aload_n hK dX11_way_116 1 rfl rfl ?_
    refine j_aload_n hK dX11_way_117 1 rfl rfl ?_
    refine j_iload hK dX11_way_118 6 rfl ?_
    refine j_pc (pc' := 120) rfl ?_
    refine j_iload_n hK dX11_way_120 4 rfl rfl ?_
    obtain ⟨r2, S3, h4, hf⟩ := bd_J hf
    refine k_callVi hK (c_X11_beyond h4) dX11_way_121 zclX11 zo_122 ml_X11_278 mi_X11_beyond mx_X11_beyond in_X11 mc_X11_beyond hy_X11_beyond ⟨by decide, by decide⟩ rfl (Nat.le_of_ble_eq_true rfl) ?_
    refine j_iload_n hK dX11_way_124 3 rfl rfl ?_
    obtain ⟨r5, S6, h7, hf⟩ := bd_J hf
    refine k_callVi hK (c_X11_farOf h7) dX11_way_125 zclX11 zo_122 ml_X11_291 mi_X11_farOf mx_X11_farOf in_X11 mc_X11_farOf hy_X11_farOf ⟨by decide, by decide⟩ rfl (Nat.le_of_ble_eq_true rfl) ?_
    refine j_iadd hK dX11_way_128 ?_
    refine j_aload_n hK dX11_way_129 1 rfl rfl ?_
    refine j_iload_n hK dX11_way_130 4 rfl rfl ?_
    refine j_iload_n hK dX11_way_131 3 rfl rfl ?_
    refine j_pc (pc' := 132) rfl ?_
    obtain ⟨r8, S9, h10, hf⟩ := bd_J hf
    refine k_callVi hK (c_X11_farOf h10) dX11_way_132 zclX11 zo_122 ml_X11_291 mi_X11_farOf mx_X11_farOf in_X11 mc_X11_farOf hy_X11_farOf ⟨by decide, by decide⟩ rfl (Nat.le_of_ble_eq_true rfl) ?_
    refine j_icmp_ne hK 143 dX11_way_135 (by decide) (fun hc => ?_) (fun hc => ?_)
    · replace hf := if_2 hc hf
      refine j_sub [1, 2, 3, 4, 5, 6] rfl ?_
      exact t_X11_way_143 hK hA hk he hf
    · replace hf := if_1 hc hf
      refine j_iload hK dX11_way_138 6 rfl ?_
      refine j_goto hK 145 dX11_way_140 (by decide) ?_
      refine j_sub [1, 2, 3, 4, 6] rfl ?_
      exact t_X11_way_145 hK hA hk he hf
def f_X11_way_101 (x1 : Int32) (x2 : Int32) (x3 : Int32) (x4 : Int32) (x5 : Int32) (k e : Int32 × Int32 → St → Option (Int32 × St)) (S : St) : Option (Int32 × St) := f_X11_way_102 x1 x2 x3 x4 x5 (0 : Int32) k e S
theorem t_X11_way_101 {K : CT} (hK : KO K cX11_way RX11 7 3 (some .int)) {r : Int32} {S' : St} (hA : zans K = (some (.int r), S')) {x1 : Int32} {x2 : Int32} {x3 : Int32} {x4 : Int32} {x5 : Int32} {k e : Int32 × Int32 → St → Option (Int32 × St)} (hk : ∀ (v : Int32 × Int32) (S : St), k v S = some (r, S') → J K 67 [(0, .ref 122), (1, .int x1), (2, .int x2), (3, .int x3), (4, .int v.1), (5, .int v.2)] [] S) (he : ∀ (v : Int32 × Int32) (S : St), e v S = some (r, S') → J K 153 [(0, .ref 122), (1, .int x1), (2, .int x2), (3, .int x3), (4, .int v.1)] [] S) {S : St} (hf : f_X11_way_101 x1 x2 x3 x4 x5 k e S = some (r, S')) : J K 101 [(0, .ref 122), (1, .int x1), (2, .int x2), (3, .int x3), (4, .int x4), (5, .int x5)] [] S := by
  unfold f_X11_way_101 at hf
  refine j_iconst hK (0 : Int32) dX11_way_101 ic_0 ?_
  exact t_X11_way_102 hK hA hk he hf
def f_X11_way_67b (x1 : Int32) (x2 : Int32) (x3 : Int32) (e : Int32 × Int32 → St → Option (Int32 × St)) (k : Int32 × Int32 → St → Option (Int32 × St)) (v : Int32 × Int32) (S : St) : Option (Int32 × St) := (if v.2 < 0 then e (v.1, v.2) S else bd (f_X11_has (gI S 126 36) v.2 S) (fun r11 S12 => (if r11 = 0 then f_X11_way_101 x1 x2 x3 v.1 v.2 k e S12 else bd (f_X11_isEnd v.2 x3 S12) (fun r14 S15 => (if r14 = 0 then f_X11_way_101 x1 x2 x3 v.1 v.2 k e S15 else f_X11_way_102 x1 x2 x3 v.1 v.2 (1 : Int32) k e S15)))))
theorem t_X11_way_67 {K : CT} (hK : KO K cX11_way RX11 7 3 (some .int)) {r : Int32} {S' : St} (hA : zans K = (some (.int r), S')) {x1 : Int32} {x2 : Int32} {x3 : Int32} {e : Int32 × Int32 → St → Option (Int32 × St)} (he : ∀ (v : Int32 × Int32) (S : St), e v S = some (r, S') → J K 153 [(0, .ref 122), (1, .int x1), (2, .int x2), (3, .int x3), (4, .int v.1)] [] S) : ∀ (n : Nat) (v : Int32 × Int32) (S : St), lp (f_X11_way_67b x1 x2 x3 e) n v S = some (r, S') → J K 67 [(0, .ref 122), (1, .int x1), (2, .int x2), (3, .int x3), (4, .int v.1), (5, .int v.2)] [] S :=
  lp_J (P := fun (v : Int32 × Int32) (S : St) => J K 67 [(0, .ref 122), (1, .int x1), (2, .int x2), (3, .int x3), (4, .int v.1), (5, .int v.2)] [] S) (fun k hk v S hf => by
    unfold f_X11_way_67b at hf
    refine j_iload hK dX11_way_67 5 rfl ?_
    refine j_if_lt hK 153 dX11_way_69 (by decide) (fun hc => ?_) (fun hc => ?_)
    · replace hf := if_1 hc hf
      refine j_sub [0, 1, 2, 3, 4] rfl ?_
      exact he _ _ hf
    · replace hf := if_2 hc hf
      refine j_aload_n hK dX11_way_72 0 rfl rfl ?_
      refine j_getR hK fl_X11_31 dX11_way_73 zo_122 zf_11_7 zr_122_7 ?_
      refine j_bipush hK (36 : Int32) dX11_way_76 bi_36 ?_
      refine k_iald hK dX11_way_78 zb_126 (by decide) tn_36 ?_
      refine j_iload hK dX11_way_79 5 rfl ?_
      obtain ⟨r11, S12, h13, hf⟩ := bd_J hf
      refine k_callSi hK (c_X11_has h13) dX11_way_81 ml_X11_262 ms_X11_has in_X11 mc_X11_has hy_X11_has ⟨by decide, by decide⟩ rfl (Nat.le_of_ble_eq_true rfl) ?_
      refine j_if_eq hK 101 dX11_way_84 (by decide) (fun hc => ?_) (fun hc => ?_)
      · replace hf := if_1 hc hf
        exact t_X11_way_101 hK hA hk he hf
      · replace hf := if_2 hc hf
        refine j_aload_n hK dX11_way_87 0 rfl rfl ?_
        refine j_iload hK dX11_way_88 5 rfl ?_
        refine j_iload_n hK dX11_way_90 3 rfl rfl ?_
        obtain ⟨r14, S15, h16, hf⟩ := bd_J hf
        refine k_callVi hK (c_X11_isEnd h16) dX11_way_91 zclX11 zo_122 ml_X11_266 mi_X11_isEnd mx_X11_isEnd in_X11 mc_X11_isEnd hy_X11_isEnd ⟨by decide, by decide⟩ rfl (Nat.le_of_ble_eq_true rfl) ?_
        refine j_if_eq hK 101 dX11_way_94 (by decide) (fun hc => ?_) (fun hc => ?_)
        · replace hf := if_1 hc hf
          exact t_X11_way_101 hK hA hk he hf
        · replace hf := if_2 hc hf
          refine j_iconst hK (1 : Int32) dX11_way_97 ic_1 ?_
          refine j_goto hK 102 dX11_way_98 (by decide) ?_
          exact t_X11_way_102 hK hA hk he hf)
def f_X11_way_51b (x1 : Int32) (x2 : Int32) (e : Int32 → St → Option (Int32 × St)) (k : Int32 → St → Option (Int32 × St)) (v : Int32) (S : St) : Option (Int32 × St) := (if v = x2 then e v S else lt ((gI S 122 3) - (1 : Int32)) (fun y17 => lp (f_X11_way_67b x1 x2 v (fun v18 S19 => bd (f_X11_enters v18.1.toInt64 S19) (fun r20 S21 => bd (f_X11_beyond v18.1 v S21) (fun r23 S24 => k r23 S24)))) FU ((-1 : Int32), y17) S))
theorem t_X11_way_51 {K : CT} (hK : KO K cX11_way RX11 7 3 (some .int)) {r : Int32} {S' : St} (hA : zans K = (some (.int r), S')) {x1 : Int32} {x2 : Int32} {e : Int32 → St → Option (Int32 × St)} (he : ∀ (v : Int32) (S : St), e v S = some (r, S') → J K 171 [(0, .ref 122), (1, .int x1), (2, .int x2)] [] S) : ∀ (n : Nat) (v : Int32) (S : St), lp (f_X11_way_51b x1 x2 e) n v S = some (r, S') → J K 51 [(0, .ref 122), (1, .int x1), (2, .int x2), (3, .int v)] [] S :=
  lp_J (P := fun (v : Int32) (S : St) => J K 51 [(0, .ref 122), (1, .int x1), (2, .int x2), (3, .int v)] [] S) (fun k hk v S hf => by
    unfold f_X11_way_51b at hf
    refine j_iload_n hK dX11_way_51 3 rfl rfl ?_
    refine j_iload_n hK dX11_way_52 2 rfl rfl ?_
    refine j_icmp_eq hK 171 dX11_way_53 (by decide) (fun hc => ?_) (fun hc => ?_)
    · replace hf := if_1 hc hf
      refine j_sub [0, 1, 2] rfl ?_
      exact he _ _ hf
    · replace hf := if_2 hc hf
      refine j_iconst hK (-1 : Int32) dX11_way_56 ic_m1 ?_
      refine j_istore hK (L' := [(4, .int (-1 : Int32)), (0, .ref 122), (1, .int x1), (2, .int x2), (3, .int v)]) dX11_way_57 (by decide) rfl ?_
      refine j_aload_n hK dX11_way_59 1 rfl rfl ?_
      refine j_getI hK fl_X11_128 dX11_way_60 zo_122 zf_11_3 ?_
      refine j_iconst hK (1 : Int32) dX11_way_63 ic_1 ?_
      refine j_isub hK dX11_way_64 ?_
      refine lt_I hf (fun y17 hf => ?_)
      refine j_istore hK (L' := [(5, .int y17), (4, .int (-1 : Int32)), (0, .ref 122), (1, .int x1), (2, .int x2), (3, .int v)]) dX11_way_65 (by decide) rfl ?_
      refine j_sub [2, 3, 4, 5, 1, 0] rfl ?_
      refine t_X11_way_67 hK hA  (fun v18 S19 hf => ?_) _ _ _ hf
      refine j_aload_n hK dX11_way_153 0 rfl rfl ?_
      refine j_iload hK dX11_way_154 4 rfl ?_
      refine j_i2l hK dX11_way_156 ?_
      obtain ⟨r20, S21, h22, hf⟩ := bd_J hf
      refine k_callVv hK (c_X11_enters h22) dX11_way_157 zclX11 zo_122 ml_X11_340 mi_X11_enters mx_X11_enters in_X11 mc_X11_enters hy_X11_enters ⟨by decide, by decide⟩ rfl (Nat.le_of_ble_eq_true rfl) ?_
      refine j_aload_n hK dX11_way_160 0 rfl rfl ?_
      refine j_iload hK dX11_way_161 4 rfl ?_
      refine j_iload_n hK dX11_way_163 3 rfl rfl ?_
      refine j_pc (pc' := 164) rfl ?_
      obtain ⟨r23, S24, h25, hf⟩ := bd_J hf
      refine k_callVi hK (c_X11_beyond h25) dX11_way_164 zclX11 zo_122 ml_X11_278 mi_X11_beyond mx_X11_beyond in_X11 mc_X11_beyond hy_X11_beyond ⟨by decide, by decide⟩ rfl (Nat.le_of_ble_eq_true rfl) ?_
      refine j_istore_n hK (L' := [(3, .int r23), (0, .ref 122), (1, .int x1), (2, .int x2), (4, .int v18.1)]) dX11_way_167 rfl (by decide) rfl ?_
      refine j_goto hK 51 dX11_way_168 (by decide) ?_
      refine j_sub [1, 2, 3, 0] rfl ?_
      exact hk _ _ hf)
def f_X11_way (p1 : Int32) (p2 : Int32) (S : St) : Option (Int32 × St) := lt (sI S 122 0 (0 : Int32)) (fun S26 => bd (f_X11_isCavern p1 S26) (fun r27 S28 => (if r27 = 0 then some ((-1 : Int32), S28) else bd (f_X11_isCavern p2 S28) (fun r30 S31 => (if r30 = 0 then some ((-1 : Int32), S31) else bd (f_X11_laysFar (gI S31 126 36) S31) (fun r33 S34 => bd (f_X11_areJoined p1 p2 S34) (fun r36 S37 => (if r36 = 0 then some ((-2 : Int32), S37) else lt (sI S37 122 1 (0 : Int32)) (fun S39 => lp (f_X11_way_51b p1 p2 (fun v40 S41 => bd (f_X11_farOf p1 p2 S41) (fun r42 S43 => some (r42, S43)))) FU p1 S39)))))))))
theorem c_X11_way {p1 : Int32} {p2 : Int32} {S : St} {r : Int32} {S' : St} (hf : f_X11_way p1 p2 S = some (r, S')) : zM yX11_way cX11_way 7 3 (some .int) [.ref 122, .int p1, .int p2] S (some (.int r)) S' := by
  refine zM_of (zpl (by decide)) (Nat.le_of_ble_eq_true rfl) rfl (fun K hK hA => ?_)
  unfold f_X11_way at hf
  refine j_aload_n hK dX11_way_0 0 rfl rfl ?_
  refine j_iconst hK (0 : Int32) dX11_way_1 ic_0 ?_
  refine j_putI hK fl_X11_3 dX11_way_2 zo_122 zf_11_0 ?_
  refine lt_S hf (fun S26 hf => ?_)
  refine j_iload_n hK dX11_way_5 1 rfl rfl ?_
  obtain ⟨r27, S28, h29, hf⟩ := bd_J hf
  refine k_callSi hK (c_X11_isCavern h29) dX11_way_6 ml_X11_256 ms_X11_isCavern in_X11 mc_X11_isCavern hy_X11_isCavern ⟨by decide, by decide⟩ rfl (Nat.le_of_ble_eq_true rfl) ?_
  refine j_if_eq hK 19 dX11_way_9 (by decide) (fun hc => ?_) (fun hc => ?_)
  · replace hf := if_1 hc hf
    refine j_iconst hK (-1 : Int32) dX11_way_19 ic_m1 ?_
    exact j_iret hK dX11_way_20 rfl (rt_I hA hf)
  · replace hf := if_2 hc hf
    refine j_iload_n hK dX11_way_12 2 rfl rfl ?_
    obtain ⟨r30, S31, h32, hf⟩ := bd_J hf
    refine k_callSi hK (c_X11_isCavern h32) dX11_way_13 ml_X11_256 ms_X11_isCavern in_X11 mc_X11_isCavern hy_X11_isCavern ⟨by decide, by decide⟩ rfl (Nat.le_of_ble_eq_true rfl) ?_
    refine j_if_ne hK 21 dX11_way_16 (by decide) (fun hc => ?_) (fun hc => ?_)
    · replace hf := if_2 hc hf
      refine j_aload_n hK dX11_way_21 0 rfl rfl ?_
      refine j_aload_n hK dX11_way_22 0 rfl rfl ?_
      refine j_getR hK fl_X11_31 dX11_way_23 zo_122 zf_11_7 zr_122_7 ?_
      refine j_bipush hK (36 : Int32) dX11_way_26 bi_36 ?_
      refine k_iald hK dX11_way_28 zb_126 (by decide) tn_36 ?_
      obtain ⟨r33, S34, h35, hf⟩ := bd_J hf
      refine k_callVv hK (c_X11_laysFar h35) dX11_way_29 zclX11 zo_122 ml_X11_302 mi_X11_laysFar mx_X11_laysFar in_X11 mc_X11_laysFar hy_X11_laysFar ⟨by decide, by decide⟩ rfl (Nat.le_of_ble_eq_true rfl) ?_
      refine j_aload_n hK dX11_way_32 0 rfl rfl ?_
      refine j_pc (pc' := 33) rfl ?_
      refine j_iload_n hK dX11_way_33 1 rfl rfl ?_
      refine j_iload_n hK dX11_way_34 2 rfl rfl ?_
      obtain ⟨r36, S37, h38, hf⟩ := bd_J hf
      refine k_callVi hK (c_X11_areJoined h38) dX11_way_35 zclX11 zo_122 ml_X11_294 mi_X11_areJoined mx_X11_areJoined in_X11 mc_X11_areJoined hy_X11_areJoined ⟨by decide, by decide⟩ rfl (Nat.le_of_ble_eq_true rfl) ?_
      refine j_if_ne hK 44 dX11_way_38 (by decide) (fun hc => ?_) (fun hc => ?_)
      · replace hf := if_2 hc hf
        refine j_aload_n hK dX11_way_44 0 rfl rfl ?_
        refine j_iconst hK (0 : Int32) dX11_way_45 ic_0 ?_
        refine j_putI hK fl_X11_15 dX11_way_46 zo_122 zf_11_1 ?_
        refine lt_S hf (fun S39 hf => ?_)
        refine j_iload_n hK dX11_way_49 1 rfl rfl ?_
        refine j_istore_n hK (L' := [(3, .int p1), (0, .ref 122), (1, .int p1), (2, .int p2)]) dX11_way_50 rfl (by decide) rfl ?_
        refine j_sub [1, 2, 3, 0] rfl ?_
        refine t_X11_way_51 hK hA  (fun v40 S41 hf => ?_) _ _ _ hf
        refine j_aload_n hK dX11_way_171 0 rfl rfl ?_
        refine j_iload_n hK dX11_way_172 1 rfl rfl ?_
        refine j_iload_n hK dX11_way_173 2 rfl rfl ?_
        obtain ⟨r42, S43, h44, hf⟩ := bd_J hf
        refine k_callVi hK (c_X11_farOf h44) dX11_way_174 zclX11 zo_122 ml_X11_291 mi_X11_farOf mx_X11_farOf in_X11 mc_X11_farOf hy_X11_farOf ⟨by decide, by decide⟩ rfl (Nat.le_of_ble_eq_true rfl) ?_
        exact j_iret hK dX11_way_177 rfl (rt_I hA hf)
      · replace hf := if_1 hc hf
        refine j_bipush hK (-2 : Int32) dX11_way_41 bi_m2 ?_
        exact j_iret hK dX11_way_43 rfl (rt_I hA hf)
    · replace hf := if_1 hc hf
      refine j_iconst hK (-1 : Int32) dX11_way_19 ic_m1 ?_
      exact j_iret hK dX11_way_20 rfl (rt_I hA hf)
def f_X11_meets_93 (x1 : Int32) (x2 : Int32) (x4 : Int32) (x5 : Int32) (x6 : Int32) (s0 : Int32) (k e : Int32 × Int32 × Int32 → St → Option (Int32 × St)) (S : St) : Option (Int32 × St) := lt (mnI x4 x6) (fun y1 => k (s0, y1, (x5 + (1 : Int32))) S)
theorem t_X11_meets_93 {K : CT} (hK : KO K cX11_meets RX11 7 3 (some .int)) {r : Int32} {S' : St} (hA : zans K = (some (.int r), S')) {x1 : Int32} {x2 : Int32} {x4 : Int32} {x5 : Int32} {x6 : Int32} {s0 : Int32} {k e : Int32 × Int32 × Int32 → St → Option (Int32 × St)} (hk : ∀ (v : Int32 × Int32 × Int32) (S : St), k v S = some (r, S') → J K 54 [(0, .ref 122), (1, .int x1), (2, .int x2), (3, .int v.1), (4, .int v.2.1), (5, .int v.2.2)] [] S) (he : ∀ (v : Int32 × Int32 × Int32) (S : St), e v S = some (r, S') → J K 109 [(0, .ref 122), (1, .int x1), (2, .int x2), (3, .int v.1)] [] S) {S : St} (hf : f_X11_meets_93 x1 x2 x4 x5 x6 s0 k e S = some (r, S')) : J K 93 [(0, .ref 122), (1, .int x1), (2, .int x2), (4, .int x4), (5, .int x5), (6, .int x6)] [.int s0] S := by
  unfold f_X11_meets_93 at hf
  refine j_istore_n hK (L' := [(3, .int s0), (0, .ref 122), (1, .int x1), (2, .int x2), (4, .int x4), (5, .int x5), (6, .int x6)]) dX11_meets_93 rfl (by decide) rfl ?_
  refine j_iload hK dX11_meets_94 4 rfl ?_
  refine j_iload hK dX11_meets_96 6 rfl ?_
  refine j_min hK ml_X11_146 dX11_meets_98 (by decide) (Nat.le_of_ble_eq_true rfl) ?_
  refine lt_I hf (fun y1 hf => ?_)
  refine j_istore hK (L' := [(4, .int y1), (3, .int s0), (0, .ref 122), (1, .int x1), (2, .int x2), (5, .int x5), (6, .int x6)]) dX11_meets_101 (by decide) rfl ?_
  refine j_iinc hK (L' := [(5, .int (x5 + (1 : Int32))), (4, .int y1), (3, .int s0), (0, .ref 122), (1, .int x1), (2, .int x2), (6, .int x6)]) dX11_meets_103 5 rfl (congrArg (fun y => x5 + y) ic_1) (by decide) rfl ?_
  refine j_goto hK 54 dX11_meets_106 (by decide) ?_
  refine j_sub [3, 4, 5, 2, 1, 0] rfl ?_
  exact hk _ _ hf
def f_X11_meets_54b (x1 : Int32) (x2 : Int32) (e : Int32 × Int32 × Int32 → St → Option (Int32 × St)) (k : Int32 × Int32 × Int32 → St → Option (Int32 × St)) (v : Int32 × Int32 × Int32) (S : St) : Option (Int32 × St) := (if (8 : Int32) ≤ v.2.2 then e (v.1, v.2.1, v.2.2) S else bd (f_X11_farOf x1 v.2.2 S) (fun r2 S3 => bd (f_X11_farOf x2 v.2.2 S3) (fun r5 S6 => lt (mxI r2 r5) (fun y8 => (if v.2.1 ≤ y8 then f_X11_meets_93 x1 x2 v.2.1 v.2.2 y8 v.1 k e S6 else f_X11_meets_93 x1 x2 v.2.1 v.2.2 y8 v.2.2 k e S6)))))
theorem t_X11_meets_54 {K : CT} (hK : KO K cX11_meets RX11 7 3 (some .int)) {r : Int32} {S' : St} (hA : zans K = (some (.int r), S')) {x1 : Int32} {x2 : Int32} {e : Int32 × Int32 × Int32 → St → Option (Int32 × St)} (he : ∀ (v : Int32 × Int32 × Int32) (S : St), e v S = some (r, S') → J K 109 [(0, .ref 122), (1, .int x1), (2, .int x2), (3, .int v.1)] [] S) : ∀ (n : Nat) (v : Int32 × Int32 × Int32) (S : St), lp (f_X11_meets_54b x1 x2 e) n v S = some (r, S') → J K 54 [(0, .ref 122), (1, .int x1), (2, .int x2), (3, .int v.1), (4, .int v.2.1), (5, .int v.2.2)] [] S :=
  lp_J (P := fun (v : Int32 × Int32 × Int32) (S : St) => J K 54 [(0, .ref 122), (1, .int x1), (2, .int x2), (3, .int v.1), (4, .int v.2.1), (5, .int v.2.2)] [] S) (fun k hk v S hf => by
    unfold f_X11_meets_54b at hf
    refine j_iload hK dX11_meets_54 5 rfl ?_
    refine j_bipush hK (8 : Int32) dX11_meets_56 bi_8 ?_
    refine j_icmp_ge hK 109 dX11_meets_58 (by decide) (fun hc => ?_) (fun hc => ?_)
    · replace hf := if_1 hc hf
      refine j_sub [0, 1, 2, 3] rfl ?_
      exact he _ _ hf
    · replace hf := if_2 hc hf
      refine j_aload_n hK dX11_meets_61 0 rfl rfl ?_
      refine j_iload_n hK dX11_meets_62 1 rfl rfl ?_
      refine j_iload hK dX11_meets_63 5 rfl ?_
      obtain ⟨r2, S3, h4, hf⟩ := bd_J hf
      refine k_callVi hK (c_X11_farOf h4) dX11_meets_65 zclX11 zo_122 ml_X11_291 mi_X11_farOf mx_X11_farOf in_X11 mc_X11_farOf hy_X11_farOf ⟨by decide, by decide⟩ rfl (Nat.le_of_ble_eq_true rfl) ?_
      refine j_aload_n hK dX11_meets_68 0 rfl rfl ?_
      refine j_iload_n hK dX11_meets_69 2 rfl rfl ?_
      refine j_iload hK dX11_meets_70 5 rfl ?_
      refine j_pc (pc' := 72) rfl ?_
      obtain ⟨r5, S6, h7, hf⟩ := bd_J hf
      refine k_callVi hK (c_X11_farOf h7) dX11_meets_72 zclX11 zo_122 ml_X11_291 mi_X11_farOf mx_X11_farOf in_X11 mc_X11_farOf hy_X11_farOf ⟨by decide, by decide⟩ rfl (Nat.le_of_ble_eq_true rfl) ?_
      refine j_max hK ml_X11_297 dX11_meets_75 (by decide) (Nat.le_of_ble_eq_true rfl) ?_
      refine lt_I hf (fun y8 hf => ?_)
      refine j_istore hK (L' := [(6, .int y8), (0, .ref 122), (1, .int x1), (2, .int x2), (3, .int v.1), (4, .int v.2.1), (5, .int v.2.2)]) dX11_meets_78 (by decide) rfl ?_
      refine j_iload hK dX11_meets_80 0 rfl ?_
      refine j_iload hK dX11_meets_82 5 rfl ?_
      refine j_icmp_ge hK 92 dX11_meets_84 (by decide) (fun hc => ?_) (fun hc => ?_)
      · replace hf := if_1 hc hf
        refine j_iload_n hK dX11_meets_92 4 rfl rfl ?_
        refine j_sub [1, 2, 3, 5, 6, 0] rfl ?_
        exact t_X11_meets_93 hK hA hk he hf
      · replace hf := if_2 hc hf
        refine j_iload hK dX11_meets_87 6 rfl ?_
        refine j_goto hK 93 dX11_meets_89 (by decide) ?_
        refine j_sub [1, 2, 3, 5, 6, 0] rfl ?_
        exact t_X11_meets_93 hK hA hk he hf)
def f_X11_meets (p1 : Int32) (p2 : Int32) (S : St) : Option (Int32 × St) := lt (sI S 122 0 (0 : Int32)) (fun S9 => bd (f_X11_isCavern p1 S9) (fun r10 S11 => (if r10 = 0 then some ((-1 : Int32), S11) else bd (f_X11_isCavern p2 S11) (fun r13 S14 => (if r13 = 0 then some ((-1 : Int32), S14) else bd (f_X11_laysFar (gI S14 126 36) S14) (fun r16 S17 => bd (f_X11_areJoined p1 p2 S17) (fun r19 S20 => (if r19 = 0 then some ((-2 : Int32), S20) else lp (f_X11_meets_54b p1 p2 (fun v22 S23 => lt (sI S23 122 1 (0 : Int32)) (fun S24 => bd (f_X11_farOf p1 v22.1 S24) (fun r25 S26 => bd (f_X11_enters r25.toInt64 S26) (fun r28 S29 => bd (f_X11_farOf p2 v22.1 S29) (fun r31 S32 => bd (f_X11_enters r31.toInt64 S32) (fun r34 S35 => some (v22.1, S35)))))))) FU ((-1 : Int32), (1000000 : Int32), (0 : Int32)) S20))))))))
theorem c_X11_meets {p1 : Int32} {p2 : Int32} {S : St} {r : Int32} {S' : St} (hf : f_X11_meets p1 p2 S = some (r, S')) : zM yX11_meets cX11_meets 7 3 (some .int) [.ref 122, .int p1, .int p2] S (some (.int r)) S' := by
  refine zM_of (zpl (by decide)) (Nat.le_of_ble_eq_true rfl) rfl (fun K hK hA => ?_)
  unfold f_X11_meets at hf
  refine j_aload_n hK dX11_meets_0 0 rfl rfl ?_
  refine j_iconst hK (0 : Int32) dX11_meets_1 ic_0 ?_
  refine j_putI hK fl_X11_3 dX11_meets_2 zo_122 zf_11_0 ?_
  refine lt_S hf (fun S9 hf => ?_)
  refine j_iload_n hK dX11_meets_5 1 rfl rfl ?_
  obtain ⟨r10, S11, h12, hf⟩ := bd_J hf
  refine k_callSi hK (c_X11_isCavern h12) dX11_meets_6 ml_X11_256 ms_X11_isCavern in_X11 mc_X11_isCavern hy_X11_isCavern ⟨by decide, by decide⟩ rfl (Nat.le_of_ble_eq_true rfl) ?_
  refine j_if_eq hK 19 dX11_meets_9 (by decide) (fun hc => ?_) (fun hc => ?_)
  · replace hf := if_1 hc hf
    refine j_iconst hK (-1 : Int32) dX11_meets_19 ic_m1 ?_
    exact j_iret hK dX11_meets_20 rfl (rt_I hA hf)
  · replace hf := if_2 hc hf
    refine j_iload_n hK dX11_meets_12 2 rfl rfl ?_
    obtain ⟨r13, S14, h15, hf⟩ := bd_J hf
    refine k_callSi hK (c_X11_isCavern h15) dX11_meets_13 ml_X11_256 ms_X11_isCavern in_X11 mc_X11_isCavern hy_X11_isCavern ⟨by decide, by decide⟩ rfl (Nat.le_of_ble_eq_true rfl) ?_
    refine j_if_ne hK 21 dX11_meets_16 (by decide) (fun hc => ?_) (fun hc => ?_)
    · replace hf := if_2 hc hf
      refine j_aload_n hK dX11_meets_21 0 rfl rfl ?_
      refine j_aload_n hK dX11_meets_22 0 rfl rfl ?_
      refine j_getR hK fl_X11_31 dX11_meets_23 zo_122 zf_11_7 zr_122_7 ?_
      refine j_bipush hK (36 : Int32) dX11_meets_26 bi_36 ?_
      refine k_iald hK dX11_meets_28 zb_126 (by decide) tn_36 ?_
      obtain ⟨r16, S17, h18, hf⟩ := bd_J hf
      refine k_callVv hK (c_X11_laysFar h18) dX11_meets_29 zclX11 zo_122 ml_X11_302 mi_X11_laysFar mx_X11_laysFar in_X11 mc_X11_laysFar hy_X11_laysFar ⟨by decide, by decide⟩ rfl (Nat.le_of_ble_eq_true rfl) ?_
      refine j_aload_n hK dX11_meets_32 0 rfl rfl ?_
      refine j_pc (pc' := 33) rfl ?_
      refine j_iload_n hK dX11_meets_33 1 rfl rfl ?_
      refine j_iload_n hK dX11_meets_34 2 rfl rfl ?_
      obtain ⟨r19, S20, h21, hf⟩ := bd_J hf
      refine k_callVi hK (c_X11_areJoined h21) dX11_meets_35 zclX11 zo_122 ml_X11_294 mi_X11_areJoined mx_X11_areJoined in_X11 mc_X11_areJoined hy_X11_areJoined ⟨by decide, by decide⟩ rfl (Nat.le_of_ble_eq_true rfl) ?_
      refine j_if_ne hK 44 dX11_meets_38 (by decide) (fun hc => ?_) (fun hc => ?_)
      · replace hf := if_2 hc hf
        refine j_iconst hK (-1 : Int32) dX11_meets_44 ic_m1 ?_
        refine j_istore_n hK (L' := [(3, .int (-1 : Int32)), (0, .ref 122), (1, .int p1), (2, .int p2)]) dX11_meets_45 rfl (by decide) rfl ?_
        refine j_ldcw hK (v := (1000000 : Int32)) cn_X11_290 dX11_meets_46 ?_
        refine j_istore hK (L' := [(4, .int (1000000 : Int32)), (3, .int (-1 : Int32)), (0, .ref 122), (1, .int p1), (2, .int p2)]) dX11_meets_49 (by decide) rfl ?_
        refine j_iconst hK (0 : Int32) dX11_meets_51 ic_0 ?_
        refine j_istore hK (L' := [(5, .int (0 : Int32)), (4, .int (1000000 : Int32)), (3, .int (-1 : Int32)), (0, .ref 122), (1, .int p1), (2, .int p2)]) dX11_meets_52 (by decide) rfl ?_
        refine j_sub [3, 4, 5, 2, 1, 0] rfl ?_
        refine t_X11_meets_54 hK hA  (fun v22 S23 hf => ?_) _ _ _ hf
        refine j_aload_n hK dX11_meets_109 0 rfl rfl ?_
        refine j_iconst hK (0 : Int32) dX11_meets_110 ic_0 ?_
        refine j_putI hK fl_X11_15 dX11_meets_111 zo_122 zf_11_1 ?_
        refine lt_S hf (fun S24 hf => ?_)
        refine j_aload_n hK dX11_meets_114 0 rfl rfl ?_
        refine j_aload_n hK dX11_meets_115 0 rfl rfl ?_
        refine j_iload_n hK dX11_meets_116 1 rfl rfl ?_
        refine j_iload_n hK dX11_meets_117 3 rfl rfl ?_
        refine j_pc (pc' := 118) rfl ?_
        obtain ⟨r25, S26, h27, hf⟩ := bd_J hf
        refine k_callVi hK (c_X11_farOf h27) dX11_meets_118 zclX11 zo_122 ml_X11_291 mi_X11_farOf mx_X11_farOf in_X11 mc_X11_farOf hy_X11_farOf ⟨by decide, by decide⟩ rfl (Nat.le_of_ble_eq_true rfl) ?_
        refine j_i2l hK dX11_meets_121 ?_
        obtain ⟨r28, S29, h30, hf⟩ := bd_J hf
        refine k_callVv hK (c_X11_enters h30) dX11_meets_122 zclX11 zo_122 ml_X11_340 mi_X11_enters mx_X11_enters in_X11 mc_X11_enters hy_X11_enters ⟨by decide, by decide⟩ rfl (Nat.le_of_ble_eq_true rfl) ?_
        refine j_aload_n hK dX11_meets_125 0 rfl rfl ?_
        refine j_aload_n hK dX11_meets_126 0 rfl rfl ?_
        refine j_iload_n hK dX11_meets_127 2 rfl rfl ?_
        refine j_iload_n hK dX11_meets_128 3 rfl rfl ?_
        obtain ⟨r31, S32, h33, hf⟩ := bd_J hf
        refine k_callVi hK (c_X11_farOf h33) dX11_meets_129 zclX11 zo_122 ml_X11_291 mi_X11_farOf mx_X11_farOf in_X11 mc_X11_farOf hy_X11_farOf ⟨by decide, by decide⟩ rfl (Nat.le_of_ble_eq_true rfl) ?_
        refine j_pc (pc' := 132) rfl ?_
        refine j_i2l hK dX11_meets_132 ?_
        obtain ⟨r34, S35, h36, hf⟩ := bd_J hf
        refine k_callVv hK (c_X11_enters h36) dX11_meets_133 zclX11 zo_122 ml_X11_340 mi_X11_enters mx_X11_enters in_X11 mc_X11_enters hy_X11_enters ⟨by decide, by decide⟩ rfl (Nat.le_of_ble_eq_true rfl) ?_
        refine j_iload_n hK dX11_meets_136 3 rfl rfl ?_
        exact j_iret hK dX11_meets_137 rfl (rt_I hA hf)
      · replace hf := if_1 hc hf
        refine j_bipush hK (-2 : Int32) dX11_meets_41 bi_m2 ?_
        exact j_iret hK dX11_meets_43 rfl (rt_I hA hf)
    · replace hf := if_1 hc hf
      refine j_iconst hK (-1 : Int32) dX11_meets_19 ic_m1 ?_
      exact j_iret hK dX11_meets_20 rfl (rt_I hA hf)
def f_X11_heart_83 (x2 : Int32) (s0 : Int32) (k e : Int32 × Int32 → St → Option (Int32 × St)) (S : St) : Option (Int32 × St) := k (s0, (x2 + (1 : Int32))) S
theorem t_X11_heart_83 {K : CT} (hK : KO K cX11_heart RX11 4 4 (some .int)) {r : Int32} {S' : St} (hA : zans K = (some (.int r), S')) {x2 : Int32} {s0 : Int32} {k e : Int32 × Int32 → St → Option (Int32 × St)} (hk : ∀ (v : Int32 × Int32) (S : St), k v S = some (r, S') → J K 33 [(0, .ref 122), (1, .int v.1), (2, .int v.2)] [] S) (he : ∀ (v : Int32 × Int32) (S : St), e v S = some (r, S') → J K 90 [(0, .ref 122), (1, .int v.1)] [] S) {S : St} (hf : f_X11_heart_83 x2 s0 k e S = some (r, S')) : J K 83 [(0, .ref 122), (2, .int x2)] [.int s0] S := by
  unfold f_X11_heart_83 at hf
  refine j_istore_n hK (L' := [(1, .int s0), (0, .ref 122), (2, .int x2)]) dX11_heart_83 rfl (by decide) rfl ?_
  refine j_iinc hK (L' := [(2, .int (x2 + (1 : Int32))), (1, .int s0), (0, .ref 122)]) dX11_heart_84 2 rfl (congrArg (fun y => x2 + y) ic_1) (by decide) rfl ?_
  refine j_goto hK 33 dX11_heart_87 (by decide) ?_
  refine j_sub [2, 1, 0] rfl ?_
  exact hk _ _ hf
def f_X11_heart_82 (x1 : Int32) (x2 : Int32) (k e : Int32 × Int32 → St → Option (Int32 × St)) (S : St) : Option (Int32 × St) := f_X11_heart_83 x2 x1 k e S
theorem t_X11_heart_82 {K : CT} (hK : KO K cX11_heart RX11 4 4 (some .int)) {r : Int32} {S' : St} (hA : zans K = (some (.int r), S')) {x1 : Int32} {x2 : Int32} {k e : Int32 × Int32 → St → Option (Int32 × St)} (hk : ∀ (v : Int32 × Int32) (S : St), k v S = some (r, S') → J K 33 [(0, .ref 122), (1, .int v.1), (2, .int v.2)] [] S) (he : ∀ (v : Int32 × Int32) (S : St), e v S = some (r, S') → J K 90 [(0, .ref 122), (1, .int v.1)] [] S) {S : St} (hf : f_X11_heart_82 x1 x2 k e S = some (r, S')) : J K 82 [(0, .ref 122), (1, .int x1), (2, .int x2)] [] S := by
  unfold f_X11_heart_82 at hf
  refine j_iload_n hK dX11_heart_82 1 rfl rfl ?_
  refine j_sub [0, 2] rfl ?_
  exact t_X11_heart_83 hK hA hk he hf
def f_X11_heart_78 (x2 : Int32) (k e : Int32 × Int32 → St → Option (Int32 × St)) (S : St) : Option (Int32 × St) := f_X11_heart_83 x2 x2 k e S
theorem t_X11_heart_78 {K : CT} (hK : KO K cX11_heart RX11 4 4 (some .int)) {r : Int32} {S' : St} (hA : zans K = (some (.int r), S')) {x2 : Int32} {k e : Int32 × Int32 → St → Option (Int32 × St)} (hk : ∀ (v : Int32 × Int32) (S : St), k v S = some (r, S') → J K 33 [(0, .ref 122), (1, .int v.1), (2, .int v.2)] [] S) (he : ∀ (v : Int32 × Int32) (S : St), e v S = some (r, S') → J K 90 [(0, .ref 122), (1, .int v.1)] [] S) {S : St} (hf : f_X11_heart_78 x2 k e S = some (r, S')) : J K 78 [(0, .ref 122), (2, .int x2)] [] S := by
  unfold f_X11_heart_78 at hf
  refine j_iload_n hK dX11_heart_78 1 rfl rfl ?_
  refine j_goto hK 83 dX11_heart_79 (by decide) ?_
  exact t_X11_heart_83 hK hA hk he hf
def f_X11_heart_33b (e : Int32 × Int32 → St → Option (Int32 × St)) (k : Int32 × Int32 → St → Option (Int32 × St)) (v : Int32 × Int32) (S : St) : Option (Int32 × St) := (if (8 : Int32) ≤ v.2 then e (v.1, v.2) S else bd (f_X11_joinedTo v.2 S) (fun r1 S2 => bd (f_J6_bitCount_0f7a4 r1 S2) (fun r4 S5 => bd (f_X11_joinedTo v.1 S5) (fun r7 S8 => bd (f_J6_bitCount_0f7a4 r7 S8) (fun r10 S11 => lt (r4 - r10) (fun y13 => (if 0 < y13 then f_X11_heart_78 v.2 k e S11 else (if y13 = 0 then bd (f_X11_farthest v.2 S11) (fun r14 S15 => bd (f_X11_farthest v.1 S15) (fun r17 S18 => (if r17 ≤ r14 then f_X11_heart_82 v.1 v.2 k e S18 else f_X11_heart_78 v.2 k e S18))) else f_X11_heart_82 v.1 v.2 k e S11))))))))
theorem t_X11_heart_33 {K : CT} (hK : KO K cX11_heart RX11 4 4 (some .int)) {r : Int32} {S' : St} (hA : zans K = (some (.int r), S')) {e : Int32 × Int32 → St → Option (Int32 × St)} (he : ∀ (v : Int32 × Int32) (S : St), e v S = some (r, S') → J K 90 [(0, .ref 122), (1, .int v.1)] [] S) : ∀ (n : Nat) (v : Int32 × Int32) (S : St), lp (f_X11_heart_33b  e) n v S = some (r, S') → J K 33 [(0, .ref 122), (1, .int v.1), (2, .int v.2)] [] S :=
  lp_J (P := fun (v : Int32 × Int32) (S : St) => J K 33 [(0, .ref 122), (1, .int v.1), (2, .int v.2)] [] S) (fun k hk v S hf => by
    unfold f_X11_heart_33b at hf
    refine j_iload_n hK dX11_heart_33 2 rfl rfl ?_
    refine j_bipush hK (8 : Int32) dX11_heart_34 bi_8 ?_
    refine j_icmp_ge hK 90 dX11_heart_36 (by decide) (fun hc => ?_) (fun hc => ?_)
    · replace hf := if_1 hc hf
      refine j_sub [0, 1] rfl ?_
      exact he _ _ hf
    · replace hf := if_2 hc hf
      refine j_aload_n hK dX11_heart_39 0 rfl rfl ?_
      refine j_iload_n hK dX11_heart_40 2 rfl rfl ?_
      obtain ⟨r1, S2, h3, hf⟩ := bd_J hf
      refine k_callVi hK (c_X11_joinedTo h3) dX11_heart_41 zclX11 zo_122 ml_X11_308 mi_X11_joinedTo mx_X11_joinedTo in_X11 mc_X11_joinedTo hy_X11_joinedTo ⟨by decide, by decide⟩ rfl (Nat.le_of_ble_eq_true rfl) ?_
      obtain ⟨r4, S5, h6, hf⟩ := bd_J hf
      refine k_callSi hK (c_J6_bitCount_0f7a4 h6) dX11_heart_44 ml_X11_355 ms_J6_bitCount_0f7a4 in_J6 mc_J6_bitCount_0f7a4 hy_J6_bitCount_0f7a4 ⟨by decide, by decide⟩ rfl (Nat.le_of_ble_eq_true rfl) ?_
      refine j_aload_n hK dX11_heart_47 0 rfl rfl ?_
      refine j_iload_n hK dX11_heart_48 1 rfl rfl ?_
      obtain ⟨r7, S8, h9, hf⟩ := bd_J hf
      refine k_callVi hK (c_X11_joinedTo h9) dX11_heart_49 zclX11 zo_122 ml_X11_308 mi_X11_joinedTo mx_X11_joinedTo in_X11 mc_X11_joinedTo hy_X11_joinedTo ⟨by decide, by decide⟩ rfl (Nat.le_of_ble_eq_true rfl) ?_
      refine j_pc (pc' := 52) rfl ?_
      obtain ⟨r10, S11, h12, hf⟩ := bd_J hf
      refine k_callSi hK (c_J6_bitCount_0f7a4 h12) dX11_heart_52 ml_X11_355 ms_J6_bitCount_0f7a4 in_J6 mc_J6_bitCount_0f7a4 hy_J6_bitCount_0f7a4 ⟨by decide, by decide⟩ rfl (Nat.le_of_ble_eq_true rfl) ?_
      refine j_isub hK dX11_heart_55 ?_
      refine lt_I hf (fun y13 hf => ?_)
      refine j_istore_n hK (L' := [(3, .int y13), (0, .ref 122), (1, .int v.1), (2, .int v.2)]) dX11_heart_56 rfl (by decide) rfl ?_
      refine j_iload_n hK dX11_heart_57 0 rfl rfl ?_
      refine j_if_gt hK 78 dX11_heart_58 (by decide) (fun hc => ?_) (fun hc => ?_)
      · replace hf := if_1 hc hf
        refine j_sub [1, 3] rfl ?_
        exact t_X11_heart_78 hK hA hk he hf
      · replace hf := if_2 hc hf
        refine j_iload_n hK dX11_heart_61 0 rfl rfl ?_
        refine j_if_ne hK 82 dX11_heart_62 (by decide) (fun hc => ?_) (fun hc => ?_)
        · replace hf := if_2 hc hf
          refine j_sub [1, 2, 3] rfl ?_
          exact t_X11_heart_82 hK hA hk he hf
        · replace hf := if_1 hc hf
          refine j_aload_n hK dX11_heart_65 1 rfl rfl ?_
          refine j_iload_n hK dX11_heart_66 3 rfl rfl ?_
          obtain ⟨r14, S15, h16, hf⟩ := bd_J hf
          refine k_callVi hK (c_X11_farthest h16) dX11_heart_67 zclX11 zo_122 ml_X11_311 mi_X11_farthest mx_X11_farthest in_X11 mc_X11_farthest hy_X11_farthest ⟨by decide, by decide⟩ rfl (Nat.le_of_ble_eq_true rfl) ?_
          refine j_aload_n hK dX11_heart_70 1 rfl rfl ?_
          refine j_iload_n hK dX11_heart_71 2 rfl rfl ?_
          obtain ⟨r17, S18, h19, hf⟩ := bd_J hf
          refine k_callVi hK (c_X11_farthest h19) dX11_heart_72 zclX11 zo_122 ml_X11_311 mi_X11_farthest mx_X11_farthest in_X11 mc_X11_farthest hy_X11_farthest ⟨by decide, by decide⟩ rfl (Nat.le_of_ble_eq_true rfl) ?_
          refine j_icmp_ge hK 82 dX11_heart_75 (by decide) (fun hc => ?_) (fun hc => ?_)
          · replace hf := if_1 hc hf
            refine j_sub [1, 2, 3] rfl ?_
            exact t_X11_heart_82 hK hA hk he hf
          · replace hf := if_2 hc hf
            refine j_sub [1, 3] rfl ?_
            exact t_X11_heart_78 hK hA hk he hf)
def f_X11_heart (S : St) : Option (Int32 × St) := lt (sI S 122 0 (0 : Int32)) (fun S20 => (if (gI S20 126 36) = 0 then some ((-2 : Int32), S20) else bd (f_X11_laysFar (gI S20 126 36) S20) (fun r21 S22 => lp (f_X11_heart_33b  (fun v24 S25 => lt (sI S25 122 1 (0 : Int32)) (fun S26 => bd (f_X11_farthest v24.1 S26) (fun r27 S28 => bd (f_X11_enters r27.toInt64 S28) (fun r30 S31 => bd (f_X11_joinedTo v24.1 S31) (fun r33 S34 => bd (f_J6_bitCount_0f7a4 r33 S34) (fun r36 S37 => bd (f_X11_enters r36.toInt64 S37) (fun r39 S40 => some (v24.1, S40))))))))) FU ((0 : Int32), (1 : Int32)) S22)))
theorem c_X11_heart {S : St} {r : Int32} {S' : St} (hf : f_X11_heart S = some (r, S')) : zM yX11_heart cX11_heart 4 4 (some .int) [.ref 122] S (some (.int r)) S' := by
  refine zM_of (zpl (by decide)) (Nat.le_of_ble_eq_true rfl) rfl (fun K hK hA => ?_)
  unfold f_X11_heart at hf
  refine j_aload_n hK dX11_heart_0 0 rfl rfl ?_
  refine j_iconst hK (0 : Int32) dX11_heart_1 ic_0 ?_
  refine j_putI hK fl_X11_3 dX11_heart_2 zo_122 zf_11_0 ?_
  refine lt_S hf (fun S20 hf => ?_)
  refine j_aload_n hK dX11_heart_5 0 rfl rfl ?_
  refine j_getR hK fl_X11_31 dX11_heart_6 zo_122 zf_11_7 zr_122_7 ?_
  refine j_bipush hK (36 : Int32) dX11_heart_9 bi_36 ?_
  refine k_iald hK dX11_heart_11 zb_126 (by decide) tn_36 ?_
  refine j_if_ne hK 18 dX11_heart_12 (by decide) (fun hc => ?_) (fun hc => ?_)
  · replace hf := if_2 hc hf
    refine j_aload_n hK dX11_heart_18 0 rfl rfl ?_
    refine j_aload_n hK dX11_heart_19 0 rfl rfl ?_
    refine j_getR hK fl_X11_31 dX11_heart_20 zo_122 zf_11_7 zr_122_7 ?_
    refine j_bipush hK (36 : Int32) dX11_heart_23 bi_36 ?_
    refine k_iald hK dX11_heart_25 zb_126 (by decide) tn_36 ?_
    obtain ⟨r21, S22, h23, hf⟩ := bd_J hf
    refine k_callVv hK (c_X11_laysFar h23) dX11_heart_26 zclX11 zo_122 ml_X11_302 mi_X11_laysFar mx_X11_laysFar in_X11 mc_X11_laysFar hy_X11_laysFar ⟨by decide, by decide⟩ rfl (Nat.le_of_ble_eq_true rfl) ?_
    refine j_iconst hK (0 : Int32) dX11_heart_29 ic_0 ?_
    refine j_pc (pc' := 30) rfl ?_
    refine j_istore_n hK (L' := [(1, .int (0 : Int32)), (0, .ref 122)]) dX11_heart_30 rfl (by decide) rfl ?_
    refine j_iconst hK (1 : Int32) dX11_heart_31 ic_1 ?_
    refine j_istore_n hK (L' := [(2, .int (1 : Int32)), (1, .int (0 : Int32)), (0, .ref 122)]) dX11_heart_32 rfl (by decide) rfl ?_
    refine j_sub [2, 1, 0] rfl ?_
    refine t_X11_heart_33 hK hA  (fun v24 S25 hf => ?_) _ _ _ hf
    refine j_aload_n hK dX11_heart_90 0 rfl rfl ?_
    refine j_iconst hK (0 : Int32) dX11_heart_91 ic_0 ?_
    refine j_putI hK fl_X11_15 dX11_heart_92 zo_122 zf_11_1 ?_
    refine lt_S hf (fun S26 hf => ?_)
    refine j_aload_n hK dX11_heart_95 0 rfl rfl ?_
    refine j_aload_n hK dX11_heart_96 0 rfl rfl ?_
    refine j_iload_n hK dX11_heart_97 1 rfl rfl ?_
    obtain ⟨r27, S28, h29, hf⟩ := bd_J hf
    refine k_callVi hK (c_X11_farthest h29) dX11_heart_98 zclX11 zo_122 ml_X11_311 mi_X11_farthest mx_X11_farthest in_X11 mc_X11_farthest hy_X11_farthest ⟨by decide, by decide⟩ rfl (Nat.le_of_ble_eq_true rfl) ?_
    refine j_pc (pc' := 101) rfl ?_
    refine j_i2l hK dX11_heart_101 ?_
    obtain ⟨r30, S31, h32, hf⟩ := bd_J hf
    refine k_callVv hK (c_X11_enters h32) dX11_heart_102 zclX11 zo_122 ml_X11_340 mi_X11_enters mx_X11_enters in_X11 mc_X11_enters hy_X11_enters ⟨by decide, by decide⟩ rfl (Nat.le_of_ble_eq_true rfl) ?_
    refine j_aload_n hK dX11_heart_105 0 rfl rfl ?_
    refine j_aload_n hK dX11_heart_106 0 rfl rfl ?_
    refine j_iload_n hK dX11_heart_107 1 rfl rfl ?_
    obtain ⟨r33, S34, h35, hf⟩ := bd_J hf
    refine k_callVi hK (c_X11_joinedTo h35) dX11_heart_108 zclX11 zo_122 ml_X11_308 mi_X11_joinedTo mx_X11_joinedTo in_X11 mc_X11_joinedTo hy_X11_joinedTo ⟨by decide, by decide⟩ rfl (Nat.le_of_ble_eq_true rfl) ?_
    obtain ⟨r36, S37, h38, hf⟩ := bd_J hf
    refine k_callSi hK (c_J6_bitCount_0f7a4 h38) dX11_heart_111 ml_X11_355 ms_J6_bitCount_0f7a4 in_J6 mc_J6_bitCount_0f7a4 hy_J6_bitCount_0f7a4 ⟨by decide, by decide⟩ rfl (Nat.le_of_ble_eq_true rfl) ?_
    refine j_i2l hK dX11_heart_114 ?_
    refine j_pc (pc' := 115) rfl ?_
    obtain ⟨r39, S40, h41, hf⟩ := bd_J hf
    refine k_callVv hK (c_X11_enters h41) dX11_heart_115 zclX11 zo_122 ml_X11_340 mi_X11_enters mx_X11_enters in_X11 mc_X11_enters hy_X11_enters ⟨by decide, by decide⟩ rfl (Nat.le_of_ble_eq_true rfl) ?_
    refine j_iload_n hK dX11_heart_118 1 rfl rfl ?_
    exact j_iret hK dX11_heart_119 rfl (rt_I hA hf)
  · replace hf := if_1 hc hf
    refine j_bipush hK (-2 : Int32) dX11_heart_15 bi_m2 ?_
    exact j_iret hK dX11_heart_17 rfl (rt_I hA hf)
def f_X11_ropes_117 (x1 : Int32) (x2 : Int32) (x3 : Int32) (x4 : Int32) (k e : Int32 × Int32 × Int32 → St → Option (Int32 × St)) (S : St) : Option (Int32 × St) := k (x1, x2, (x4 + (1 : Int32))) S
theorem t_X11_ropes_117 {K : CT} (hK : KO K cX11_ropes RX11 6 3 (some .int)) {r : Int32} {S' : St} (hA : zans K = (some (.int r), S')) {x1 : Int32} {x2 : Int32} {x3 : Int32} {x4 : Int32} {k e : Int32 × Int32 × Int32 → St → Option (Int32 × St)} (hk : ∀ (v : Int32 × Int32 × Int32) (S : St), k v S = some (r, S') → J K 20 [(0, .ref 122), (1, .int v.1), (2, .int v.2.1), (3, .int x3), (4, .int v.2.2)] [] S) (he : ∀ (v : Int32 × Int32 × Int32) (S : St), e v S = some (r, S') → J K 123 [(0, .ref 122), (1, .int v.1), (2, .int v.2.1), (3, .int x3)] [] S) {S : St} (hf : f_X11_ropes_117 x1 x2 x3 x4 k e S = some (r, S')) : J K 117 [(0, .ref 122), (1, .int x1), (2, .int x2), (3, .int x3), (4, .int x4)] [] S := by
  unfold f_X11_ropes_117 at hf
  refine j_iinc hK (L' := [(4, .int (x4 + (1 : Int32))), (0, .ref 122), (1, .int x1), (2, .int x2), (3, .int x3)]) dX11_ropes_117 4 rfl (congrArg (fun y => x4 + y) ic_1) (by decide) rfl ?_
  refine j_goto hK 20 dX11_ropes_120 (by decide) ?_
  refine j_sub [1, 2, 3, 4, 0] rfl ?_
  exact hk _ _ hf
def f_X11_ropes_115 (x1 : Int32) (x3 : Int32) (x4 : Int32) (s0 : Int32) (s1 : Int32) (k e : Int32 × Int32 × Int32 → St → Option (Int32 × St)) (S : St) : Option (Int32 × St) := lt (s0 + s1) (fun y1 => f_X11_ropes_117 x1 y1 x3 x4 k e S)
theorem t_X11_ropes_115 {K : CT} (hK : KO K cX11_ropes RX11 6 3 (some .int)) {r : Int32} {S' : St} (hA : zans K = (some (.int r), S')) {x1 : Int32} {x3 : Int32} {x4 : Int32} {s0 : Int32} {s1 : Int32} {k e : Int32 × Int32 × Int32 → St → Option (Int32 × St)} (hk : ∀ (v : Int32 × Int32 × Int32) (S : St), k v S = some (r, S') → J K 20 [(0, .ref 122), (1, .int v.1), (2, .int v.2.1), (3, .int x3), (4, .int v.2.2)] [] S) (he : ∀ (v : Int32 × Int32 × Int32) (S : St), e v S = some (r, S') → J K 123 [(0, .ref 122), (1, .int v.1), (2, .int v.2.1), (3, .int x3)] [] S) {S : St} (hf : f_X11_ropes_115 x1 x3 x4 s0 s1 k e S = some (r, S')) : J K 115 [(0, .ref 122), (1, .int x1), (3, .int x3), (4, .int x4)] [.int s1, .int s0] S := by
  unfold f_X11_ropes_115 at hf
  refine j_iadd hK dX11_ropes_115 ?_
  refine lt_I hf (fun y1 hf => ?_)
  refine j_istore_n hK (L' := [(2, .int y1), (0, .ref 122), (1, .int x1), (3, .int x3), (4, .int x4)]) dX11_ropes_116 rfl (by decide) rfl ?_
  refine j_sub [1, 2, 0, 3, 4] rfl ?_
  exact t_X11_ropes_117 hK hA hk he hf
def f_X11_ropes_102 (x2 : Int32) (x3 : Int32) (x4 : Int32) (x5 : Int32) (s0 : Int32) (s1 : Int32) (k e : Int32 × Int32 × Int32 → St → Option (Int32 × St)) (S : St) : Option (Int32 × St) := lt (s0 ||| s1) (fun y2 => (if x5 = 0 then f_X11_ropes_115 y2 x3 x4 x2 (0 : Int32) k e S else f_X11_ropes_115 y2 x3 x4 x2 x3 k e S))
theorem t_X11_ropes_102 {K : CT} (hK : KO K cX11_ropes RX11 6 3 (some .int)) {r : Int32} {S' : St} (hA : zans K = (some (.int r), S')) {x2 : Int32} {x3 : Int32} {x4 : Int32} {x5 : Int32} {s0 : Int32} {s1 : Int32} {k e : Int32 × Int32 × Int32 → St → Option (Int32 × St)} (hk : ∀ (v : Int32 × Int32 × Int32) (S : St), k v S = some (r, S') → J K 20 [(0, .ref 122), (1, .int v.1), (2, .int v.2.1), (3, .int x3), (4, .int v.2.2)] [] S) (he : ∀ (v : Int32 × Int32 × Int32) (S : St), e v S = some (r, S') → J K 123 [(0, .ref 122), (1, .int v.1), (2, .int v.2.1), (3, .int x3)] [] S) {S : St} (hf : f_X11_ropes_102 x2 x3 x4 x5 s0 s1 k e S = some (r, S')) : J K 102 [(0, .ref 122), (2, .int x2), (3, .int x3), (4, .int x4), (5, .int x5)] [.int s1, .int s0] S := by
  unfold f_X11_ropes_102 at hf
  refine j_ior hK dX11_ropes_102 ?_
  refine lt_I hf (fun y2 hf => ?_)
  refine j_istore_n hK (L' := [(1, .int y2), (0, .ref 122), (2, .int x2), (3, .int x3), (4, .int x4), (5, .int x5)]) dX11_ropes_103 rfl (by decide) rfl ?_
  refine j_iload_n hK dX11_ropes_104 2 rfl rfl ?_
  refine j_iload hK dX11_ropes_105 5 rfl ?_
  refine j_if_eq hK 114 dX11_ropes_107 (by decide) (fun hc => ?_) (fun hc => ?_)
  · replace hf := if_1 hc hf
    refine j_iconst hK (0 : Int32) dX11_ropes_114 ic_0 ?_
    refine j_sub [1, 0, 3, 4] rfl ?_
    exact t_X11_ropes_115 hK hA hk he hf
  · replace hf := if_2 hc hf
    refine j_iload_n hK dX11_ropes_110 3 rfl rfl ?_
    refine j_goto hK 115 dX11_ropes_111 (by decide) ?_
    refine j_sub [1, 0, 3, 4] rfl ?_
    exact t_X11_ropes_115 hK hA hk he hf
def f_X11_ropes_86 (x1 : Int32) (x2 : Int32) (x3 : Int32) (x4 : Int32) (s0 : Int32) (k e : Int32 × Int32 × Int32 → St → Option (Int32 × St)) (S : St) : Option (Int32 × St) := (if s0 = 0 then f_X11_ropes_102 x2 x3 x4 s0 x1 (0 : Int32) k e S else f_X11_ropes_102 x2 x3 x4 s0 x1 ((1 : Int32) <<< (x4 &&& 31)) k e S)
theorem t_X11_ropes_86 {K : CT} (hK : KO K cX11_ropes RX11 6 3 (some .int)) {r : Int32} {S' : St} (hA : zans K = (some (.int r), S')) {x1 : Int32} {x2 : Int32} {x3 : Int32} {x4 : Int32} {s0 : Int32} {k e : Int32 × Int32 × Int32 → St → Option (Int32 × St)} (hk : ∀ (v : Int32 × Int32 × Int32) (S : St), k v S = some (r, S') → J K 20 [(0, .ref 122), (1, .int v.1), (2, .int v.2.1), (3, .int x3), (4, .int v.2.2)] [] S) (he : ∀ (v : Int32 × Int32 × Int32) (S : St), e v S = some (r, S') → J K 123 [(0, .ref 122), (1, .int v.1), (2, .int v.2.1), (3, .int x3)] [] S) {S : St} (hf : f_X11_ropes_86 x1 x2 x3 x4 s0 k e S = some (r, S')) : J K 86 [(0, .ref 122), (1, .int x1), (2, .int x2), (3, .int x3), (4, .int x4)] [.int s0] S := by
  unfold f_X11_ropes_86 at hf
  refine j_istore hK (L' := [(5, .int s0), (0, .ref 122), (1, .int x1), (2, .int x2), (3, .int x3), (4, .int x4)]) dX11_ropes_86 (by decide) rfl ?_
  refine j_iload_n hK dX11_ropes_88 2 rfl rfl ?_
  refine j_iload hK dX11_ropes_89 0 rfl ?_
  refine j_if_eq hK 101 dX11_ropes_91 (by decide) (fun hc => ?_) (fun hc => ?_)
  · replace hf := if_1 hc hf
    refine j_iconst hK (0 : Int32) dX11_ropes_101 ic_0 ?_
    refine j_sub [1, 3, 4, 5, 0] rfl ?_
    exact t_X11_ropes_102 hK hA hk he hf
  · replace hf := if_2 hc hf
    refine j_iconst hK (1 : Int32) dX11_ropes_94 ic_1 ?_
    refine j_iload hK dX11_ropes_95 5 rfl ?_
    refine j_ishl hK dX11_ropes_97 ?_
    refine j_goto hK 102 dX11_ropes_98 (by decide) ?_
    refine j_sub [1, 3, 4, 5, 0] rfl ?_
    exact t_X11_ropes_102 hK hA hk he hf
def f_X11_ropes_20b (x3 : Int32) (e : Int32 × Int32 × Int32 → St → Option (Int32 × St)) (k : Int32 × Int32 × Int32 → St → Option (Int32 × St)) (v : Int32 × Int32 × Int32) (S : St) : Option (Int32 × St) := (if (gI S 122 3) ≤ v.2.2 then e (v.1, v.2.1, v.2.2) S else bd (f_X11_has (gI S 126 36) v.2.2 S) (fun r3 S4 => (if r3 = 0 then f_X11_ropes_117 v.1 v.2.1 x3 v.2.2 k e S4 else if inb v.2.2 39 then (if (gI S4 126 v.2.2.toNatClampNeg) = x3 then bd (f_X11_laysFar v.1 S4) (fun r7 S8 => if inb v.2.2 12 then if inb v.2.2 12 then bd (f_X11_areJoined (gI S8 124 v.2.2.toNatClampNeg) (gI S8 125 v.2.2.toNatClampNeg) S8) (fun r12 S13 => (if r12 = 0 then f_X11_ropes_86 v.1 v.2.1 x3 v.2.2 (1 : Int32) k e S13 else f_X11_ropes_86 v.1 v.2.1 x3 v.2.2 (0 : Int32) k e S13)) else none else none) else f_X11_ropes_117 v.1 v.2.1 x3 v.2.2 k e S4) else none)))
theorem t_X11_ropes_20 {K : CT} (hK : KO K cX11_ropes RX11 6 3 (some .int)) {r : Int32} {S' : St} (hA : zans K = (some (.int r), S')) {x3 : Int32} {e : Int32 × Int32 × Int32 → St → Option (Int32 × St)} (he : ∀ (v : Int32 × Int32 × Int32) (S : St), e v S = some (r, S') → J K 123 [(0, .ref 122), (1, .int v.1), (2, .int v.2.1), (3, .int x3)] [] S) : ∀ (n : Nat) (v : Int32 × Int32 × Int32) (S : St), lp (f_X11_ropes_20b x3 e) n v S = some (r, S') → J K 20 [(0, .ref 122), (1, .int v.1), (2, .int v.2.1), (3, .int x3), (4, .int v.2.2)] [] S :=
  lp_J (P := fun (v : Int32 × Int32 × Int32) (S : St) => J K 20 [(0, .ref 122), (1, .int v.1), (2, .int v.2.1), (3, .int x3), (4, .int v.2.2)] [] S) (fun k hk v S hf => by
    unfold f_X11_ropes_20b at hf
    refine j_iload hK dX11_ropes_20 4 rfl ?_
    refine j_aload_n hK dX11_ropes_22 0 rfl rfl ?_
    refine j_getI hK fl_X11_128 dX11_ropes_23 zo_122 zf_11_3 ?_
    refine j_icmp_ge hK 123 dX11_ropes_26 (by decide) (fun hc => ?_) (fun hc => ?_)
    · replace hf := if_1 hc hf
      refine j_sub [0, 1, 2, 3] rfl ?_
      exact he _ _ hf
    · replace hf := if_2 hc hf
      refine j_aload_n hK dX11_ropes_29 0 rfl rfl ?_
      refine j_getR hK fl_X11_31 dX11_ropes_30 zo_122 zf_11_7 zr_122_7 ?_
      refine j_bipush hK (36 : Int32) dX11_ropes_33 bi_36 ?_
      refine k_iald hK dX11_ropes_35 zb_126 (by decide) tn_36 ?_
      refine j_iload hK dX11_ropes_36 4 rfl ?_
      obtain ⟨r3, S4, h5, hf⟩ := bd_J hf
      refine k_callSi hK (c_X11_has h5) dX11_ropes_38 ml_X11_262 ms_X11_has in_X11 mc_X11_has hy_X11_has ⟨by decide, by decide⟩ rfl (Nat.le_of_ble_eq_true rfl) ?_
      refine j_if_eq hK 117 dX11_ropes_41 (by decide) (fun hc => ?_) (fun hc => ?_)
      · replace hf := if_1 hc hf
        exact t_X11_ropes_117 hK hA hk he hf
      · replace hf := if_2 hc hf
        refine j_aload_n hK dX11_ropes_44 0 rfl rfl ?_
        refine j_getR hK fl_X11_31 dX11_ropes_45 zo_122 zf_11_7 zr_122_7 ?_
        refine j_iload hK dX11_ropes_48 4 rfl ?_
        obtain ⟨hi6, hf⟩ := gd hf
        refine k_iald hK dX11_ropes_50 zb_126 hi6 rfl ?_
        refine j_iload_n hK dX11_ropes_51 3 rfl rfl ?_
        refine j_icmp_ne hK 117 dX11_ropes_52 (by decide) (fun hc => ?_) (fun hc => ?_)
        · replace hf := if_2 hc hf
          exact t_X11_ropes_117 hK hA hk he hf
        · replace hf := if_1 hc hf
          refine j_aload_n hK dX11_ropes_55 0 rfl rfl ?_
          refine j_iload_n hK dX11_ropes_56 1 rfl rfl ?_
          obtain ⟨r7, S8, h9, hf⟩ := bd_J hf
          refine k_callVv hK (c_X11_laysFar h9) dX11_ropes_57 zclX11 zo_122 ml_X11_302 mi_X11_laysFar mx_X11_laysFar in_X11 mc_X11_laysFar hy_X11_laysFar ⟨by decide, by decide⟩ rfl (Nat.le_of_ble_eq_true rfl) ?_
          refine j_aload_n hK dX11_ropes_60 0 rfl rfl ?_
          refine j_aload_n hK dX11_ropes_61 0 rfl rfl ?_
          refine j_getR hK fl_X11_24 dX11_ropes_62 zo_122 zf_11_5 zr_122_5 ?_
          refine j_iload hK dX11_ropes_65 4 rfl ?_
          refine j_pc (pc' := 67) rfl ?_
          obtain ⟨hi10, hf⟩ := gd hf
          refine k_iald hK dX11_ropes_67 zb_124 hi10 rfl ?_
          refine j_aload_n hK dX11_ropes_68 0 rfl rfl ?_
          refine j_getR hK fl_X11_28 dX11_ropes_69 zo_122 zf_11_6 zr_122_6 ?_
          refine j_iload hK dX11_ropes_72 4 rfl ?_
          obtain ⟨hi11, hf⟩ := gd hf
          refine k_iald hK dX11_ropes_74 zb_125 hi11 rfl ?_
          obtain ⟨r12, S13, h14, hf⟩ := bd_J hf
          refine k_callVi hK (c_X11_areJoined h14) dX11_ropes_75 zclX11 zo_122 ml_X11_294 mi_X11_areJoined mx_X11_areJoined in_X11 mc_X11_areJoined hy_X11_areJoined ⟨by decide, by decide⟩ rfl (Nat.le_of_ble_eq_true rfl) ?_
          refine j_if_ne hK 85 dX11_ropes_78 (by decide) (fun hc => ?_) (fun hc => ?_)
          · replace hf := if_2 hc hf
            refine j_iconst hK (0 : Int32) dX11_ropes_85 ic_0 ?_
            exact t_X11_ropes_86 hK hA hk he hf
          · replace hf := if_1 hc hf
            refine j_iconst hK (1 : Int32) dX11_ropes_81 ic_1 ?_
            refine j_goto hK 86 dX11_ropes_82 (by decide) ?_
            exact t_X11_ropes_86 hK hA hk he hf)
def f_X11_ropes_11b (e : Int32 × Int32 × Int32 → St → Option (Int32 × St)) (k : Int32 × Int32 × Int32 → St → Option (Int32 × St)) (v : Int32 × Int32 × Int32) (S : St) : Option (Int32 × St) := (if (9 : Int32) < v.2.2 then e (v.1, v.2.1, v.2.2) S else lp (f_X11_ropes_20b v.2.2 (fun v15 S16 => k (v15.1, v15.2.1, (v.2.2 + (1 : Int32))) S16)) FU (v.1, v.2.1, (0 : Int32)) S)
theorem t_X11_ropes_11 {K : CT} (hK : KO K cX11_ropes RX11 6 3 (some .int)) {r : Int32} {S' : St} (hA : zans K = (some (.int r), S')) {e : Int32 × Int32 × Int32 → St → Option (Int32 × St)} (he : ∀ (v : Int32 × Int32 × Int32) (S : St), e v S = some (r, S') → J K 129 [(0, .ref 122), (1, .int v.1), (2, .int v.2.1)] [] S) : ∀ (n : Nat) (v : Int32 × Int32 × Int32) (S : St), lp (f_X11_ropes_11b  e) n v S = some (r, S') → J K 11 [(0, .ref 122), (1, .int v.1), (2, .int v.2.1), (3, .int v.2.2)] [] S :=
  lp_J (P := fun (v : Int32 × Int32 × Int32) (S : St) => J K 11 [(0, .ref 122), (1, .int v.1), (2, .int v.2.1), (3, .int v.2.2)] [] S) (fun k hk v S hf => by
    unfold f_X11_ropes_11b at hf
    refine j_iload_n hK dX11_ropes_11 3 rfl rfl ?_
    refine j_bipush hK (9 : Int32) dX11_ropes_12 bi_9 ?_
    refine j_icmp_gt hK 129 dX11_ropes_14 (by decide) (fun hc => ?_) (fun hc => ?_)
    · replace hf := if_1 hc hf
      refine j_sub [0, 1, 2] rfl ?_
      exact he _ _ hf
    · replace hf := if_2 hc hf
      refine j_iconst hK (0 : Int32) dX11_ropes_17 ic_0 ?_
      refine j_istore hK (L' := [(4, .int (0 : Int32)), (0, .ref 122), (1, .int v.1), (2, .int v.2.1), (3, .int v.2.2)]) dX11_ropes_18 (by decide) rfl ?_
      refine j_sub [1, 2, 3, 4, 0] rfl ?_
      refine t_X11_ropes_20 hK hA  (fun v15 S16 hf => ?_) _ _ _ hf
      refine j_iinc hK (L' := [(3, .int (v.2.2 + (1 : Int32))), (0, .ref 122), (1, .int v15.1), (2, .int v15.2.1)]) dX11_ropes_123 3 rfl (congrArg (fun y => v.2.2 + y) ic_1) (by decide) rfl ?_
      refine j_goto hK 11 dX11_ropes_126 (by decide) ?_
      refine j_sub [1, 2, 3, 0] rfl ?_
      exact hk _ _ hf)
def f_X11_ropes (S : St) : Option (Int32 × St) := lt (sI S 122 0 (0 : Int32)) (fun S17 => lp (f_X11_ropes_11b  (fun v18 S19 => lt (sI S19 122 1 (0 : Int32)) (fun S20 => bd (f_X11_enters v18.1.toInt64 S20) (fun r21 S22 => bd (f_J6_bitCount_0f7a4 v18.1 S22) (fun r24 S25 => bd (f_X11_enters r24.toInt64 S25) (fun r27 S28 => some (v18.2.1, S28))))))) FU ((0 : Int32), (0 : Int32), (1 : Int32)) S17)
theorem c_X11_ropes {S : St} {r : Int32} {S' : St} (hf : f_X11_ropes S = some (r, S')) : zM yX11_ropes cX11_ropes 6 3 (some .int) [.ref 122] S (some (.int r)) S' := by
  refine zM_of (zpl (by decide)) (Nat.le_of_ble_eq_true rfl) rfl (fun K hK hA => ?_)
  unfold f_X11_ropes at hf
  refine j_aload_n hK dX11_ropes_0 0 rfl rfl ?_
  refine j_iconst hK (0 : Int32) dX11_ropes_1 ic_0 ?_
  refine j_putI hK fl_X11_3 dX11_ropes_2 zo_122 zf_11_0 ?_
  refine lt_S hf (fun S17 hf => ?_)
  refine j_iconst hK (0 : Int32) dX11_ropes_5 ic_0 ?_
  refine j_istore_n hK (L' := [(1, .int (0 : Int32)), (0, .ref 122)]) dX11_ropes_6 rfl (by decide) rfl ?_
  refine j_iconst hK (0 : Int32) dX11_ropes_7 ic_0 ?_
  refine j_istore_n hK (L' := [(2, .int (0 : Int32)), (1, .int (0 : Int32)), (0, .ref 122)]) dX11_ropes_8 rfl (by decide) rfl ?_
  refine j_iconst hK (1 : Int32) dX11_ropes_9 ic_1 ?_
  refine j_pc (pc' := 10) rfl ?_
  refine j_istore_n hK (L' := [(3, .int (1 : Int32)), (2, .int (0 : Int32)), (1, .int (0 : Int32)), (0, .ref 122)]) dX11_ropes_10 rfl (by decide) rfl ?_
  refine j_sub [3, 2, 1, 0] rfl ?_
  refine t_X11_ropes_11 hK hA  (fun v18 S19 hf => ?_) _ _ _ hf
  refine j_aload_n hK dX11_ropes_129 0 rfl rfl ?_
  refine j_iconst hK (0 : Int32) dX11_ropes_130 ic_0 ?_
  refine j_putI hK fl_X11_15 dX11_ropes_131 zo_122 zf_11_1 ?_
  refine lt_S hf (fun S20 hf => ?_)
  refine j_aload_n hK dX11_ropes_134 0 rfl rfl ?_
  refine j_iload_n hK dX11_ropes_135 1 rfl rfl ?_
  refine j_i2l hK dX11_ropes_136 ?_
  obtain ⟨r21, S22, h23, hf⟩ := bd_J hf
  refine k_callVv hK (c_X11_enters h23) dX11_ropes_137 zclX11 zo_122 ml_X11_340 mi_X11_enters mx_X11_enters in_X11 mc_X11_enters hy_X11_enters ⟨by decide, by decide⟩ rfl (Nat.le_of_ble_eq_true rfl) ?_
  refine j_pc (pc' := 140) rfl ?_
  refine j_aload_n hK dX11_ropes_140 0 rfl rfl ?_
  refine j_iload_n hK dX11_ropes_141 1 rfl rfl ?_
  obtain ⟨r24, S25, h26, hf⟩ := bd_J hf
  refine k_callSi hK (c_J6_bitCount_0f7a4 h26) dX11_ropes_142 ml_X11_355 ms_J6_bitCount_0f7a4 in_J6 mc_J6_bitCount_0f7a4 hy_J6_bitCount_0f7a4 ⟨by decide, by decide⟩ rfl (Nat.le_of_ble_eq_true rfl) ?_
  refine j_i2l hK dX11_ropes_145 ?_
  obtain ⟨r27, S28, h29, hf⟩ := bd_J hf
  refine k_callVv hK (c_X11_enters h29) dX11_ropes_146 zclX11 zo_122 ml_X11_340 mi_X11_enters mx_X11_enters in_X11 mc_X11_enters hy_X11_enters ⟨by decide, by decide⟩ rfl (Nat.le_of_ble_eq_true rfl) ?_
  refine j_iload_n hK dX11_ropes_149 2 rfl rfl ?_
  exact j_iret hK dX11_ropes_150 rfl (rt_I hA hf)
def f_X11_withPassages_26 (x2 : Int32) (s0 : Int32) (s1 : Int32) (k e : Int32 × Int32 → St → Option (Int32 × St)) (S : St) : Option (Int32 × St) := lt (s0 ||| s1) (fun y1 => k (y1, (x2 + (1 : Int32))) S)
theorem t_X11_withPassages_26 {K : CT} (hK : KO K cX11_withPassages RX11 3 3 (some .int)) {r : Int32} {S' : St} (hA : zans K = (some (.int r), S')) {x2 : Int32} {s0 : Int32} {s1 : Int32} {k e : Int32 × Int32 → St → Option (Int32 × St)} (hk : ∀ (v : Int32 × Int32) (S : St), k v S = some (r, S') → J K 4 [(0, .ref 122), (1, .int v.1), (2, .int v.2)] [] S) (he : ∀ (v : Int32 × Int32) (S : St), e v S = some (r, S') → J K 34 [(1, .int v.1)] [] S) {S : St} (hf : f_X11_withPassages_26 x2 s0 s1 k e S = some (r, S')) : J K 26 [(0, .ref 122), (2, .int x2)] [.int s1, .int s0] S := by
  unfold f_X11_withPassages_26 at hf
  refine j_ior hK dX11_withPassages_26 ?_
  refine lt_I hf (fun y1 hf => ?_)
  refine j_istore_n hK (L' := [(1, .int y1), (0, .ref 122), (2, .int x2)]) dX11_withPassages_27 rfl (by decide) rfl ?_
  refine j_iinc hK (L' := [(2, .int (x2 + (1 : Int32))), (1, .int y1), (0, .ref 122)]) dX11_withPassages_28 2 rfl (congrArg (fun y => x2 + y) ic_1) (by decide) rfl ?_
  refine j_goto hK 4 dX11_withPassages_31 (by decide) ?_
  refine j_sub [2, 1, 0] rfl ?_
  exact hk _ _ hf
def f_X11_withPassages_4b (e : Int32 × Int32 → St → Option (Int32 × St)) (k : Int32 × Int32 → St → Option (Int32 × St)) (v : Int32 × Int32) (S : St) : Option (Int32 × St) := (if (8 : Int32) ≤ v.2 then e (v.1, v.2) S else bd (f_X11_openOf v.2 S) (fun r2 S3 => (if r2 = 0 then f_X11_withPassages_26 v.2 v.1 (0 : Int32) k e S3 else f_X11_withPassages_26 v.2 v.1 ((1 : Int32) <<< (v.2 &&& 31)) k e S3)))
theorem t_X11_withPassages_4 {K : CT} (hK : KO K cX11_withPassages RX11 3 3 (some .int)) {r : Int32} {S' : St} (hA : zans K = (some (.int r), S')) {e : Int32 × Int32 → St → Option (Int32 × St)} (he : ∀ (v : Int32 × Int32) (S : St), e v S = some (r, S') → J K 34 [(1, .int v.1)] [] S) : ∀ (n : Nat) (v : Int32 × Int32) (S : St), lp (f_X11_withPassages_4b  e) n v S = some (r, S') → J K 4 [(0, .ref 122), (1, .int v.1), (2, .int v.2)] [] S :=
  lp_J (P := fun (v : Int32 × Int32) (S : St) => J K 4 [(0, .ref 122), (1, .int v.1), (2, .int v.2)] [] S) (fun k hk v S hf => by
    unfold f_X11_withPassages_4b at hf
    refine j_iload_n hK dX11_withPassages_4 2 rfl rfl ?_
    refine j_bipush hK (8 : Int32) dX11_withPassages_5 bi_8 ?_
    refine j_icmp_ge hK 34 dX11_withPassages_7 (by decide) (fun hc => ?_) (fun hc => ?_)
    · replace hf := if_1 hc hf
      refine j_sub [1] rfl ?_
      exact he _ _ hf
    · replace hf := if_2 hc hf
      refine j_iload_n hK dX11_withPassages_10 1 rfl rfl ?_
      refine j_aload_n hK dX11_withPassages_11 0 rfl rfl ?_
      refine j_iload_n hK dX11_withPassages_12 2 rfl rfl ?_
      obtain ⟨r2, S3, h4, hf⟩ := bd_J hf
      refine k_callVi hK (c_X11_openOf h4) dX11_withPassages_13 zclX11 zo_122 ml_X11_305 mi_X11_openOf mx_X11_openOf in_X11 mc_X11_openOf hy_X11_openOf ⟨by decide, by decide⟩ rfl (Nat.le_of_ble_eq_true rfl) ?_
      refine j_if_eq hK 25 dX11_withPassages_16 (by decide) (fun hc => ?_) (fun hc => ?_)
      · replace hf := if_1 hc hf
        refine j_iconst hK (0 : Int32) dX11_withPassages_25 ic_0 ?_
        refine j_sub [0, 2] rfl ?_
        exact t_X11_withPassages_26 hK hA hk he hf
      · replace hf := if_2 hc hf
        refine j_iconst hK (1 : Int32) dX11_withPassages_19 ic_1 ?_
        refine j_iload_n hK dX11_withPassages_20 2 rfl rfl ?_
        refine j_ishl hK dX11_withPassages_21 ?_
        refine j_goto hK 26 dX11_withPassages_22 (by decide) ?_
        refine j_sub [0, 2] rfl ?_
        exact t_X11_withPassages_26 hK hA hk he hf)
def f_X11_withPassages (S : St) : Option (Int32 × St) := lp (f_X11_withPassages_4b  (fun v5 S6 => some (v5.1, S6))) FU ((0 : Int32), (0 : Int32)) S
theorem c_X11_withPassages {S : St} {r : Int32} {S' : St} (hf : f_X11_withPassages S = some (r, S')) : zM yX11_withPassages cX11_withPassages 3 3 (some .int) [.ref 122] S (some (.int r)) S' := by
  refine zM_of (zpl (by decide)) (Nat.le_of_ble_eq_true rfl) rfl (fun K hK hA => ?_)
  unfold f_X11_withPassages at hf
  refine j_iconst hK (0 : Int32) dX11_withPassages_0 ic_0 ?_
  refine j_istore_n hK (L' := [(1, .int (0 : Int32)), (0, .ref 122)]) dX11_withPassages_1 rfl (by decide) rfl ?_
  refine j_iconst hK (0 : Int32) dX11_withPassages_2 ic_0 ?_
  refine j_istore_n hK (L' := [(2, .int (0 : Int32)), (1, .int (0 : Int32)), (0, .ref 122)]) dX11_withPassages_3 rfl (by decide) rfl ?_
  refine j_sub [2, 1, 0] rfl ?_
  refine t_X11_withPassages_4 hK hA  (fun v5 S6 hf => ?_) _ _ _ hf
  refine j_iload_n hK dX11_withPassages_34 0 rfl rfl ?_
  exact j_iret hK dX11_withPassages_35 rfl (rt_I hA hf)
def f_X11_needed_140 (x1 : Int32) (x2 : Int32) (x4 : Int32) (s0 : Int32) (s1 : Int32) (k e : Int32 × Int32 → St → Option (Int32 × St)) (S : St) : Option (Int32 × St) := bd (f_X11_flag s1 S) (fun r1 S2 => lt (s0 + r1) (fun y4 => k (y4, (x4 + (1 : Int32))) S2))
theorem t_X11_needed_140 {K : CT} (hK : KO K cX11_needed RX11 5 4 (some .int)) {r : Int32} {S' : St} (hA : zans K = (some (.int r), S')) {x1 : Int32} {x2 : Int32} {x4 : Int32} {s0 : Int32} {s1 : Int32} {k e : Int32 × Int32 → St → Option (Int32 × St)} (hk : ∀ (v : Int32 × Int32) (S : St), k v S = some (r, S') → J K 104 [(0, .ref 122), (1, .int x1), (2, .int x2), (3, .int v.1), (4, .int v.2)] [] S) (he : ∀ (v : Int32 × Int32) (S : St), e v S = some (r, S') → J K 151 [(0, .ref 122), (1, .int x1), (2, .int x2), (3, .int v.1)] [] S) {S : St} (hf : f_X11_needed_140 x1 x2 x4 s0 s1 k e S = some (r, S')) : J K 140 [(0, .ref 122), (1, .int x1), (2, .int x2), (4, .int x4)] [.int s1, .int s0] S := by
  unfold f_X11_needed_140 at hf
  obtain ⟨r1, S2, h3, hf⟩ := bd_J hf
  refine k_callSi hK (c_X11_flag h3) dX11_needed_140 ml_X11_155 ms_X11_flag in_X11 mc_X11_flag hy_X11_flag ⟨by decide, by decide⟩ rfl (Nat.le_of_ble_eq_true rfl) ?_
  refine j_iadd hK dX11_needed_143 ?_
  refine lt_I hf (fun y4 hf => ?_)
  refine j_istore_n hK (L' := [(3, .int y4), (0, .ref 122), (1, .int x1), (2, .int x2), (4, .int x4)]) dX11_needed_144 rfl (by decide) rfl ?_
  refine j_iinc hK (L' := [(4, .int (x4 + (1 : Int32))), (3, .int y4), (0, .ref 122), (1, .int x1), (2, .int x2)]) dX11_needed_145 4 rfl (congrArg (fun y => x4 + y) ic_1) (by decide) rfl ?_
  refine j_goto hK 104 dX11_needed_148 (by decide) ?_
  refine j_sub [2, 3, 4, 1, 0] rfl ?_
  exact hk _ _ hf
def f_X11_needed_139 (x1 : Int32) (x2 : Int32) (x4 : Int32) (s0 : Int32) (k e : Int32 × Int32 → St → Option (Int32 × St)) (S : St) : Option (Int32 × St) := f_X11_needed_140 x1 x2 x4 s0 (0 : Int32) k e S
theorem t_X11_needed_139 {K : CT} (hK : KO K cX11_needed RX11 5 4 (some .int)) {r : Int32} {S' : St} (hA : zans K = (some (.int r), S')) {x1 : Int32} {x2 : Int32} {x4 : Int32} {s0 : Int32} {k e : Int32 × Int32 → St → Option (Int32 × St)} (hk : ∀ (v : Int32 × Int32) (S : St), k v S = some (r, S') → J K 104 [(0, .ref 122), (1, .int x1), (2, .int x2), (3, .int v.1), (4, .int v.2)] [] S) (he : ∀ (v : Int32 × Int32) (S : St), e v S = some (r, S') → J K 151 [(0, .ref 122), (1, .int x1), (2, .int x2), (3, .int v.1)] [] S) {S : St} (hf : f_X11_needed_139 x1 x2 x4 s0 k e S = some (r, S')) : J K 139 [(0, .ref 122), (1, .int x1), (2, .int x2), (4, .int x4)] [.int s0] S := by
  unfold f_X11_needed_139 at hf
  refine j_iconst hK (0 : Int32) dX11_needed_139 ic_0 ?_
  exact t_X11_needed_140 hK hA hk he hf
def f_X11_needed_104b (x1 : Int32) (x2 : Int32) (e : Int32 × Int32 → St → Option (Int32 × St)) (k : Int32 × Int32 → St → Option (Int32 × St)) (v : Int32 × Int32) (S : St) : Option (Int32 × St) := (if (8 : Int32) ≤ v.2 then e (v.1, v.2) S else bd (f_X11_has x2 v.2 S) (fun r5 S6 => (if r5 = 0 then f_X11_needed_139 x1 x2 v.2 v.1 k e S6 else bd (f_X11_joinedTo v.2 S6) (fun r8 S9 => bd (f_J6_numberOfTrailingZeros_0f7a4 r8 S9) (fun r11 S12 => (if r11 = v.2 then f_X11_needed_140 x1 x2 v.2 v.1 (1 : Int32) k e S12 else f_X11_needed_139 x1 x2 v.2 v.1 k e S12))))))
theorem t_X11_needed_104 {K : CT} (hK : KO K cX11_needed RX11 5 4 (some .int)) {r : Int32} {S' : St} (hA : zans K = (some (.int r), S')) {x1 : Int32} {x2 : Int32} {e : Int32 × Int32 → St → Option (Int32 × St)} (he : ∀ (v : Int32 × Int32) (S : St), e v S = some (r, S') → J K 151 [(0, .ref 122), (1, .int x1), (2, .int x2), (3, .int v.1)] [] S) : ∀ (n : Nat) (v : Int32 × Int32) (S : St), lp (f_X11_needed_104b x1 x2 e) n v S = some (r, S') → J K 104 [(0, .ref 122), (1, .int x1), (2, .int x2), (3, .int v.1), (4, .int v.2)] [] S :=
  lp_J (P := fun (v : Int32 × Int32) (S : St) => J K 104 [(0, .ref 122), (1, .int x1), (2, .int x2), (3, .int v.1), (4, .int v.2)] [] S) (fun k hk v S hf => by
    unfold f_X11_needed_104b at hf
    refine j_iload hK dX11_needed_104 4 rfl ?_
    refine j_bipush hK (8 : Int32) dX11_needed_106 bi_8 ?_
    refine j_icmp_ge hK 151 dX11_needed_108 (by decide) (fun hc => ?_) (fun hc => ?_)
    · replace hf := if_1 hc hf
      refine j_sub [0, 1, 2, 3] rfl ?_
      exact he _ _ hf
    · replace hf := if_2 hc hf
      refine j_iload_n hK dX11_needed_111 3 rfl rfl ?_
      refine j_iload_n hK dX11_needed_112 2 rfl rfl ?_
      refine j_iload hK dX11_needed_113 4 rfl ?_
      obtain ⟨r5, S6, h7, hf⟩ := bd_J hf
      refine k_callSi hK (c_X11_has h7) dX11_needed_115 ml_X11_262 ms_X11_has in_X11 mc_X11_has hy_X11_has ⟨by decide, by decide⟩ rfl (Nat.le_of_ble_eq_true rfl) ?_
      refine j_if_eq hK 139 dX11_needed_118 (by decide) (fun hc => ?_) (fun hc => ?_)
      · replace hf := if_1 hc hf
        refine j_sub [0, 1, 2, 4] rfl ?_
        exact t_X11_needed_139 hK hA hk he hf
      · replace hf := if_2 hc hf
        refine j_aload_n hK dX11_needed_121 0 rfl rfl ?_
        refine j_iload hK dX11_needed_122 4 rfl ?_
        obtain ⟨r8, S9, h10, hf⟩ := bd_J hf
        refine k_callVi hK (c_X11_joinedTo h10) dX11_needed_124 zclX11 zo_122 ml_X11_308 mi_X11_joinedTo mx_X11_joinedTo in_X11 mc_X11_joinedTo hy_X11_joinedTo ⟨by decide, by decide⟩ rfl (Nat.le_of_ble_eq_true rfl) ?_
        obtain ⟨r11, S12, h13, hf⟩ := bd_J hf
        refine k_callSi hK (c_J6_numberOfTrailingZeros_0f7a4 h13) dX11_needed_127 ml_X11_395 ms_J6_numberOfTrailingZeros_0f7a4 in_J6 mc_J6_numberOfTrailingZeros_0f7a4 hy_J6_numberOfTrailingZeros_0f7a4 ⟨by decide, by decide⟩ rfl (Nat.le_of_ble_eq_true rfl) ?_
        refine j_iload hK dX11_needed_130 4 rfl ?_
        refine j_icmp_ne hK 139 dX11_needed_132 (by decide) (fun hc => ?_) (fun hc => ?_)
        · replace hf := if_2 hc hf
          refine j_sub [0, 1, 2, 4] rfl ?_
          exact t_X11_needed_139 hK hA hk he hf
        · replace hf := if_1 hc hf
          refine j_iconst hK (1 : Int32) dX11_needed_135 ic_1 ?_
          refine j_goto hK 140 dX11_needed_136 (by decide) ?_
          refine j_sub [0, 1, 2, 4] rfl ?_
          exact t_X11_needed_140 hK hA hk he hf)
def f_X11_needed_77 (x1 : Int32) (x2 : Int32) (k e : Int32 × Int32 → St → Option (Int32 × St)) (S : St) : Option (Int32 × St) := k (x1, (x2 + (1 : Int32))) S
theorem t_X11_needed_77 {K : CT} (hK : KO K cX11_needed RX11 5 4 (some .int)) {r : Int32} {S' : St} (hA : zans K = (some (.int r), S')) {x1 : Int32} {x2 : Int32} {k e : Int32 × Int32 → St → Option (Int32 × St)} (hk : ∀ (v : Int32 × Int32) (S : St), k v S = some (r, S') → J K 9 [(0, .ref 122), (1, .int v.1), (2, .int v.2)] [] S) (he : ∀ (v : Int32 × Int32) (S : St), e v S = some (r, S') → J K 83 [(0, .ref 122), (1, .int v.1)] [] S) {S : St} (hf : f_X11_needed_77 x1 x2 k e S = some (r, S')) : J K 77 [(0, .ref 122), (1, .int x1), (2, .int x2)] [] S := by
  unfold f_X11_needed_77 at hf
  refine j_iinc hK (L' := [(2, .int (x2 + (1 : Int32))), (0, .ref 122), (1, .int x1)]) dX11_needed_77 2 rfl (congrArg (fun y => x2 + y) ic_1) (by decide) rfl ?_
  refine j_goto hK 9 dX11_needed_80 (by decide) ?_
  refine j_sub [1, 2, 0] rfl ?_
  exact hk _ _ hf
def f_X11_needed_75 (x2 : Int32) (s0 : Int32) (s1 : Int32) (k e : Int32 × Int32 → St → Option (Int32 × St)) (S : St) : Option (Int32 × St) := lt (s0 ||| s1) (fun y14 => f_X11_needed_77 y14 x2 k e S)
theorem t_X11_needed_75 {K : CT} (hK : KO K cX11_needed RX11 5 4 (some .int)) {r : Int32} {S' : St} (hA : zans K = (some (.int r), S')) {x2 : Int32} {s0 : Int32} {s1 : Int32} {k e : Int32 × Int32 → St → Option (Int32 × St)} (hk : ∀ (v : Int32 × Int32) (S : St), k v S = some (r, S') → J K 9 [(0, .ref 122), (1, .int v.1), (2, .int v.2)] [] S) (he : ∀ (v : Int32 × Int32) (S : St), e v S = some (r, S') → J K 83 [(0, .ref 122), (1, .int v.1)] [] S) {S : St} (hf : f_X11_needed_75 x2 s0 s1 k e S = some (r, S')) : J K 75 [(0, .ref 122), (2, .int x2)] [.int s1, .int s0] S := by
  unfold f_X11_needed_75 at hf
  refine j_ior hK dX11_needed_75 ?_
  refine lt_I hf (fun y14 hf => ?_)
  refine j_istore_n hK (L' := [(1, .int y14), (0, .ref 122), (2, .int x2)]) dX11_needed_76 rfl (by decide) rfl ?_
  refine j_sub [1, 0, 2] rfl ?_
  exact t_X11_needed_77 hK hA hk he hf
def f_X11_needed_9b (e : Int32 × Int32 → St → Option (Int32 × St)) (k : Int32 × Int32 → St → Option (Int32 × St)) (v : Int32 × Int32) (S : St) : Option (Int32 × St) := (if (gI S 122 3) ≤ v.2 then e (v.1, v.2) S else bd (f_X11_has (gI S 126 36) v.2 S) (fun r15 S16 => (if r15 = 0 then f_X11_needed_77 v.1 v.2 k e S16 else lt ((gI S16 126 36) &&& (((1 : Int32) <<< (v.2 &&& 31)) ^^^ (-1 : Int32))) (fun y18 => bd (f_X11_laysFar y18 S16) (fun r19 S20 => if inb v.2 12 then if inb v.2 12 then bd (f_X11_areJoined (gI S20 124 v.2.toNatClampNeg) (gI S20 125 v.2.toNatClampNeg) S20) (fun r24 S25 => (if r24 = 0 then f_X11_needed_75 v.2 v.1 ((1 : Int32) <<< (v.2 &&& 31)) k e S25 else f_X11_needed_75 v.2 v.1 (0 : Int32) k e S25)) else none else none)))))
theorem t_X11_needed_9 {K : CT} (hK : KO K cX11_needed RX11 5 4 (some .int)) {r : Int32} {S' : St} (hA : zans K = (some (.int r), S')) {e : Int32 × Int32 → St → Option (Int32 × St)} (he : ∀ (v : Int32 × Int32) (S : St), e v S = some (r, S') → J K 83 [(0, .ref 122), (1, .int v.1)] [] S) : ∀ (n : Nat) (v : Int32 × Int32) (S : St), lp (f_X11_needed_9b  e) n v S = some (r, S') → J K 9 [(0, .ref 122), (1, .int v.1), (2, .int v.2)] [] S :=
  lp_J (P := fun (v : Int32 × Int32) (S : St) => J K 9 [(0, .ref 122), (1, .int v.1), (2, .int v.2)] [] S) (fun k hk v S hf => by
    unfold f_X11_needed_9b at hf
    refine j_iload_n hK dX11_needed_9 2 rfl rfl ?_
    refine j_aload_n hK dX11_needed_10 0 rfl rfl ?_
    refine j_getI hK fl_X11_128 dX11_needed_11 zo_122 zf_11_3 ?_
    refine j_icmp_ge hK 83 dX11_needed_14 (by decide) (fun hc => ?_) (fun hc => ?_)
    · replace hf := if_1 hc hf
      refine j_sub [0, 1] rfl ?_
      exact he _ _ hf
    · replace hf := if_2 hc hf
      refine j_aload_n hK dX11_needed_17 0 rfl rfl ?_
      refine j_getR hK fl_X11_31 dX11_needed_18 zo_122 zf_11_7 zr_122_7 ?_
      refine j_bipush hK (36 : Int32) dX11_needed_21 bi_36 ?_
      refine k_iald hK dX11_needed_23 zb_126 (by decide) tn_36 ?_
      refine j_iload_n hK dX11_needed_24 2 rfl rfl ?_
      obtain ⟨r15, S16, h17, hf⟩ := bd_J hf
      refine k_callSi hK (c_X11_has h17) dX11_needed_25 ml_X11_262 ms_X11_has in_X11 mc_X11_has hy_X11_has ⟨by decide, by decide⟩ rfl (Nat.le_of_ble_eq_true rfl) ?_
      refine j_if_eq hK 77 dX11_needed_28 (by decide) (fun hc => ?_) (fun hc => ?_)
      · replace hf := if_1 hc hf
        exact t_X11_needed_77 hK hA hk he hf
      · replace hf := if_2 hc hf
        refine j_aload_n hK dX11_needed_31 0 rfl rfl ?_
        refine j_aload_n hK dX11_needed_32 0 rfl rfl ?_
        refine j_getR hK fl_X11_31 dX11_needed_33 zo_122 zf_11_7 zr_122_7 ?_
        refine j_bipush hK (36 : Int32) dX11_needed_36 bi_36 ?_
        refine k_iald hK dX11_needed_38 zb_126 (by decide) tn_36 ?_
        refine j_iconst hK (1 : Int32) dX11_needed_39 ic_1 ?_
        refine j_iload_n hK dX11_needed_40 2 rfl rfl ?_
        refine j_pc (pc' := 41) rfl ?_
        refine j_ishl hK dX11_needed_41 ?_
        refine j_iconst hK (-1 : Int32) dX11_needed_42 ic_m1 ?_
        refine j_ixor hK dX11_needed_43 ?_
        refine j_iand hK dX11_needed_44 ?_
        refine lt_I hf (fun y18 hf => ?_)
        obtain ⟨r19, S20, h21, hf⟩ := bd_J hf
        refine k_callVv hK (c_X11_laysFar h21) dX11_needed_45 zclX11 zo_122 ml_X11_302 mi_X11_laysFar mx_X11_laysFar in_X11 mc_X11_laysFar hy_X11_laysFar ⟨by decide, by decide⟩ rfl (Nat.le_of_ble_eq_true rfl) ?_
        refine j_iload_n hK dX11_needed_48 1 rfl rfl ?_
        refine j_aload_n hK dX11_needed_49 0 rfl rfl ?_
        refine j_aload_n hK dX11_needed_50 0 rfl rfl ?_
        refine j_pc (pc' := 51) rfl ?_
        refine j_getR hK fl_X11_24 dX11_needed_51 zo_122 zf_11_5 zr_122_5 ?_
        refine j_iload_n hK dX11_needed_54 2 rfl rfl ?_
        obtain ⟨hi22, hf⟩ := gd hf
        refine k_iald hK dX11_needed_55 zb_124 hi22 rfl ?_
        refine j_aload_n hK dX11_needed_56 0 rfl rfl ?_
        refine j_getR hK fl_X11_28 dX11_needed_57 zo_122 zf_11_6 zr_122_6 ?_
        refine j_iload_n hK dX11_needed_60 2 rfl rfl ?_
        obtain ⟨hi23, hf⟩ := gd hf
        refine k_iald hK dX11_needed_61 zb_125 hi23 rfl ?_
        obtain ⟨r24, S25, h26, hf⟩ := bd_J hf
        refine k_callVi hK (c_X11_areJoined h26) dX11_needed_62 zclX11 zo_122 ml_X11_294 mi_X11_areJoined mx_X11_areJoined in_X11 mc_X11_areJoined hy_X11_areJoined ⟨by decide, by decide⟩ rfl (Nat.le_of_ble_eq_true rfl) ?_
        refine j_pc (pc' := 65) rfl ?_
        refine j_if_eq hK 72 dX11_needed_65 (by decide) (fun hc => ?_) (fun hc => ?_)
        · replace hf := if_1 hc hf
          refine j_iconst hK (1 : Int32) dX11_needed_72 ic_1 ?_
          refine j_iload_n hK dX11_needed_73 2 rfl rfl ?_
          refine j_ishl hK dX11_needed_74 ?_
          refine j_sub [0, 2] rfl ?_
          exact t_X11_needed_75 hK hA hk he hf
        · replace hf := if_2 hc hf
          refine j_iconst hK (0 : Int32) dX11_needed_68 ic_0 ?_
          refine j_goto hK 75 dX11_needed_69 (by decide) ?_
          refine j_sub [0, 2] rfl ?_
          exact t_X11_needed_75 hK hA hk he hf)
def f_X11_needed (S : St) : Option (Int32 × St) := lt (sI S 122 0 (0 : Int32)) (fun S27 => lp (f_X11_needed_9b  (fun v28 S29 => bd (f_X11_laysFar (gI S29 126 36) S29) (fun r30 S31 => bd (f_X11_withPassages S31) (fun r33 S34 => lp (f_X11_needed_104b v28.1 r33 (fun v36 S37 => lt (sI S37 122 1 (0 : Int32)) (fun S38 => bd (f_J6_bitCount_0f7a4 v28.1 S38) (fun r39 S40 => bd (f_X11_enters r39.toInt64 S40) (fun r42 S43 => bd (f_J6_bitCount_0f7a4 r33 S43) (fun r45 S46 => bd (f_X11_enters r45.toInt64 S46) (fun r48 S49 => bd (f_X11_enters v36.1.toInt64 S49) (fun r51 S52 => some (v28.1, S52))))))))) FU ((0 : Int32), (0 : Int32)) S34)))) FU ((0 : Int32), (0 : Int32)) S27)
theorem c_X11_needed {S : St} {r : Int32} {S' : St} (hf : f_X11_needed S = some (r, S')) : zM yX11_needed cX11_needed 5 4 (some .int) [.ref 122] S (some (.int r)) S' := by
  refine zM_of (zpl (by decide)) (Nat.le_of_ble_eq_true rfl) rfl (fun K hK hA => ?_)
  unfold f_X11_needed at hf
  refine j_aload_n hK dX11_needed_0 0 rfl rfl ?_
  refine j_iconst hK (0 : Int32) dX11_needed_1 ic_0 ?_
  refine j_putI hK fl_X11_3 dX11_needed_2 zo_122 zf_11_0 ?_
  refine lt_S hf (fun S27 hf => ?_)
  refine j_iconst hK (0 : Int32) dX11_needed_5 ic_0 ?_
  refine j_istore_n hK (L' := [(1, .int (0 : Int32)), (0, .ref 122)]) dX11_needed_6 rfl (by decide) rfl ?_
  refine j_iconst hK (0 : Int32) dX11_needed_7 ic_0 ?_
  refine j_istore_n hK (L' := [(2, .int (0 : Int32)), (1, .int (0 : Int32)), (0, .ref 122)]) dX11_needed_8 rfl (by decide) rfl ?_
  refine j_sub [2, 1, 0] rfl ?_
  refine t_X11_needed_9 hK hA  (fun v28 S29 hf => ?_) _ _ _ hf
  refine j_aload_n hK dX11_needed_83 0 rfl rfl ?_
  refine j_aload_n hK dX11_needed_84 0 rfl rfl ?_
  refine j_getR hK fl_X11_31 dX11_needed_85 zo_122 zf_11_7 zr_122_7 ?_
  refine j_bipush hK (36 : Int32) dX11_needed_88 bi_36 ?_
  refine k_iald hK dX11_needed_90 zb_126 (by decide) tn_36 ?_
  obtain ⟨r30, S31, h32, hf⟩ := bd_J hf
  refine k_callVv hK (c_X11_laysFar h32) dX11_needed_91 zclX11 zo_122 ml_X11_302 mi_X11_laysFar mx_X11_laysFar in_X11 mc_X11_laysFar hy_X11_laysFar ⟨by decide, by decide⟩ rfl (Nat.le_of_ble_eq_true rfl) ?_
  refine j_aload_n hK dX11_needed_94 0 rfl rfl ?_
  refine j_pc (pc' := 95) rfl ?_
  obtain ⟨r33, S34, h35, hf⟩ := bd_J hf
  refine k_callVi hK (c_X11_withPassages h35) dX11_needed_95 zclX11 zo_122 ml_X11_392 mi_X11_withPassages mx_X11_withPassages in_X11 mc_X11_withPassages hy_X11_withPassages ⟨by decide, by decide⟩ rfl (Nat.le_of_ble_eq_true rfl) ?_
  refine j_istore_n hK (L' := [(2, .int r33), (0, .ref 122), (1, .int v28.1)]) dX11_needed_98 rfl (by decide) rfl ?_
  refine j_iconst hK (0 : Int32) dX11_needed_99 ic_0 ?_
  refine j_istore_n hK (L' := [(3, .int (0 : Int32)), (2, .int r33), (0, .ref 122), (1, .int v28.1)]) dX11_needed_100 rfl (by decide) rfl ?_
  refine j_iconst hK (0 : Int32) dX11_needed_101 ic_0 ?_
  refine j_istore hK (L' := [(4, .int (0 : Int32)), (3, .int (0 : Int32)), (2, .int r33), (0, .ref 122), (1, .int v28.1)]) dX11_needed_102 (by decide) rfl ?_
  refine j_sub [3, 4, 2, 1, 0] rfl ?_
  refine t_X11_needed_104 hK hA  (fun v36 S37 hf => ?_) _ _ _ hf
  refine j_aload_n hK dX11_needed_151 0 rfl rfl ?_
  refine j_iconst hK (0 : Int32) dX11_needed_152 ic_0 ?_
  refine j_putI hK fl_X11_15 dX11_needed_153 zo_122 zf_11_1 ?_
  refine lt_S hf (fun S38 hf => ?_)
  refine j_aload_n hK dX11_needed_156 0 rfl rfl ?_
  refine j_iload_n hK dX11_needed_157 1 rfl rfl ?_
  obtain ⟨r39, S40, h41, hf⟩ := bd_J hf
  refine k_callSi hK (c_J6_bitCount_0f7a4 h41) dX11_needed_158 ml_X11_355 ms_J6_bitCount_0f7a4 in_J6 mc_J6_bitCount_0f7a4 hy_J6_bitCount_0f7a4 ⟨by decide, by decide⟩ rfl (Nat.le_of_ble_eq_true rfl) ?_
  refine j_i2l hK dX11_needed_161 ?_
  refine j_pc (pc' := 162) rfl ?_
  obtain ⟨r42, S43, h44, hf⟩ := bd_J hf
  refine k_callVv hK (c_X11_enters h44) dX11_needed_162 zclX11 zo_122 ml_X11_340 mi_X11_enters mx_X11_enters in_X11 mc_X11_enters hy_X11_enters ⟨by decide, by decide⟩ rfl (Nat.le_of_ble_eq_true rfl) ?_
  refine j_aload_n hK dX11_needed_165 0 rfl rfl ?_
  refine j_iload_n hK dX11_needed_166 2 rfl rfl ?_
  obtain ⟨r45, S46, h47, hf⟩ := bd_J hf
  refine k_callSi hK (c_J6_bitCount_0f7a4 h47) dX11_needed_167 ml_X11_355 ms_J6_bitCount_0f7a4 in_J6 mc_J6_bitCount_0f7a4 hy_J6_bitCount_0f7a4 ⟨by decide, by decide⟩ rfl (Nat.le_of_ble_eq_true rfl) ?_
  refine j_i2l hK dX11_needed_170 ?_
  obtain ⟨r48, S49, h50, hf⟩ := bd_J hf
  refine k_callVv hK (c_X11_enters h50) dX11_needed_171 zclX11 zo_122 ml_X11_340 mi_X11_enters mx_X11_enters in_X11 mc_X11_enters hy_X11_enters ⟨by decide, by decide⟩ rfl (Nat.le_of_ble_eq_true rfl) ?_
  refine j_aload_n hK dX11_needed_174 0 rfl rfl ?_
  refine j_iload_n hK dX11_needed_175 3 rfl rfl ?_
  refine j_pc (pc' := 176) rfl ?_
  refine j_i2l hK dX11_needed_176 ?_
  obtain ⟨r51, S52, h53, hf⟩ := bd_J hf
  refine k_callVv hK (c_X11_enters h53) dX11_needed_177 zclX11 zo_122 ml_X11_340 mi_X11_enters mx_X11_enters in_X11 mc_X11_enters hy_X11_enters ⟨by decide, by decide⟩ rfl (Nat.le_of_ble_eq_true rfl) ?_
  refine j_iload_n hK dX11_needed_180 1 rfl rfl ?_
  exact j_iret hK dX11_needed_181 rfl (rt_I hA hf)
def f_X11_place (p0 : Int32) (p1 : Int32) (S : St) : Option (Int32 × St) := some ((((8 : Int32) * p0) + p1), S)
theorem c_X11_place {p0 : Int32} {p1 : Int32} {S : St} {r : Int32} {S' : St} (hf : f_X11_place p0 p1 S = some (r, S')) : zM yX11_place cX11_place 2 1 (some .int) [.int p0, .int p1] S (some (.int r)) S' := by
  refine zM_of (zpl (by decide)) (Nat.le_of_ble_eq_true rfl) rfl (fun K hK hA => ?_)
  unfold f_X11_place at hf
  refine j_bipush hK (8 : Int32) dX11_place_0 bi_8 ?_
  refine j_iload_n hK dX11_place_2 0 rfl rfl ?_
  refine j_imul hK dX11_place_3 ?_
  refine j_iload_n hK dX11_place_4 1 rfl rfl ?_
  refine j_iadd hK dX11_place_5 ?_
  exact j_iret hK dX11_place_6 rfl (rt_I hA hf)
def f_X11_tour_265 (x1 : Int32) (x3 : Int32) (x4 : Int32) (x5 : Int32) (x6 : Int32) (k e : Int32 → St → Option (Int32 × St)) (S : St) : Option (Int32 × St) := k (x6 + (1 : Int32)) S
theorem t_X11_tour_265 {K : CT} (hK : KO K cX11_tour RX11 8 4 (some .int)) {r : Int32} {S' : St} (hA : zans K = (some (.int r), S')) {x1 : Int32} {x3 : Int32} {x4 : Int32} {x5 : Int32} {x6 : Int32} {k e : Int32 → St → Option (Int32 × St)} (hk : ∀ (v : Int32) (S : St), k v S = some (r, S') → J K 212 [(0, .ref 122), (1, .int x1), (3, .int x3), (4, .int x4), (5, .int x5), (6, .int v)] [] S) (he : ∀ (v : Int32) (S : St), e v S = some (r, S') → J K 271 [(0, .ref 122), (1, .int x1), (3, .int x3), (5, .int x5), (6, .int v)] [] S) {S : St} (hf : f_X11_tour_265 x1 x3 x4 x5 x6 k e S = some (r, S')) : J K 265 [(0, .ref 122), (1, .int x1), (3, .int x3), (4, .int x4), (5, .int x5), (6, .int x6)] [] S := by
  unfold f_X11_tour_265 at hf
  refine j_iinc hK (L' := [(6, .int (x6 + (1 : Int32))), (0, .ref 122), (1, .int x1), (3, .int x3), (4, .int x4), (5, .int x5)]) dX11_tour_265 5 rfl (congrArg (fun y => x6 + y) ic_1) (by decide) rfl ?_
  refine j_goto hK 212 dX11_tour_268 (by decide) ?_
  refine j_sub [1, 2, 3, 4, 5, 0] rfl ?_
  exact hk _ _ hf
def f_X11_tour_212b (x1 : Int32) (x3 : Int32) (x4 : Int32) (x5 : Int32) (e : Int32 → St → Option (Int32 × St)) (k : Int32 → St → Option (Int32 × St)) (v : Int32) (S : St) : Option (Int32 × St) := bd (f_X11_has x5 v S) (fun r1 S2 => (if r1 = 0 then f_X11_tour_265 x1 x3 x4 x5 v k e S2 else bd (f_X11_farOf x4 v S2) (fun r4 S5 => bd (f_X11_place (x5 &&& (((1 : Int32) <<< (v &&& 31)) ^^^ (-1 : Int32))) v S5) (fun r7 S8 => if inb r7 2048 then bd (f_X11_place x5 x4 S8) (fun r11 S12 => if inb r11 2048 then (if (r4 + (gI S8 145 r7.toNatClampNeg)) = (gI S12 145 r11.toNatClampNeg) then e v S12 else f_X11_tour_265 x1 x3 x4 x5 v k e S12) else none) else none))))
theorem t_X11_tour_212 {K : CT} (hK : KO K cX11_tour RX11 8 4 (some .int)) {r : Int32} {S' : St} (hA : zans K = (some (.int r), S')) {x1 : Int32} {x3 : Int32} {x4 : Int32} {x5 : Int32} {e : Int32 → St → Option (Int32 × St)} (he : ∀ (v : Int32) (S : St), e v S = some (r, S') → J K 271 [(0, .ref 122), (1, .int x1), (3, .int x3), (5, .int x5), (6, .int v)] [] S) : ∀ (n : Nat) (v : Int32) (S : St), lp (f_X11_tour_212b x1 x3 x4 x5 e) n v S = some (r, S') → J K 212 [(0, .ref 122), (1, .int x1), (3, .int x3), (4, .int x4), (5, .int x5), (6, .int v)] [] S :=
  lp_J (P := fun (v : Int32) (S : St) => J K 212 [(0, .ref 122), (1, .int x1), (3, .int x3), (4, .int x4), (5, .int x5), (6, .int v)] [] S) (fun k hk v S hf => by
    unfold f_X11_tour_212b at hf
    refine j_iload hK dX11_tour_212 4 rfl ?_
    refine j_iload hK dX11_tour_214 5 rfl ?_
    obtain ⟨r1, S2, h3, hf⟩ := bd_J hf
    refine k_callSi hK (c_X11_has h3) dX11_tour_216 ml_X11_262 ms_X11_has in_X11 mc_X11_has hy_X11_has ⟨by decide, by decide⟩ rfl (Nat.le_of_ble_eq_true rfl) ?_
    refine j_if_eq hK 265 dX11_tour_219 (by decide) (fun hc => ?_) (fun hc => ?_)
    · replace hf := if_1 hc hf
      exact t_X11_tour_265 hK hA hk he hf
    · replace hf := if_2 hc hf
      refine j_aload_n hK dX11_tour_222 0 rfl rfl ?_
      refine j_iload hK dX11_tour_223 3 rfl ?_
      refine j_iload hK dX11_tour_225 5 rfl ?_
      obtain ⟨r4, S5, h6, hf⟩ := bd_J hf
      refine k_callVi hK (c_X11_farOf h6) dX11_tour_227 zclX11 zo_122 ml_X11_291 mi_X11_farOf mx_X11_farOf in_X11 mc_X11_farOf hy_X11_farOf ⟨by decide, by decide⟩ rfl (Nat.le_of_ble_eq_true rfl) ?_
      refine j_aload_n hK dX11_tour_230 0 rfl rfl ?_
      refine j_getR hK fl_X11_89 dX11_tour_231 zo_122 zf_11_38 zr_122_38 ?_
      refine j_iload hK dX11_tour_234 4 rfl ?_
      refine j_pc (pc' := 236) rfl ?_
      refine j_iconst hK (1 : Int32) dX11_tour_236 ic_1 ?_
      refine j_iload hK dX11_tour_237 5 rfl ?_
      refine j_ishl hK dX11_tour_239 ?_
      refine j_iconst hK (-1 : Int32) dX11_tour_240 ic_m1 ?_
      refine j_ixor hK dX11_tour_241 ?_
      refine j_iand hK dX11_tour_242 ?_
      refine j_iload hK dX11_tour_243 5 rfl ?_
      obtain ⟨r7, S8, h9, hf⟩ := bd_J hf
      refine k_callSi hK (c_X11_place h9) dX11_tour_245 ml_X11_400 ms_X11_place in_X11 mc_X11_place hy_X11_place ⟨by decide, by decide⟩ rfl (Nat.le_of_ble_eq_true rfl) ?_
      refine j_pc (pc' := 248) rfl ?_
      obtain ⟨hi10, hf⟩ := gd hf
      refine k_iald hK dX11_tour_248 zb_145 hi10 rfl ?_
      refine j_iadd hK dX11_tour_249 ?_
      refine j_aload_n hK dX11_tour_250 0 rfl rfl ?_
      refine j_getR hK fl_X11_89 dX11_tour_251 zo_122 zf_11_38 zr_122_38 ?_
      refine j_iload hK dX11_tour_254 4 rfl ?_
      refine j_iload hK dX11_tour_256 3 rfl ?_
      obtain ⟨r11, S12, h13, hf⟩ := bd_J hf
      refine k_callSi hK (c_X11_place h13) dX11_tour_258 ml_X11_400 ms_X11_place in_X11 mc_X11_place hy_X11_place ⟨by decide, by decide⟩ rfl (Nat.le_of_ble_eq_true rfl) ?_
      obtain ⟨hi14, hf⟩ := gd hf
      refine k_iald hK dX11_tour_261 zb_145 hi14 rfl ?_
      refine j_pc (pc' := 262) rfl ?_
      refine j_icmp_eq hK 271 dX11_tour_262 (by decide) (fun hc => ?_) (fun hc => ?_)
      · replace hf := if_1 hc hf
        refine j_sub [0, 1, 2, 4, 5] rfl ?_
        exact he _ _ hf
      · replace hf := if_2 hc hf
        exact t_X11_tour_265 hK hA hk he hf)
def f_X11_tour_204b (x1 : Int32) (x3 : Int32) (e : Int32 × Int32 → St → Option (Int32 × St)) (k : Int32 × Int32 → St → Option (Int32 × St)) (v : Int32 × Int32) (S : St) : Option (Int32 × St) := (if v.2 = 0 then e (v.1, v.2) S else lp (f_X11_tour_212b x1 x3 v.1 v.2 (fun v15 S16 => lt (v.2 &&& (((1 : Int32) <<< (v15 &&& 31)) ^^^ (-1 : Int32))) (fun y17 => bd (f_X11_enters v15.toInt64 S16) (fun r18 S19 => k (v15, y17) S19)))) FU (0 : Int32) S)
theorem t_X11_tour_204 {K : CT} (hK : KO K cX11_tour RX11 8 4 (some .int)) {r : Int32} {S' : St} (hA : zans K = (some (.int r), S')) {x1 : Int32} {x3 : Int32} {e : Int32 × Int32 → St → Option (Int32 × St)} (he : ∀ (v : Int32 × Int32) (S : St), e v S = some (r, S') → J K 296 [(0, .ref 122), (1, .int x1), (3, .int x3)] [] S) : ∀ (n : Nat) (v : Int32 × Int32) (S : St), lp (f_X11_tour_204b x1 x3 e) n v S = some (r, S') → J K 204 [(0, .ref 122), (1, .int x1), (3, .int x3), (4, .int v.1), (5, .int v.2)] [] S :=
  lp_J (P := fun (v : Int32 × Int32) (S : St) => J K 204 [(0, .ref 122), (1, .int x1), (3, .int x3), (4, .int v.1), (5, .int v.2)] [] S) (fun k hk v S hf => by
    unfold f_X11_tour_204b at hf
    refine j_iload hK dX11_tour_204 4 rfl ?_
    refine j_if_eq hK 296 dX11_tour_206 (by decide) (fun hc => ?_) (fun hc => ?_)
    · replace hf := if_1 hc hf
      refine j_sub [0, 1, 2] rfl ?_
      exact he _ _ hf
    · replace hf := if_2 hc hf
      refine j_iconst hK (0 : Int32) dX11_tour_209 ic_0 ?_
      refine j_istore hK (L' := [(6, .int (0 : Int32)), (0, .ref 122), (1, .int x1), (3, .int x3), (4, .int v.1), (5, .int v.2)]) dX11_tour_210 (by decide) rfl ?_
      refine j_sub [1, 2, 3, 4, 5, 0] rfl ?_
      refine t_X11_tour_212 hK hA  (fun v15 S16 hf => ?_) _ _ _ hf
      refine j_iload hK dX11_tour_271 3 rfl ?_
      refine j_iconst hK (1 : Int32) dX11_tour_273 ic_1 ?_
      refine j_iload hK dX11_tour_274 4 rfl ?_
      refine j_ishl hK dX11_tour_276 ?_
      refine j_iconst hK (-1 : Int32) dX11_tour_277 ic_m1 ?_
      refine j_ixor hK dX11_tour_278 ?_
      refine j_iand hK dX11_tour_279 ?_
      refine j_pc (pc' := 280) rfl ?_
      refine lt_I hf (fun y17 hf => ?_)
      refine j_istore hK (L' := [(5, .int y17), (0, .ref 122), (1, .int x1), (3, .int x3), (6, .int v15)]) dX11_tour_280 (by decide) rfl ?_
      refine j_iload hK dX11_tour_282 4 rfl ?_
      refine j_istore hK (L' := [(4, .int v15), (5, .int y17), (0, .ref 122), (1, .int x1), (3, .int x3), (6, .int v15)]) dX11_tour_284 (by decide) rfl ?_
      refine j_aload_n hK dX11_tour_286 2 rfl rfl ?_
      refine j_iload hK dX11_tour_287 0 rfl ?_
      refine j_i2l hK dX11_tour_289 ?_
      obtain ⟨r18, S19, h20, hf⟩ := bd_J hf
      refine k_callVv hK (c_X11_enters h20) dX11_tour_290 zclX11 zo_122 ml_X11_340 mi_X11_enters mx_X11_enters in_X11 mc_X11_enters hy_X11_enters ⟨by decide, by decide⟩ rfl (Nat.le_of_ble_eq_true rfl) ?_
      refine j_goto hK 204 dX11_tour_293 (by decide) ?_
      refine j_sub [2, 3, 4, 0, 1] rfl ?_
      exact hk _ _ hf)
def f_X11_tour_159 (x1 : Int32) (x3 : Int32) (x4 : Int32) (x5 : Int32) (x7 : Int32) (s0 : Int32) (k e : Int32 × Int32 → St → Option (Int32 × St)) (S : St) : Option (Int32 × St) := k (s0, (x7 + (1 : Int32))) S
theorem t_X11_tour_159 {K : CT} (hK : KO K cX11_tour RX11 8 4 (some .int)) {r : Int32} {S' : St} (hA : zans K = (some (.int r), S')) {x1 : Int32} {x3 : Int32} {x4 : Int32} {x5 : Int32} {x7 : Int32} {s0 : Int32} {k e : Int32 × Int32 → St → Option (Int32 × St)} (hk : ∀ (v : Int32 × Int32) (S : St), k v S = some (r, S') → J K 104 [(0, .ref 122), (1, .int x1), (3, .int x3), (4, .int x4), (5, .int x5), (6, .int v.1), (7, .int v.2)] [] S) (he : ∀ (v : Int32 × Int32) (S : St), e v S = some (r, S') → J K 167 [(0, .ref 122), (1, .int x1), (3, .int x3), (4, .int x4), (5, .int x5), (6, .int v.1)] [] S) {S : St} (hf : f_X11_tour_159 x1 x3 x4 x5 x7 s0 k e S = some (r, S')) : J K 159 [(0, .ref 122), (1, .int x1), (3, .int x3), (4, .int x4), (5, .int x5), (7, .int x7)] [.int s0] S := by
  unfold f_X11_tour_159 at hf
  refine j_istore hK (L' := [(6, .int s0), (0, .ref 122), (1, .int x1), (3, .int x3), (4, .int x4), (5, .int x5), (7, .int x7)]) dX11_tour_159 (by decide) rfl ?_
  refine j_iinc hK (L' := [(7, .int (x7 + (1 : Int32))), (6, .int s0), (0, .ref 122), (1, .int x1), (3, .int x3), (4, .int x4), (5, .int x5)]) dX11_tour_161 6 rfl (congrArg (fun y => x7 + y) ic_1) (by decide) rfl ?_
  refine j_goto hK 104 dX11_tour_164 (by decide) ?_
  refine j_sub [2, 3, 4, 5, 6, 1, 0] rfl ?_
  exact hk _ _ hf
def f_X11_tour_104b (x1 : Int32) (x3 : Int32) (x4 : Int32) (x5 : Int32) (e : Int32 × Int32 → St → Option (Int32 × St)) (k : Int32 × Int32 → St → Option (Int32 × St)) (v : Int32 × Int32) (S : St) : Option (Int32 × St) := (if (8 : Int32) ≤ v.2 then e (v.1, v.2) S else bd (f_X11_has x4 v.2 S) (fun r21 S22 => (if r21 = 0 then f_X11_tour_159 x1 x3 x4 x5 v.2 v.1 k e S22 else bd (f_X11_farOf x5 v.2 S22) (fun r24 S25 => bd (f_X11_place (x4 &&& (((1 : Int32) <<< (v.2 &&& 31)) ^^^ (-1 : Int32))) v.2 S25) (fun r27 S28 => if inb r27 2048 then f_X11_tour_159 x1 x3 x4 x5 v.2 (mnI v.1 (r24 + (gI S28 145 r27.toNatClampNeg))) k e S28 else none)))))
theorem t_X11_tour_104 {K : CT} (hK : KO K cX11_tour RX11 8 4 (some .int)) {r : Int32} {S' : St} (hA : zans K = (some (.int r), S')) {x1 : Int32} {x3 : Int32} {x4 : Int32} {x5 : Int32} {e : Int32 × Int32 → St → Option (Int32 × St)} (he : ∀ (v : Int32 × Int32) (S : St), e v S = some (r, S') → J K 167 [(0, .ref 122), (1, .int x1), (3, .int x3), (4, .int x4), (5, .int x5), (6, .int v.1)] [] S) : ∀ (n : Nat) (v : Int32 × Int32) (S : St), lp (f_X11_tour_104b x1 x3 x4 x5 e) n v S = some (r, S') → J K 104 [(0, .ref 122), (1, .int x1), (3, .int x3), (4, .int x4), (5, .int x5), (6, .int v.1), (7, .int v.2)] [] S :=
  lp_J (P := fun (v : Int32 × Int32) (S : St) => J K 104 [(0, .ref 122), (1, .int x1), (3, .int x3), (4, .int x4), (5, .int x5), (6, .int v.1), (7, .int v.2)] [] S) (fun k hk v S hf => by
    unfold f_X11_tour_104b at hf
    refine j_iload hK dX11_tour_104 6 rfl ?_
    refine j_bipush hK (8 : Int32) dX11_tour_106 bi_8 ?_
    refine j_icmp_ge hK 167 dX11_tour_108 (by decide) (fun hc => ?_) (fun hc => ?_)
    · replace hf := if_1 hc hf
      refine j_sub [0, 1, 2, 3, 4, 5] rfl ?_
      exact he _ _ hf
    · replace hf := if_2 hc hf
      refine j_iload hK dX11_tour_111 3 rfl ?_
      refine j_iload hK dX11_tour_113 6 rfl ?_
      obtain ⟨r21, S22, h23, hf⟩ := bd_J hf
      refine k_callSi hK (c_X11_has h23) dX11_tour_115 ml_X11_262 ms_X11_has in_X11 mc_X11_has hy_X11_has ⟨by decide, by decide⟩ rfl (Nat.le_of_ble_eq_true rfl) ?_
      refine j_if_eq hK 157 dX11_tour_118 (by decide) (fun hc => ?_) (fun hc => ?_)
      · replace hf := if_1 hc hf
        refine j_iload hK dX11_tour_157 5 rfl ?_
        refine j_sub [0, 1, 2, 3, 4, 6] rfl ?_
        exact t_X11_tour_159 hK hA hk he hf
      · replace hf := if_2 hc hf
        refine j_iload hK dX11_tour_121 5 rfl ?_
        refine j_aload_n hK dX11_tour_123 0 rfl rfl ?_
        refine j_iload hK dX11_tour_124 4 rfl ?_
        refine j_iload hK dX11_tour_126 6 rfl ?_
        obtain ⟨r24, S25, h26, hf⟩ := bd_J hf
        refine k_callVi hK (c_X11_farOf h26) dX11_tour_128 zclX11 zo_122 ml_X11_291 mi_X11_farOf mx_X11_farOf in_X11 mc_X11_farOf hy_X11_farOf ⟨by decide, by decide⟩ rfl (Nat.le_of_ble_eq_true rfl) ?_
        refine j_aload_n hK dX11_tour_131 0 rfl rfl ?_
        refine j_getR hK fl_X11_89 dX11_tour_132 zo_122 zf_11_38 zr_122_38 ?_
        refine j_pc (pc' := 135) rfl ?_
        refine j_iload hK dX11_tour_135 3 rfl ?_
        refine j_iconst hK (1 : Int32) dX11_tour_137 ic_1 ?_
        refine j_iload hK dX11_tour_138 6 rfl ?_
        refine j_ishl hK dX11_tour_140 ?_
        refine j_iconst hK (-1 : Int32) dX11_tour_141 ic_m1 ?_
        refine j_ixor hK dX11_tour_142 ?_
        refine j_iand hK dX11_tour_143 ?_
        refine j_iload hK dX11_tour_144 6 rfl ?_
        refine j_pc (pc' := 146) rfl ?_
        obtain ⟨r27, S28, h29, hf⟩ := bd_J hf
        refine k_callSi hK (c_X11_place h29) dX11_tour_146 ml_X11_400 ms_X11_place in_X11 mc_X11_place hy_X11_place ⟨by decide, by decide⟩ rfl (Nat.le_of_ble_eq_true rfl) ?_
        obtain ⟨hi30, hf⟩ := gd hf
        refine k_iald hK dX11_tour_149 zb_145 hi30 rfl ?_
        refine j_iadd hK dX11_tour_150 ?_
        refine j_min hK ml_X11_146 dX11_tour_151 (by decide) (Nat.le_of_ble_eq_true rfl) ?_
        refine j_goto hK 159 dX11_tour_154 (by decide) ?_
        refine j_sub [0, 1, 2, 3, 4, 6] rfl ?_
        exact t_X11_tour_159 hK hA hk he hf)
def f_X11_tour_99 (x1 : Int32) (x3 : Int32) (x4 : Int32) (x5 : Int32) (s0 : Int32) (k e : Int32 → St → Option (Int32 × St)) (S : St) : Option (Int32 × St) := lp (f_X11_tour_104b x1 x3 x4 x5 (fun v31 S32 => bd (f_X11_place x4 x5 S32) (fun r33 S34 => if inb r33 2048 then lt (sI S34 145 r33.toNatClampNeg v31.1) (fun S37 => k (x5 + (1 : Int32)) S37) else none))) FU (s0, (0 : Int32)) S
theorem t_X11_tour_99 {K : CT} (hK : KO K cX11_tour RX11 8 4 (some .int)) {r : Int32} {S' : St} (hA : zans K = (some (.int r), S')) {x1 : Int32} {x3 : Int32} {x4 : Int32} {x5 : Int32} {s0 : Int32} {k e : Int32 → St → Option (Int32 × St)} (hk : ∀ (v : Int32) (S : St), k v S = some (r, S') → J K 74 [(0, .ref 122), (1, .int x1), (3, .int x3), (4, .int x4), (5, .int v)] [] S) (he : ∀ (v : Int32) (S : St), e v S = some (r, S') → J K 187 [(0, .ref 122), (1, .int x1), (3, .int x3), (4, .int x4)] [] S) {S : St} (hf : f_X11_tour_99 x1 x3 x4 x5 s0 k e S = some (r, S')) : J K 99 [(0, .ref 122), (1, .int x1), (3, .int x3), (4, .int x4), (5, .int x5)] [.int s0] S := by
  unfold f_X11_tour_99 at hf
  refine j_istore hK (L' := [(6, .int s0), (0, .ref 122), (1, .int x1), (3, .int x3), (4, .int x4), (5, .int x5)]) dX11_tour_99 (by decide) rfl ?_
  refine j_iconst hK (0 : Int32) dX11_tour_101 ic_0 ?_
  refine j_istore hK (L' := [(7, .int (0 : Int32)), (6, .int s0), (0, .ref 122), (1, .int x1), (3, .int x3), (4, .int x4), (5, .int x5)]) dX11_tour_102 (by decide) rfl ?_
  refine j_sub [2, 3, 4, 5, 6, 1, 0] rfl ?_
  refine t_X11_tour_104 hK hA  (fun v31 S32 hf => ?_) _ _ _ hf
  refine j_aload_n hK dX11_tour_167 0 rfl rfl ?_
  refine j_getR hK fl_X11_89 dX11_tour_168 zo_122 zf_11_38 zr_122_38 ?_
  refine j_iload hK dX11_tour_171 3 rfl ?_
  refine j_iload hK dX11_tour_173 4 rfl ?_
  obtain ⟨r33, S34, h35, hf⟩ := bd_J hf
  refine k_callSi hK (c_X11_place h35) dX11_tour_175 ml_X11_400 ms_X11_place in_X11 mc_X11_place hy_X11_place ⟨by decide, by decide⟩ rfl (Nat.le_of_ble_eq_true rfl) ?_
  refine j_iload hK dX11_tour_178 5 rfl ?_
  obtain ⟨hi36, hf⟩ := gd hf
  refine k_iast hK dX11_tour_180 zb_145 hi36 rfl ?_
  refine lt_S hf (fun S37 hf => ?_)
  refine j_pc (pc' := 181) rfl ?_
  refine j_iinc hK (L' := [(5, .int (x5 + (1 : Int32))), (0, .ref 122), (1, .int x1), (3, .int x3), (4, .int x4), (6, .int v31.1)]) dX11_tour_181 4 rfl (congrArg (fun y => x5 + y) ic_1) (by decide) rfl ?_
  refine j_goto hK 74 dX11_tour_184 (by decide) ?_
  refine j_sub [1, 2, 3, 4, 0] rfl ?_
  exact hk _ _ hf
def f_X11_tour_74b (x1 : Int32) (x3 : Int32) (x4 : Int32) (e : Int32 → St → Option (Int32 × St)) (k : Int32 → St → Option (Int32 × St)) (v : Int32) (S : St) : Option (Int32 × St) := (if (8 : Int32) ≤ v then e v S else (if x4 = 0 then bd (f_X11_farOf v x1 S) (fun r38 S39 => f_X11_tour_99 x1 x3 x4 v r38 k e S39) else f_X11_tour_99 x1 x3 x4 v (1000000 : Int32) k e S))
theorem t_X11_tour_74 {K : CT} (hK : KO K cX11_tour RX11 8 4 (some .int)) {r : Int32} {S' : St} (hA : zans K = (some (.int r), S')) {x1 : Int32} {x3 : Int32} {x4 : Int32} {e : Int32 → St → Option (Int32 × St)} (he : ∀ (v : Int32) (S : St), e v S = some (r, S') → J K 187 [(0, .ref 122), (1, .int x1), (3, .int x3), (4, .int x4)] [] S) : ∀ (n : Nat) (v : Int32) (S : St), lp (f_X11_tour_74b x1 x3 x4 e) n v S = some (r, S') → J K 74 [(0, .ref 122), (1, .int x1), (3, .int x3), (4, .int x4), (5, .int v)] [] S :=
  lp_J (P := fun (v : Int32) (S : St) => J K 74 [(0, .ref 122), (1, .int x1), (3, .int x3), (4, .int x4), (5, .int v)] [] S) (fun k hk v S hf => by
    unfold f_X11_tour_74b at hf
    refine j_iload hK dX11_tour_74 4 rfl ?_
    refine j_bipush hK (8 : Int32) dX11_tour_76 bi_8 ?_
    refine j_icmp_ge hK 187 dX11_tour_78 (by decide) (fun hc => ?_) (fun hc => ?_)
    · replace hf := if_1 hc hf
      refine j_sub [0, 1, 2, 3] rfl ?_
      exact he _ _ hf
    · replace hf := if_2 hc hf
      refine j_iload hK dX11_tour_81 3 rfl ?_
      refine j_if_ne hK 96 dX11_tour_83 (by decide) (fun hc => ?_) (fun hc => ?_)
      · replace hf := if_2 hc hf
        refine j_ldcw hK (v := (1000000 : Int32)) cn_X11_290 dX11_tour_96 ?_
        exact t_X11_tour_99 hK hA hk he hf
      · replace hf := if_1 hc hf
        refine j_aload_n hK dX11_tour_86 0 rfl rfl ?_
        refine j_iload hK dX11_tour_87 4 rfl ?_
        refine j_iload_n hK dX11_tour_89 1 rfl rfl ?_
        obtain ⟨r38, S39, h40, hf⟩ := bd_J hf
        refine k_callVi hK (c_X11_farOf h40) dX11_tour_90 zclX11 zo_122 ml_X11_291 mi_X11_farOf mx_X11_farOf in_X11 mc_X11_farOf hy_X11_farOf ⟨by decide, by decide⟩ rfl (Nat.le_of_ble_eq_true rfl) ?_
        refine j_goto hK 99 dX11_tour_93 (by decide) ?_
        exact t_X11_tour_99 hK hA hk he hf)
def f_X11_tour_63b (x1 : Int32) (x3 : Int32) (e : Int32 → St → Option (Int32 × St)) (k : Int32 → St → Option (Int32 × St)) (v : Int32) (S : St) : Option (Int32 × St) := (if (256 : Int32) ≤ v then e v S else lp (f_X11_tour_74b x1 x3 v (fun v41 S42 => k (v + (1 : Int32)) S42)) FU (0 : Int32) S)
theorem t_X11_tour_63 {K : CT} (hK : KO K cX11_tour RX11 8 4 (some .int)) {r : Int32} {S' : St} (hA : zans K = (some (.int r), S')) {x1 : Int32} {x3 : Int32} {e : Int32 → St → Option (Int32 × St)} (he : ∀ (v : Int32) (S : St), e v S = some (r, S') → J K 193 [(0, .ref 122), (1, .int x1), (3, .int x3)] [] S) : ∀ (n : Nat) (v : Int32) (S : St), lp (f_X11_tour_63b x1 x3 e) n v S = some (r, S') → J K 63 [(0, .ref 122), (1, .int x1), (3, .int x3), (4, .int v)] [] S :=
  lp_J (P := fun (v : Int32) (S : St) => J K 63 [(0, .ref 122), (1, .int x1), (3, .int x3), (4, .int v)] [] S) (fun k hk v S hf => by
    unfold f_X11_tour_63b at hf
    refine j_iload hK dX11_tour_63 3 rfl ?_
    refine j_sipush hK (256 : Int32) dX11_tour_65 si_256 ?_
    refine j_icmp_ge hK 193 dX11_tour_68 (by decide) (fun hc => ?_) (fun hc => ?_)
    · replace hf := if_1 hc hf
      refine j_sub [0, 1, 2] rfl ?_
      exact he _ _ hf
    · replace hf := if_2 hc hf
      refine j_iconst hK (0 : Int32) dX11_tour_71 ic_0 ?_
      refine j_istore hK (L' := [(5, .int (0 : Int32)), (0, .ref 122), (1, .int x1), (3, .int x3), (4, .int v)]) dX11_tour_72 (by decide) rfl ?_
      refine j_sub [1, 2, 3, 4, 0] rfl ?_
      refine t_X11_tour_74 hK hA  (fun v41 S42 hf => ?_) _ _ _ hf
      refine j_iinc hK (L' := [(4, .int (v + (1 : Int32))), (0, .ref 122), (1, .int x1), (3, .int x3)]) dX11_tour_187 3 rfl (congrArg (fun y => v + y) ic_1) (by decide) rfl ?_
      refine j_goto hK 63 dX11_tour_190 (by decide) ?_
      refine j_sub [1, 2, 3, 0] rfl ?_
      exact hk _ _ hf)
def f_X11_tour (p1 : Int32) (p2 : Int32) (S : St) : Option (Int32 × St) := lt (sI S 122 0 (0 : Int32)) (fun S43 => bd (f_X11_isCavern p1 S43) (fun r44 S45 => (if r44 = 0 then some ((-1 : Int32), S45) else bd (f_X11_in p2.toInt64 (0 : Int64) (255 : Int64) S45) (fun r47 S48 => (if r47 = 0 then some ((-1 : Int32), S48) else bd (f_X11_laysFar (gI S48 126 36) S48) (fun r50 S51 => lt (p2 &&& (((1 : Int32) <<< (p1 &&& 31)) ^^^ (-1 : Int32))) (fun y53 => bd (f_X11_joinedTo p1 S51) (fun r54 S55 => (if (y53 &&& (r54 ^^^ (-1 : Int32))) = 0 then lp (f_X11_tour_63b p1 y53 (fun v57 S58 => lt (sI S58 122 1 (0 : Int32)) (fun S59 => lp (f_X11_tour_204b p1 y53 (fun v60 S61 => bd (f_X11_place y53 p1 S61) (fun r62 S63 => if inb r62 2048 then some ((gI S63 145 r62.toNatClampNeg), S63) else none))) FU (p1, y53) S59))) FU (0 : Int32) S55 else some ((-2 : Int32), S55))))))))))
theorem c_X11_tour {p1 : Int32} {p2 : Int32} {S : St} {r : Int32} {S' : St} (hf : f_X11_tour p1 p2 S = some (r, S')) : zM yX11_tour cX11_tour 8 4 (some .int) [.ref 122, .int p1, .int p2] S (some (.int r)) S' := by
  refine zM_of (zpl (by decide)) (Nat.le_of_ble_eq_true rfl) rfl (fun K hK hA => ?_)
  unfold f_X11_tour at hf
  refine j_aload_n hK dX11_tour_0 0 rfl rfl ?_
  refine j_iconst hK (0 : Int32) dX11_tour_1 ic_0 ?_
  refine j_putI hK fl_X11_3 dX11_tour_2 zo_122 zf_11_0 ?_
  refine lt_S hf (fun S43 hf => ?_)
  refine j_iload_n hK dX11_tour_5 1 rfl rfl ?_
  obtain ⟨r44, S45, h46, hf⟩ := bd_J hf
  refine k_callSi hK (c_X11_isCavern h46) dX11_tour_6 ml_X11_256 ms_X11_isCavern in_X11 mc_X11_isCavern hy_X11_isCavern ⟨by decide, by decide⟩ rfl (Nat.le_of_ble_eq_true rfl) ?_
  refine j_if_eq hK 24 dX11_tour_9 (by decide) (fun hc => ?_) (fun hc => ?_)
  · replace hf := if_1 hc hf
    refine j_iconst hK (-1 : Int32) dX11_tour_24 ic_m1 ?_
    exact j_iret hK dX11_tour_25 rfl (rt_I hA hf)
  · replace hf := if_2 hc hf
    refine j_iload_n hK dX11_tour_12 2 rfl rfl ?_
    refine j_i2l hK dX11_tour_13 ?_
    refine j_lconst hK (0 : Int64) dX11_tour_14 lc_0 ?_
    refine j_ldc2 hK (v := (255 : Int64)) cl_X11_398 dX11_tour_15 ?_
    obtain ⟨r47, S48, h49, hf⟩ := bd_J hf
    refine k_callSi hK (c_X11_in h49) dX11_tour_18 ml_X11_131 ms_X11_in in_X11 mc_X11_in hy_X11_in ⟨by decide, by decide⟩ rfl (Nat.le_of_ble_eq_true rfl) ?_
    refine j_if_ne hK 26 dX11_tour_21 (by decide) (fun hc => ?_) (fun hc => ?_)
    · replace hf := if_2 hc hf
      refine j_aload_n hK dX11_tour_26 0 rfl rfl ?_
      refine j_aload_n hK dX11_tour_27 0 rfl rfl ?_
      refine j_getR hK fl_X11_31 dX11_tour_28 zo_122 zf_11_7 zr_122_7 ?_
      refine j_bipush hK (36 : Int32) dX11_tour_31 bi_36 ?_
      refine k_iald hK dX11_tour_33 zb_126 (by decide) tn_36 ?_
      obtain ⟨r50, S51, h52, hf⟩ := bd_J hf
      refine k_callVv hK (c_X11_laysFar h52) dX11_tour_34 zclX11 zo_122 ml_X11_302 mi_X11_laysFar mx_X11_laysFar in_X11 mc_X11_laysFar hy_X11_laysFar ⟨by decide, by decide⟩ rfl (Nat.le_of_ble_eq_true rfl) ?_
      refine j_iload_n hK dX11_tour_37 2 rfl rfl ?_
      refine j_pc (pc' := 38) rfl ?_
      refine j_iconst hK (1 : Int32) dX11_tour_38 ic_1 ?_
      refine j_iload_n hK dX11_tour_39 1 rfl rfl ?_
      refine j_ishl hK dX11_tour_40 ?_
      refine j_iconst hK (-1 : Int32) dX11_tour_41 ic_m1 ?_
      refine j_ixor hK dX11_tour_42 ?_
      refine j_iand hK dX11_tour_43 ?_
      refine lt_I hf (fun y53 hf => ?_)
      refine j_istore_n hK (L' := [(3, .int y53), (0, .ref 122), (1, .int p1), (2, .int p2)]) dX11_tour_44 rfl (by decide) rfl ?_
      refine j_iload_n hK dX11_tour_45 0 rfl rfl ?_
      refine j_pc (pc' := 46) rfl ?_
      refine j_aload_n hK dX11_tour_46 1 rfl rfl ?_
      refine j_iload_n hK dX11_tour_47 2 rfl rfl ?_
      obtain ⟨r54, S55, h56, hf⟩ := bd_J hf
      refine k_callVi hK (c_X11_joinedTo h56) dX11_tour_48 zclX11 zo_122 ml_X11_308 mi_X11_joinedTo mx_X11_joinedTo in_X11 mc_X11_joinedTo hy_X11_joinedTo ⟨by decide, by decide⟩ rfl (Nat.le_of_ble_eq_true rfl) ?_
      refine j_iconst hK (-1 : Int32) dX11_tour_51 ic_m1 ?_
      refine j_ixor hK dX11_tour_52 ?_
      refine j_iand hK dX11_tour_53 ?_
      refine j_if_eq hK 60 dX11_tour_54 (by decide) (fun hc => ?_) (fun hc => ?_)
      · replace hf := if_1 hc hf
        refine j_iconst hK (0 : Int32) dX11_tour_60 ic_0 ?_
        refine j_istore hK (L' := [(4, .int (0 : Int32)), (3, .int y53), (0, .ref 122), (1, .int p1), (2, .int p2)]) dX11_tour_61 (by decide) rfl ?_
        refine j_sub [2, 3, 1, 0] rfl ?_
        refine t_X11_tour_63 hK hA  (fun v57 S58 hf => ?_) _ _ _ hf
        refine j_aload_n hK dX11_tour_193 0 rfl rfl ?_
        refine j_iconst hK (0 : Int32) dX11_tour_194 ic_0 ?_
        refine j_putI hK fl_X11_15 dX11_tour_195 zo_122 zf_11_1 ?_
        refine lt_S hf (fun S59 hf => ?_)
        refine j_iload_n hK dX11_tour_198 1 rfl rfl ?_
        refine j_istore hK (L' := [(4, .int p1), (0, .ref 122), (1, .int p1), (3, .int y53)]) dX11_tour_199 (by decide) rfl ?_
        refine j_iload_n hK dX11_tour_201 3 rfl rfl ?_
        refine j_istore hK (L' := [(5, .int y53), (4, .int p1), (0, .ref 122), (1, .int p1), (3, .int y53)]) dX11_tour_202 (by decide) rfl ?_
        refine j_sub [2, 3, 4, 1, 0] rfl ?_
        refine t_X11_tour_204 hK hA  (fun v60 S61 hf => ?_) _ _ _ hf
        refine j_aload_n hK dX11_tour_296 0 rfl rfl ?_
        refine j_getR hK fl_X11_89 dX11_tour_297 zo_122 zf_11_38 zr_122_38 ?_
        refine j_iload_n hK dX11_tour_300 2 rfl rfl ?_
        refine j_iload_n hK dX11_tour_301 1 rfl rfl ?_
        obtain ⟨r62, S63, h64, hf⟩ := bd_J hf
        refine k_callSi hK (c_X11_place h64) dX11_tour_302 ml_X11_400 ms_X11_place in_X11 mc_X11_place hy_X11_place ⟨by decide, by decide⟩ rfl (Nat.le_of_ble_eq_true rfl) ?_
        obtain ⟨hi65, hf⟩ := gd hf
        refine k_iald hK dX11_tour_305 zb_145 hi65 rfl ?_
        exact j_iret hK dX11_tour_306 rfl (rt_I hA hf)
      · replace hf := if_2 hc hf
        refine j_bipush hK (-2 : Int32) dX11_tour_57 bi_m2 ?_
        exact j_iret hK dX11_tour_59 rfl (rt_I hA hf)
    · replace hf := if_1 hc hf
      refine j_iconst hK (-1 : Int32) dX11_tour_24 ic_m1 ?_
      exact j_iret hK dX11_tour_25 rfl (rt_I hA hf)
